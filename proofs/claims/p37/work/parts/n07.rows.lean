theorem nz_of {x : Int32} (h : vp_nar .boolean x = x) : narrow .boolean (.int x) = .int x := by
  have e : narrow .boolean (.int x) = .int (vp_nar .boolean x) := rfl
  rw [e, h]
theorem nz_fit {x : Int32} (h : vp_nar .boolean x = x) : fits .boolean (.int x) = true := by
  have e := nz_of h
  simp only [narrow, Value.int.injEq] at e
  have h2 : (x.toBitVec &&& 1#32) = x.toBitVec := by
    have h5 := congrArg Int32.toBitVec e
    exact h5
  have h3 : x.toBitVec.toNat ≤ 1 := by rw [← h2, BitVec.toNat_and]; exact Nat.and_le_right
  show (x == 0 || x == 1) = true
  rcases (show x.toBitVec.toNat = 0 ∨ x.toBitVec.toNat = 1 by omega) with h4 | h4
  · rw [show x = 0 from Int32.toBitVec_inj.mp (BitVec.eq_of_toNat_eq h4)]; rfl
  · rw [show x = 1 from Int32.toBitVec_inj.mp (BitVec.eq_of_toNat_eq h4)]; rfl
section ROWS
variable {K : Kt} {X : Xt} {Q : State → Prop} {ce sl : Nat} {M : Mem} {pc : Nat} {L L' : List (Nat × Lv)} {st : List Lv} {rm : Room} {cc : ByteArray} {nL : Nat} {own : String} {ret : Option FieldType}
theorem Wt.lift {pc' : Nat} {st' : List Lv} (h : ∀ (H : Heap) (locs : List Loc) (ls : Array Slot), lv_has ls (xC X).maxLocals (lvs K L) → WX X H locs ce sl Q (F0 (xM X) pc' ls (st'.map (val K))) → WX X H locs ce sl Q (F0 (xM X) pc ls (st.map (val K)))) (k : Wt K X Q ce sl M pc' L st') : Wt K X Q ce sl M pc L st :=
  fun c H locs ls a b z d => h H locs ls d (k c H locs ls a b z d)
theorem Wt.br {c : Prop} {p1 p2 : Nat} {s1 s2 : List Lv} (h : ∀ (H : Heap) (locs : List Loc) (ls : Array Slot), (c → WX X H locs ce sl Q (F0 (xM X) p1 ls (s1.map (val K)))) → (¬ c → WX X H locs ce sl Q (F0 (xM X) p2 ls (s2.map (val K)))) → WX X H locs ce sl Q (F0 (xM X) pc ls (st.map (val K)))) (kt : c → Wt K X Q ce sl M p1 L s1) (kf : ¬ c → Wt K X Q ce sl M p2 L s2) : Wt K X Q ce sl M pc L st :=
  fun cp H locs ls a b z d => h H locs ls (fun hc => kt hc cp H locs ls a b z d) (fun hc => kf hc cp H locs ls a b z d)
theorem lvs_at {j i : Nat} {v : Lv} (h : L[j]? = some (i, v)) : (lvs K L)[j]? = some (i, val K v) := by
  simp only [lvs, List.getElem?_map, h, Option.map_some]
theorem lvs_set {i : Nat} {v : Lv} (h : (i, v) :: L.filter (fun q => !(q.1 == i) && !(q.1 + 1 == i && catL q.2 == 2)) = L') : (i, val K v) :: (lvs K L).filter (fun q => !(q.1 == i) && !(q.1 + 1 == i && q.2.category == 2)) = lvs K L' := by
  subst h
  simp only [lvs, List.map_cons, List.filter_map]
  congr 2
  apply List.filter_congr
  intro q _
  simp only [Function.comp, val_cat]
theorem lvs_set2 {i : Nat} {v : Lv} (h : (i, v) :: L.filter (fun q => !(q.1 == i) && (!(q.1 == i + 1) && !(q.1 + 1 == i && catL q.2 == 2))) = L') : (i, val K v) :: (lvs K L).filter (fun q => !(q.1 == i) && (!(q.1 == i + 1) && !(q.1 + 1 == i && q.2.category == 2))) = lvs K L' := by
  subst h
  simp only [lvs, List.map_cons, List.filter_map]
  congr 2
  apply List.filter_congr
  intro q _
  simp only [Function.comp, val_cat]
theorem Wt.sub (ks : List Nat) (h : ks.filterMap (fun k => L[k]?) = L') (k : Wt K X Q ce sl M pc L' st) : Wt K X Q ce sl M pc L st := by
  intro c H locs ls a b z d
  refine k c H locs ls a b z (lv_sub d ks ?_)
  subst h
  unfold lv_pick
  simp only [lvs, List.map_filterMap, List.getElem?_map]
theorem Wt.mem {M1 : Mem} (e : M1 = M) (k : Wt K X Q ce sl M1 pc L st) : Wt K X Q ce sl M pc L st := e ▸ k

theorem w_iadd (hB : Bx K X rm cc nL own ret) {x y : Int32} (d : decode cc pc = .ok (.iadd, 1)) (k : Wt K X Q ce sl M (pc + 1) L (vi (x + y) :: st)) : Wt K X Q ce sl M pc L (vi y :: vi x :: st) := Wt.lift (fun H locs ls _ => lv_iadd hB.1 hB.2.1 d) k
theorem w_isub (hB : Bx K X rm cc nL own ret) {x y : Int32} (d : decode cc pc = .ok (.isub, 1)) (k : Wt K X Q ce sl M (pc + 1) L (vi (x - y) :: st)) : Wt K X Q ce sl M pc L (vi y :: vi x :: st) := Wt.lift (fun H locs ls _ => lv_isub hB.1 hB.2.1 d) k
theorem w_imul (hB : Bx K X rm cc nL own ret) {x y : Int32} (d : decode cc pc = .ok (.imul, 1)) (k : Wt K X Q ce sl M (pc + 1) L (vi (x * y) :: st)) : Wt K X Q ce sl M pc L (vi y :: vi x :: st) := Wt.lift (fun H locs ls _ => lv_imul hB.1 hB.2.1 d) k
theorem w_iand (hB : Bx K X rm cc nL own ret) {x y : Int32} (d : decode cc pc = .ok (.iand, 1)) (k : Wt K X Q ce sl M (pc + 1) L (vi (x &&& y) :: st)) : Wt K X Q ce sl M pc L (vi y :: vi x :: st) := Wt.lift (fun H locs ls _ => lv_iand hB.1 hB.2.1 d) k
theorem w_ior (hB : Bx K X rm cc nL own ret) {x y : Int32} (d : decode cc pc = .ok (.ior, 1)) (k : Wt K X Q ce sl M (pc + 1) L (vi (x ||| y) :: st)) : Wt K X Q ce sl M pc L (vi y :: vi x :: st) := Wt.lift (fun H locs ls _ => lv_ior hB.1 hB.2.1 d) k
theorem w_ixor (hB : Bx K X rm cc nL own ret) {x y : Int32} (d : decode cc pc = .ok (.ixor, 1)) (k : Wt K X Q ce sl M (pc + 1) L (vi (x ^^^ y) :: st)) : Wt K X Q ce sl M pc L (vi y :: vi x :: st) := Wt.lift (fun H locs ls _ => lv_ixor hB.1 hB.2.1 d) k
theorem w_ishl (hB : Bx K X rm cc nL own ret) {x y : Int32} (d : decode cc pc = .ok (.ishl, 1)) (k : Wt K X Q ce sl M (pc + 1) L (vi (x <<< (y &&& 31)) :: st)) : Wt K X Q ce sl M pc L (vi y :: vi x :: st) := Wt.lift (fun H locs ls _ => lv_ishl hB.1 hB.2.1 d) k
theorem w_ishr (hB : Bx K X rm cc nL own ret) {x y : Int32} (d : decode cc pc = .ok (.ishr, 1)) (k : Wt K X Q ce sl M (pc + 1) L (vi (x >>> (y &&& 31)) :: st)) : Wt K X Q ce sl M pc L (vi y :: vi x :: st) := Wt.lift (fun H locs ls _ => lv_ishr hB.1 hB.2.1 d) k
theorem w_iushr (hB : Bx K X rm cc nL own ret) {x y : Int32} (d : decode cc pc = .ok (.iushr, 1)) (k : Wt K X Q ce sl M (pc + 1) L (vi ((x.toUInt32 >>> (y.toUInt32 &&& Int32.toUInt32 31)).toInt32) :: st)) : Wt K X Q ce sl M pc L (vi y :: vi x :: st) := Wt.lift (fun H locs ls _ => lv_iushr hB.1 hB.2.1 d rfl) k
theorem w_ineg (hB : Bx K X rm cc nL own ret) {x : Int32} (d : decode cc pc = .ok (.ineg, 1)) (k : Wt K X Q ce sl M (pc + 1) L (vi (-x) :: st)) : Wt K X Q ce sl M pc L (vi x :: st) := Wt.lift (fun H locs ls _ => lv_ineg hB.1 hB.2.1 d) k
theorem w_idiv (hB : Bx K X rm cc nL own ret) {x y : Int32} (hne : ¬ y = 0) (d : decode cc pc = .ok (.idiv, 1)) (k : Wt K X Q ce sl M (pc + 1) L (vi (x / y) :: st)) : Wt K X Q ce sl M pc L (vi y :: vi x :: st) := Wt.lift (fun H locs ls _ => lv_idiv hB.1 hB.2.1 d hne) k
theorem w_irem (hB : Bx K X rm cc nL own ret) {x y : Int32} (hne : ¬ y = 0) (d : decode cc pc = .ok (.irem, 1)) (k : Wt K X Q ce sl M (pc + 1) L (vi (x - x / y * y) :: st)) : Wt K X Q ce sl M pc L (vi y :: vi x :: st) := Wt.lift (fun H locs ls _ => lv_irem hB.1 hB.2.1 d hne) k
theorem w_i2l (hB : Bx K X rm cc nL own ret) {x : Int32} (d : decode cc pc = .ok (.i2l, 1)) (k : Wt K X Q ce sl M (pc + 1) L (vl x.toInt64 :: st)) : Wt K X Q ce sl M pc L (vi x :: st) := Wt.lift (fun H locs ls _ => lv_i2l hB.1 hB.2.1 d rfl) k
theorem w_i2b (hB : Bx K X rm cc nL own ret) {x : Int32} (d : decode cc pc = .ok (.i2b, 1)) (k : Wt K X Q ce sl M (pc + 1) L (vi x.toInt8.toInt32 :: st)) : Wt K X Q ce sl M pc L (vi x :: st) := Wt.lift (fun H locs ls _ => lv_i2b hB.1 hB.2.1 d rfl) k
theorem w_i2s (hB : Bx K X rm cc nL own ret) {x : Int32} (d : decode cc pc = .ok (.i2s, 1)) (k : Wt K X Q ce sl M (pc + 1) L (vi x.toInt16.toInt32 :: st)) : Wt K X Q ce sl M pc L (vi x :: st) := Wt.lift (fun H locs ls _ => lv_i2s hB.1 hB.2.1 d rfl) k
theorem w_i2c (hB : Bx K X rm cc nL own ret) {x : Int32} (d : decode cc pc = .ok (.i2c, 1)) (k : Wt K X Q ce sl M (pc + 1) L (vi (x.toUInt32 % 65536).toInt32 :: st)) : Wt K X Q ce sl M pc L (vi x :: st) := Wt.lift (fun H locs ls _ => lv_i2c hB.1 hB.2.1 d rfl) k
theorem w_lsub (hB : Bx K X rm cc nL own ret) {x y : Int64} (d : decode cc pc = .ok (.lsub, 1)) (k : Wt K X Q ce sl M (pc + 1) L (vl (x - y) :: st)) : Wt K X Q ce sl M pc L (vl y :: vl x :: st) := Wt.lift (fun H locs ls _ => lv_lsub hB.1 hB.2.1 d) k
theorem w_lor (hB : Bx K X rm cc nL own ret) {x y : Int64} (d : decode cc pc = .ok (.lor, 1)) (k : Wt K X Q ce sl M (pc + 1) L (vl (x ||| y) :: st)) : Wt K X Q ce sl M pc L (vl y :: vl x :: st) := Wt.lift (fun H locs ls _ => lv_lor hB.1 hB.2.1 d) k
theorem w_lshl (hB : Bx K X rm cc nL own ret) {x : Int64} {y : Int32} (d : decode cc pc = .ok (.lshl, 1)) (k : Wt K X Q ce sl M (pc + 1) L (vl (x <<< (y.toInt64 &&& 63)) :: st)) : Wt K X Q ce sl M pc L (vi y :: vl x :: st) := Wt.lift (fun H locs ls _ => lv_lshl hB.1 hB.2.1 d rfl) k
theorem w_lcmp (hB : Bx K X rm cc nL own ret) {x y : Int64} (d : decode cc pc = .ok (.lcmp, 1)) (k : Wt K X Q ce sl M (pc + 1) L (vi (lg_cmp x y) :: st)) : Wt K X Q ce sl M pc L (vl y :: vl x :: st) := Wt.lift (fun H locs ls _ => W.lcmp hB.1 hB.2.1 d) k
theorem w_iconst (hB : Bx K X rm cc nL own ret) {n : Int} (v : Int32) (hv : Int32.ofInt n = v) (d : decode cc pc = .ok (.iconst n, 1)) (k : Wt K X Q ce sl M (pc + 1) L (vi v :: st)) : Wt K X Q ce sl M pc L (st) := Wt.lift (fun H locs ls _ => lv_iconst hB.1 hB.2.1 d hv) k
theorem w_bipush (hB : Bx K X rm cc nL own ret) {n : Int} (v : Int32) (hv : (Int8.ofInt n).toInt32 = v) (d : decode cc pc = .ok (.bipush n, 2)) (k : Wt K X Q ce sl M (pc + 2) L (vi v :: st)) : Wt K X Q ce sl M pc L (st) := Wt.lift (fun H locs ls _ => lv_bipush hB.1 hB.2.1 d hv) k
theorem w_sipush (hB : Bx K X rm cc nL own ret) {n : Int} (v : Int32) (hv : (Int16.ofInt n).toInt32 = v) (d : decode cc pc = .ok (.sipush n, 3)) (k : Wt K X Q ce sl M (pc + 3) L (vi v :: st)) : Wt K X Q ce sl M pc L (st) := Wt.lift (fun H locs ls _ => lv_sipush hB.1 hB.2.1 d hv) k
theorem w_lconst (hB : Bx K X rm cc nL own ret) {n : Fin 2} (v : Int64) (hv : Int64.ofNat (n : Nat) = v) (d : decode cc pc = .ok (.lconst n, 1)) (k : Wt K X Q ce sl M (pc + 1) L (vl v :: st)) : Wt K X Q ce sl M pc L (st) := Wt.lift (fun H locs ls _ => lv_lconst hB.1 hB.2.1 d hv) k
theorem w_ldc (hB : Bx K X rm cc nL own ret) {index : Nat} {v : Int32} (hc : Cond.constant own index v ∈ tblG) (d : decode cc pc = .ok (.ldc index, 2)) (k : Wt K X Q ce sl M (pc + 2) L (vi v :: st)) : Wt K X Q ce sl M pc L (st) := Wt.lift (fun H locs ls _ => lv_ldc hB.1 hB.2.1 hB.2.2.2.1 (hB.2.2.2.2.1 _ hc) d) k
theorem w_ldcw (hB : Bx K X rm cc nL own ret) {index : Nat} {v : Int32} (hc : Cond.constant own index v ∈ tblG) (d : decode cc pc = .ok (.ldc_w index, 3)) (k : Wt K X Q ce sl M (pc + 3) L (vi v :: st)) : Wt K X Q ce sl M pc L (st) := Wt.lift (fun H locs ls _ => lv_ldcw hB.1 hB.2.1 hB.2.2.2.1 (hB.2.2.2.2.1 _ hc) d) k
theorem w_ldc2 (hB : Bx K X rm cc nL own ret) {index : Nat} {v : Int64} (hc : Cond.constantLong own index v ∈ tblG) (d : decode cc pc = .ok (.ldc2_w index, 3)) (k : Wt K X Q ce sl M (pc + 3) L (vl v :: st)) : Wt K X Q ce sl M pc L (st) := Wt.lift (fun H locs ls _ => lv_ldc2 hB.1 hB.2.1 hB.2.2.2.1 (hB.2.2.2.2.1 _ hc) d) k
theorem w_dup (hB : Bx K X rm cc nL own ret) {v : Lv} (hv : catL v = 1) (d : decode cc pc = .ok (.dup, 1)) (k : Wt K X Q ce sl M (pc + 1) L (v :: v :: st)) : Wt K X Q ce sl M pc L (v :: st) := Wt.lift (fun H locs ls _ => lv_dup hB.1 hB.2.1 d ((val_cat K v).trans hv)) k
theorem w_pop (hB : Bx K X rm cc nL own ret) {v : Lv} (hv : catL v = 1) (d : decode cc pc = .ok (.pop, 1)) (k : Wt K X Q ce sl M (pc + 1) L (st)) : Wt K X Q ce sl M pc L (v :: st) := Wt.lift (fun H locs ls _ => lv_pop hB.1 hB.2.1 d ((val_cat K v).trans hv)) k
theorem w_dup2 (hB : Bx K X rm cc nL own ret) {u v : Lv} (hv : catL v = 1) (hu : catL u = 1) (d : decode cc pc = .ok (.dup2, 1)) (k : Wt K X Q ce sl M (pc + 1) L (v :: u :: v :: u :: st)) : Wt K X Q ce sl M pc L (v :: u :: st) := Wt.lift (fun H locs ls _ => lv_dup2_11 hB.1 hB.2.1 d ((val_cat K v).trans hv) ((val_cat K u).trans hu)) k
theorem w_iload (hB : Bx K X rm cc nL own ret) (j : Nat) {i : Nat} {x : Int32} (d : decode cc pc = .ok (.iload i, 2)) (hl : L[j]? = some (i, vi x)) (k : Wt K X Q ce sl M (pc + 2) L (vi x :: st)) : Wt K X Q ce sl M pc L st := Wt.lift (fun H locs ls h => lv_iload hB.1 hB.2.1 d (lv_at h j (lvs_at hl))) k
theorem w_iload_n (hB : Bx K X rm cc nL own ret) (j : Nat) {i : Nat} {x : Int32} {q : Fin 4} (d : decode cc pc = .ok (.iload_n q, 1)) (hi : (q : Nat) = i) (hl : L[j]? = some (i, vi x)) (k : Wt K X Q ce sl M (pc + 1) L (vi x :: st)) : Wt K X Q ce sl M pc L st := Wt.lift (fun H locs ls h => lv_iload_n hB.1 hB.2.1 d hi (lv_at h j (lvs_at hl))) k
theorem w_lload (hB : Bx K X rm cc nL own ret) (j : Nat) {i : Nat} {x : Int64} (d : decode cc pc = .ok (.lload i, 2)) (hl : L[j]? = some (i, vl x)) (k : Wt K X Q ce sl M (pc + 2) L (vl x :: st)) : Wt K X Q ce sl M pc L st := Wt.lift (fun H locs ls h => lv_lload hB.1 hB.2.1 d (lv_at h j (lvs_at hl))) k
theorem w_lload_n (hB : Bx K X rm cc nL own ret) (j : Nat) {i : Nat} {x : Int64} {q : Fin 4} (d : decode cc pc = .ok (.lload_n q, 1)) (hi : (q : Nat) = i) (hl : L[j]? = some (i, vl x)) (k : Wt K X Q ce sl M (pc + 1) L (vl x :: st)) : Wt K X Q ce sl M pc L st := Wt.lift (fun H locs ls h => lv_lload_n hB.1 hB.2.1 d hi (lv_at h j (lvs_at hl))) k
theorem w_aload (hB : Bx K X rm cc nL own ret) (j : Nat) {i n : Nat} (d : decode cc pc = .ok (.aload i, 2)) (hl : L[j]? = some (i, vr n)) (k : Wt K X Q ce sl M (pc + 2) L (vr n :: st)) : Wt K X Q ce sl M pc L st := by
  refine Wt.lift (fun H locs ls h kk => ?_) k
  have h1 := lv_at h j (lvs_at hl)
  simp only [List.map_cons, val] at h1 kk ⊢
  cases hr : rn K n with
  | none => rw [hr] at h1 kk; exact lv_aloadN hB.1 hB.2.1 d h1 kk
  | some a => rw [hr] at h1 kk; exact lv_aload hB.1 hB.2.1 d h1 kk
theorem w_aload_n (hB : Bx K X rm cc nL own ret) (j : Nat) {i n : Nat} {q : Fin 4} (d : decode cc pc = .ok (.aload_n q, 1)) (hi : (q : Nat) = i) (hl : L[j]? = some (i, vr n)) (k : Wt K X Q ce sl M (pc + 1) L (vr n :: st)) : Wt K X Q ce sl M pc L st := by
  refine Wt.lift (fun H locs ls h kk => ?_) k
  have h1 := lv_at h j (lvs_at hl)
  simp only [List.map_cons, val] at h1 kk ⊢
  cases hr : rn K n with
  | none => rw [hr] at h1 kk; exact lv_aload_nN hB.1 hB.2.1 d hi h1 kk
  | some a => rw [hr] at h1 kk; exact lv_aload_n hB.1 hB.2.1 d hi h1 kk
theorem Wt.st1 {pc' i : Nat} {v : Lv} {st' : List Lv} (hB : Bx K X rm cc nL own ret) (hl : (i, v) :: L.filter (fun q => !(q.1 == i) && !(q.1 + 1 == i && catL q.2 == 2)) = L')
    (h : ∀ (H : Heap) (locs : List Loc) (ls : Array Slot), lv_has ls nL (lvs K L) → (i, val K v) :: (lvs K L).filter (fun q => !(q.1 == i) && !(q.1 + 1 == i && q.2.category == 2)) = lvs K L' → (∀ ls' : Array Slot, lv_has ls' nL (lvs K L') → WX X H locs ce sl Q (F0 (xM X) pc' ls' (st'.map (val K)))) → WX X H locs ce sl Q (F0 (xM X) pc ls (st.map (val K))))
    (k : Wt K X Q ce sl M pc' L' st') : Wt K X Q ce sl M pc L st := by
  intro c H locs ls a b z dd
  rw [hB.2.2.1] at dd
  refine h H locs ls dd (lvs_set hl) (fun ls' hls => k c H locs ls' a b z ?_)
  rw [hB.2.2.1]; exact hls
theorem w_istore (hB : Bx K X rm cc nL own ret) {i : Nat} {x y : Int32} (d : decode cc pc = .ok (.istore i, 2)) (hn : i < nL) (e : y = x) (hl : (i, vi y) :: L.filter (fun q => !(q.1 == i) && !(q.1 + 1 == i && catL q.2 == 2)) = L') (k : Wt K X Q ce sl M (pc + 2) L' st) : Wt K X Q ce sl M pc L (vi x :: st) := by
  subst e
  exact Wt.st1 hB hl (fun H locs ls h e kk => lv_istore hB.1 hB.2.1 d h hn e kk) k
theorem w_istore_n (hB : Bx K X rm cc nL own ret) {i : Nat} {q : Fin 4} {x y : Int32} (d : decode cc pc = .ok (.istore_n q, 1)) (hi : (q : Nat) = i) (hn : i < nL) (e : y = x) (hl : (i, vi y) :: L.filter (fun q => !(q.1 == i) && !(q.1 + 1 == i && catL q.2 == 2)) = L') (k : Wt K X Q ce sl M (pc + 1) L' st) : Wt K X Q ce sl M pc L (vi x :: st) := by
  subst e
  exact Wt.st1 hB hl (fun H locs ls h e kk => lv_istore_n hB.1 hB.2.1 d hi h hn e kk) k
theorem w_astore (hB : Bx K X rm cc nL own ret) {i n : Nat} (d : decode cc pc = .ok (.astore i, 2)) (hn : i < nL) (hl : (i, vr n) :: L.filter (fun q => !(q.1 == i) && !(q.1 + 1 == i && catL q.2 == 2)) = L') (k : Wt K X Q ce sl M (pc + 2) L' st) : Wt K X Q ce sl M pc L (vr n :: st) := by
  refine Wt.st1 hB hl (fun H locs ls h e kk => ?_) k
  simp only [List.map_cons, val] at e ⊢
  cases hr : rn K n with
  | none => rw [hr] at e; exact lv_astoreN hB.1 hB.2.1 d h hn e kk
  | some a => rw [hr] at e; exact lv_astore hB.1 hB.2.1 d h hn e kk
theorem w_astore_n (hB : Bx K X rm cc nL own ret) {i n : Nat} {q : Fin 4} (d : decode cc pc = .ok (.astore_n q, 1)) (hi : (q : Nat) = i) (hn : i < nL) (hl : (i, vr n) :: L.filter (fun q => !(q.1 == i) && !(q.1 + 1 == i && catL q.2 == 2)) = L') (k : Wt K X Q ce sl M (pc + 1) L' st) : Wt K X Q ce sl M pc L (vr n :: st) := by
  refine Wt.st1 hB hl (fun H locs ls h e kk => ?_) k
  simp only [List.map_cons, val] at e ⊢
  cases hr : rn K n with
  | none => rw [hr] at e; exact lv_astore_nN hB.1 hB.2.1 d hi h hn e kk
  | some a => rw [hr] at e; exact lv_astore_n hB.1 hB.2.1 d hi h hn e kk
theorem w_lstore_n (hB : Bx K X rm cc nL own ret) {i : Nat} {q : Fin 4} {x y : Int64} (d : decode cc pc = .ok (.lstore_n q, 1)) (hi : (q : Nat) = i) (hn : i + 1 < nL) (e : y = x) (hl : (i, vl y) :: L.filter (fun q => !(q.1 == i) && (!(q.1 == i + 1) && !(q.1 + 1 == i && catL q.2 == 2))) = L') (k : Wt K X Q ce sl M (pc + 1) L' st) : Wt K X Q ce sl M pc L (vl x :: st) := by
  subst e
  intro c H locs ls a b z dd
  rw [hB.2.2.1] at dd
  exact lv_lstore_n hB.1 hB.2.1 d hi dd hn (lvs_set2 hl) (fun ls' hls => k c H locs ls' a b z (by rw [hB.2.2.1]; exact hls))
theorem w_iinc (hB : Bx K X rm cc nL own ret) (j : Nat) {i : Nat} {n : Int} {x y v : Int32} (d : decode cc pc = .ok (.iinc i n, 3)) (hj : L[j]? = some (i, vi x)) (hn : i < nL) (hv : Int32.ofInt n = v) (e : y = x + v) (hl : (i, vi y) :: L.filter (fun q => !(q.1 == i) && !(q.1 + 1 == i && catL q.2 == 2)) = L') (k : Wt K X Q ce sl M (pc + 3) L' st) : Wt K X Q ce sl M pc L st := by
  subst hv
  subst e
  exact Wt.st1 hB hl (fun H locs ls h e kk => lv_iinc hB.1 hB.2.1 d h (lvs_at hj) rfl hn e kk) k
theorem w_icmp_eq (hB : Bx K X rm cc nL own ret) {x y : Int32} {off : Int} (tgt : Nat) (d : decode cc pc = .ok (.if_icmp .eq off, 3)) (ht : (pc : Int) + off = (tgt : Int)) (kt : x = y → Wt K X Q ce sl M tgt L st) (kf : ¬ x = y → Wt K X Q ce sl M (pc + 3) L st) : Wt K X Q ce sl M pc L (vi y :: vi x :: st) :=
  fun cp H locs ls a b z dd => lv_icmp_eq hB.1 hB.2.1 d ht (fun hc => kt hc cp H locs ls a b z dd) (fun hc => kf hc cp H locs ls a b z dd)
theorem w_if_eq (hB : Bx K X rm cc nL own ret) {x : Int32} {off : Int} (tgt : Nat) (d : decode cc pc = .ok (.ifCond .eq off, 3)) (ht : (pc : Int) + off = (tgt : Int)) (kt : x = 0 → Wt K X Q ce sl M tgt L st) (kf : ¬ x = 0 → Wt K X Q ce sl M (pc + 3) L st) : Wt K X Q ce sl M pc L (vi x :: st) :=
  fun cp H locs ls a b z dd => lv_if_eq hB.1 hB.2.1 d ht (fun hc => kt hc cp H locs ls a b z dd) (fun hc => kf hc cp H locs ls a b z dd)
theorem w_icmp_ne (hB : Bx K X rm cc nL own ret) {x y : Int32} {off : Int} (tgt : Nat) (d : decode cc pc = .ok (.if_icmp .ne off, 3)) (ht : (pc : Int) + off = (tgt : Int)) (kt : ¬ x = y → Wt K X Q ce sl M tgt L st) (kf : x = y → Wt K X Q ce sl M (pc + 3) L st) : Wt K X Q ce sl M pc L (vi y :: vi x :: st) :=
  fun cp H locs ls a b z dd => lv_icmp_ne hB.1 hB.2.1 d ht (fun hc => kt hc cp H locs ls a b z dd) (fun hc => kf hc cp H locs ls a b z dd)
theorem w_if_ne (hB : Bx K X rm cc nL own ret) {x : Int32} {off : Int} (tgt : Nat) (d : decode cc pc = .ok (.ifCond .ne off, 3)) (ht : (pc : Int) + off = (tgt : Int)) (kt : ¬ x = 0 → Wt K X Q ce sl M tgt L st) (kf : x = 0 → Wt K X Q ce sl M (pc + 3) L st) : Wt K X Q ce sl M pc L (vi x :: st) :=
  fun cp H locs ls a b z dd => lv_if_ne hB.1 hB.2.1 d ht (fun hc => kt hc cp H locs ls a b z dd) (fun hc => kf hc cp H locs ls a b z dd)
theorem w_icmp_lt (hB : Bx K X rm cc nL own ret) {x y : Int32} {off : Int} (tgt : Nat) (d : decode cc pc = .ok (.if_icmp .lt off, 3)) (ht : (pc : Int) + off = (tgt : Int)) (kt : x < y → Wt K X Q ce sl M tgt L st) (kf : ¬ x < y → Wt K X Q ce sl M (pc + 3) L st) : Wt K X Q ce sl M pc L (vi y :: vi x :: st) :=
  fun cp H locs ls a b z dd => lv_icmp_lt hB.1 hB.2.1 d ht (fun hc => kt hc cp H locs ls a b z dd) (fun hc => kf hc cp H locs ls a b z dd)
theorem w_if_lt (hB : Bx K X rm cc nL own ret) {x : Int32} {off : Int} (tgt : Nat) (d : decode cc pc = .ok (.ifCond .lt off, 3)) (ht : (pc : Int) + off = (tgt : Int)) (kt : x < 0 → Wt K X Q ce sl M tgt L st) (kf : ¬ x < 0 → Wt K X Q ce sl M (pc + 3) L st) : Wt K X Q ce sl M pc L (vi x :: st) :=
  fun cp H locs ls a b z dd => lv_if_lt hB.1 hB.2.1 d ht (fun hc => kt hc cp H locs ls a b z dd) (fun hc => kf hc cp H locs ls a b z dd)
theorem w_icmp_ge (hB : Bx K X rm cc nL own ret) {x y : Int32} {off : Int} (tgt : Nat) (d : decode cc pc = .ok (.if_icmp .ge off, 3)) (ht : (pc : Int) + off = (tgt : Int)) (kt : y ≤ x → Wt K X Q ce sl M tgt L st) (kf : ¬ y ≤ x → Wt K X Q ce sl M (pc + 3) L st) : Wt K X Q ce sl M pc L (vi y :: vi x :: st) :=
  fun cp H locs ls a b z dd => lv_icmp_ge hB.1 hB.2.1 d ht (fun hc => kt hc cp H locs ls a b z dd) (fun hc => kf hc cp H locs ls a b z dd)
theorem w_if_ge (hB : Bx K X rm cc nL own ret) {x : Int32} {off : Int} (tgt : Nat) (d : decode cc pc = .ok (.ifCond .ge off, 3)) (ht : (pc : Int) + off = (tgt : Int)) (kt : 0 ≤ x → Wt K X Q ce sl M tgt L st) (kf : ¬ 0 ≤ x → Wt K X Q ce sl M (pc + 3) L st) : Wt K X Q ce sl M pc L (vi x :: st) :=
  fun cp H locs ls a b z dd => lv_if_ge hB.1 hB.2.1 d ht (fun hc => kt hc cp H locs ls a b z dd) (fun hc => kf hc cp H locs ls a b z dd)
theorem w_icmp_gt (hB : Bx K X rm cc nL own ret) {x y : Int32} {off : Int} (tgt : Nat) (d : decode cc pc = .ok (.if_icmp .gt off, 3)) (ht : (pc : Int) + off = (tgt : Int)) (kt : y < x → Wt K X Q ce sl M tgt L st) (kf : ¬ y < x → Wt K X Q ce sl M (pc + 3) L st) : Wt K X Q ce sl M pc L (vi y :: vi x :: st) :=
  fun cp H locs ls a b z dd => lv_icmp_gt hB.1 hB.2.1 d ht (fun hc => kt hc cp H locs ls a b z dd) (fun hc => kf hc cp H locs ls a b z dd)
theorem w_if_gt (hB : Bx K X rm cc nL own ret) {x : Int32} {off : Int} (tgt : Nat) (d : decode cc pc = .ok (.ifCond .gt off, 3)) (ht : (pc : Int) + off = (tgt : Int)) (kt : 0 < x → Wt K X Q ce sl M tgt L st) (kf : ¬ 0 < x → Wt K X Q ce sl M (pc + 3) L st) : Wt K X Q ce sl M pc L (vi x :: st) :=
  fun cp H locs ls a b z dd => lv_if_gt hB.1 hB.2.1 d ht (fun hc => kt hc cp H locs ls a b z dd) (fun hc => kf hc cp H locs ls a b z dd)
theorem w_icmp_le (hB : Bx K X rm cc nL own ret) {x y : Int32} {off : Int} (tgt : Nat) (d : decode cc pc = .ok (.if_icmp .le off, 3)) (ht : (pc : Int) + off = (tgt : Int)) (kt : x ≤ y → Wt K X Q ce sl M tgt L st) (kf : ¬ x ≤ y → Wt K X Q ce sl M (pc + 3) L st) : Wt K X Q ce sl M pc L (vi y :: vi x :: st) :=
  fun cp H locs ls a b z dd => lv_icmp_le hB.1 hB.2.1 d ht (fun hc => kt hc cp H locs ls a b z dd) (fun hc => kf hc cp H locs ls a b z dd)
theorem w_if_le (hB : Bx K X rm cc nL own ret) {x : Int32} {off : Int} (tgt : Nat) (d : decode cc pc = .ok (.ifCond .le off, 3)) (ht : (pc : Int) + off = (tgt : Int)) (kt : x ≤ 0 → Wt K X Q ce sl M tgt L st) (kf : ¬ x ≤ 0 → Wt K X Q ce sl M (pc + 3) L st) : Wt K X Q ce sl M pc L (vi x :: st) :=
  fun cp H locs ls a b z dd => lv_if_le hB.1 hB.2.1 d ht (fun hc => kt hc cp H locs ls a b z dd) (fun hc => kf hc cp H locs ls a b z dd)
theorem rn_tok {U : State} (hA : Al K U) {x y : Nat} (hx : x < 26) (hy : y < 26) (h : rn K x = rn K y) : x = y := by
  unfold rn at h
  by_cases h1 : x = 0
  · by_cases h2 : y = 0
    · omega
    · rw [if_pos h1, if_neg h2, if_neg (by omega), if_pos (by omega)] at h; cases h
  · by_cases h2 : y = 0
    · rw [if_neg h1, if_neg (by omega), if_pos (by omega), if_pos h2] at h; cases h
    · rw [if_neg h1, if_neg (by omega), if_pos (by omega), if_neg h2, if_neg (by omega), if_pos (by omega)] at h
      exact hA.2.2.2.2.2.2 x y (by omega) hx (by omega) hy (Option.some.inj h)
theorem w_acmp_eq (hB : Bx K X rm cc nL own ret) {x y : Nat} {off : Int} (tgt : Nat) (hx : x < 26) (hy : y < 26) (d : decode cc pc = .ok (.if_acmp .eq off, 3)) (ht : (pc : Int) + off = (tgt : Int)) (kt : x = y → Wt K X Q ce sl M tgt L st) (kf : ¬ x = y → Wt K X Q ce sl M (pc + 3) L st) : Wt K X Q ce sl M pc L (vr y :: vr x :: st) :=
  fun cp H locs ls a b z dd => lv_acmp_eq hB.1 hB.2.1 d ht (fun hc => kt (rn_tok hB.2.2.2.2.2.1 hx hy hc) cp H locs ls a b z dd) (fun hc => kf (fun e => hc (by rw [e])) cp H locs ls a b z dd)
theorem w_acmp_ne (hB : Bx K X rm cc nL own ret) {x y : Nat} {off : Int} (tgt : Nat) (hx : x < 26) (hy : y < 26) (d : decode cc pc = .ok (.if_acmp .ne off, 3)) (ht : (pc : Int) + off = (tgt : Int)) (kt : ¬ x = y → Wt K X Q ce sl M tgt L st) (kf : x = y → Wt K X Q ce sl M (pc + 3) L st) : Wt K X Q ce sl M pc L (vr y :: vr x :: st) :=
  fun cp H locs ls a b z dd => lv_acmp_ne hB.1 hB.2.1 d ht (fun hc => kt (fun e => hc (by rw [e])) cp H locs ls a b z dd) (fun hc => kf (rn_tok hB.2.2.2.2.2.1 hx hy hc) cp H locs ls a b z dd)
theorem w_goto (hB : Bx K X rm cc nL own ret) {off : Int} (tgt : Nat) (d : decode cc pc = .ok (.goto off, 3)) (ht : (pc : Int) + off = (tgt : Int)) (k : Wt K X Q ce sl M tgt L st) : Wt K X Q ce sl M pc L st := Wt.lift (fun H locs ls _ => lv_goto hB.1 hB.2.1 d ht) k
theorem w_tsIn (hB : Bx K X rm cc nL own ret) {dflt lo hi : Int} {offs : Array Int} {len : Nat} {x : Int32} {off : Int} (tgt : Nat) (d : decode cc pc = .ok (.tableswitch dflt lo hi offs, len)) (h1 : ¬ x.toInt < lo) (h2 : ¬ hi < x.toInt) (ho : offs[(x.toInt - lo).toNat]? = some off) (ht : (pc : Int) + off = (tgt : Int)) (k : Wt K X Q ce sl M tgt L st) : Wt K X Q ce sl M pc L (vi x :: st) := Wt.lift (fun H locs ls _ => lv_tableIn hB.1 hB.2.1 d h1 h2 ho ht) k
theorem w_tsOut (hB : Bx K X rm cc nL own ret) {dflt lo hi : Int} {offs : Array Int} {len : Nat} {x : Int32} (tgt : Nat) (d : decode cc pc = .ok (.tableswitch dflt lo hi offs, len)) (h : x.toInt < lo ∨ hi < x.toInt) (ht : (pc : Int) + dflt = (tgt : Int)) (k : Wt K X Q ce sl M tgt L st) : Wt K X Q ce sl M pc L (vi x :: st) := Wt.lift (fun H locs ls _ => lv_tableOut hB.1 hB.2.1 d h ht) k
/-- a field: class ci of vcl, place k, kind t (0 int, 1 long, 2 reference), as the links spell it -/
def FF (ci k t : Nat) (rf nm ds : String) (fin : Bool) : Prop := ∃ (C : String) (T : u_T) (N : Nat) (ty0 : Nat → FieldType), vcl[ci]? = some (C, T, N) ∧ (∀ w ∈ u_ws C T N, w ∈ tblG) ∧ k < N ∧ (kd ci)[k]? = some t ∧ T k = (rf, nm, ds, fin) ∧ (∀ j, j < N → parseFieldDescriptor (T j).2.2.1 = some (ty0 j)) ∧ (∀ a, a < N → ∀ b, b < N → a ≠ b → (T a).2.1 ≠ (T b).2.1) ∧ (kd ci).length = N
theorem ent_obj {n ci : Nat} (h : shq M n = ci + 1) (hc : ci < 19) : ent K M n = .inr (ci, flds K M n ci) := by
  unfold ent
  rw [if_pos (by omega), h, Nat.add_sub_cancel]
theorem wd_obj {n ci : Nat} (hs : O3 K M n (ci + 1)) (hc : ci < 19) (cp : CRp K M) : (wd K M)[ix n]? = some (kZ K + ix n, .inr (ci, flds K M n ci)) := by
  rw [wd_get hs.1 (hs.2.2 cp), ent_obj hs.2.1 hc]
theorem FF.lt {ci k t : Nat} {rf nm ds : String} {fin : Bool} (h : FF ci k t rf nm ds fin) : ci < 19 := by
  obtain ⟨C, T, N, ty0, hc, -⟩ := h
  have := (List.getElem?_eq_some_iff.mp hc).1
  have e : vcl.length = 11 := rfl
  omega
theorem w_getf (hB : Bx K X rm cc nL own ret) {ci k t n idx : Nat} {rf nm ds : String} {fin : Bool} {v : Lv} (ff : FF ci k t rf nm ds fin) (hs : O3 K M n (ci + 1)) (hv : CRp K M → fv K M n k t = val K v) (hl : Cond.fieldLink own idx rf nm ds ∈ tblG) (d : decode cc pc = .ok (.getfield idx, 3)) (kk : Wt K X Q ce sl M (pc + 3) L (v :: st)) : Wt K X Q ce sl M pc L (vr n :: st) := by
  have hci := ff.lt
  obtain ⟨C, T, N, ty0, hc, hin, hk, hkt, hT, hty, hnm, hlen⟩ := ff
  intro cp H locs ls a b z dd
  rw [List.map_cons, val_ref hs.1]
  refine va_get (T := T) (k := k) (ref := rf) hB.1 hB.2.1 (Ts := tblG) hB.2.2.2.2.1 hin hB.2.2.2.1 (hB.2.2.2.2.2.1).K a (ix n) (wd_obj hs hci cp) hc hk ?_ ?_ (flds_get hkt) d ?_
  · rw [hT]; exact hB.2.2.2.2.1 _ hl
  · rw [hT]; exact fun x h => h
  · rw [hv cp]; exact kk cp H locs ls a b z dd
theorem w_getI (hB : Bx K X rm cc nL own ret) {ci k n idx : Nat} {rf nm ds : String} {fin : Bool} (ff : FF ci k 0 rf nm ds fin) (hs : O3 K M n (ci + 1)) (hl : Cond.fieldLink own idx rf nm ds ∈ tblG) (d : decode cc pc = .ok (.getfield idx, 3)) (kk : Wt K X Q ce sl M (pc + 3) L (vi (M.1 n k) :: st)) : Wt K X Q ce sl M pc L (vr n :: st) := w_getf hB ff hs (fun _ => rfl) hl d kk
theorem w_getL (hB : Bx K X rm cc nL own ret) {ci k n idx : Nat} {rf nm ds : String} {fin : Bool} (ff : FF ci k 1 rf nm ds fin) (hs : O3 K M n (ci + 1)) (hl : Cond.fieldLink own idx rf nm ds ∈ tblG) (d : decode cc pc = .ok (.getfield idx, 3)) (kk : Wt K X Q ce sl M (pc + 3) L (vl (M.2.1 n k) :: st)) : Wt K X Q ce sl M pc L (vr n :: st) := w_getf hB ff hs (fun _ => rfl) hl d kk
theorem w_getR (hB : Bx K X rm cc nL own ret) {ci k n idx : Nat} {rf nm ds : String} {fin : Bool} (ff : FF ci k 2 rf nm ds fin) (hs : O3 K M n (ci + 1)) (hl : Cond.fieldLink own idx rf nm ds ∈ tblG) (d : decode cc pc = .ok (.getfield idx, 3)) (kk : Wt K X Q ce sl M (pc + 3) L (vr (M.2.2.1 n k) :: st)) : Wt K X Q ce sl M pc L (vr n :: st) := w_getf hB ff hs (fun _ => rfl) hl d kk
/-- a reference that never changes -/
theorem w_getC (hB : Bx K X rm cc nL own ret) {ci k n idx v : Nat} {rf nm ds : String} {fin : Bool} (ff : FF ci k 2 rf nm ds fin) (hs : O3 K M n (ci + 1)) (hp : kP K = false) (e : cr n k = v) (hv : v ≠ 0) (hl : Cond.fieldLink own idx rf nm ds ∈ tblG) (d : decode cc pc = .ok (.getfield idx, 3)) (kk : Wt K X Q ce sl M (pc + 3) L (vr v :: st)) : Wt K X Q ce sl M pc L (vr n :: st) := w_getf hB ff hs (fun cp => by show va_rf (rn K _) = va_rf (rn K _); rw [(cp hp).2 n k (by rw [e]; exact hv), e]) hl d kk
theorem Wt.wr {n k : Nat} {M1 : Mem} {H : Heap} {locs : List Loc} {ls : Array Slot} {pc' : Nat} {st' : List Lv} (hB : Bx K X rm cc nL own ret) (hn : Rl n) (hm : ix n < M.2.2.2) (hM1 : M1.2.2.2 = M.2.2.2) (ho : ∀ q, q ≠ n → ent K M1 q = ent K M q) (hcr : CRp K M1)
    (a : va_P (kD K) vcl (wd K M) H) (b : va_S (kF K) (xS X).heap H locs) (z : (xS X).heap.size + ce = kZ K + M.2.2.2) (dd : lv_has ls (xC X).maxLocals (lvs K L)) (kk : Wt K X Q ce sl M1 pc' L st')
    {H1 : Heap} (h1 : va_at (kD K) vcl (kZ K + (ix n), ent K M1 n) H1) (h2 : H1.size = H.size) (h3 : ∀ q, q ≠ kZ K + (ix n) → H1[q]? = H[q]?) : WX X H1 (locs ++ [⟨kZ K + (ix n), k⟩]) ce sl Q (F0 (xM X) pc' ls (st'.map (val K))) := by
  have hg := wd_get (K := K) (M := M) hn hm
  have p1 := a.set (wd_D K M) hg h1 h3
  rw [wd_set hM1 hn hm rfl ho] at p1
  exact kk hcr H1 _ ls p1 (b.put h2 h3 (Nat.le_add_right _ _)) (by rw [hM1]; exact z) dd
theorem w_putf (hB : Bx K X rm cc nL own ret) {ci k t n idx : Nat} {rf nm ds : String} {v : Lv} {M1 : Mem} {ty : FieldType} (ff : FF ci k t rf nm ds false) (hs : O3 K M n (ci + 1)) (hl : Cond.fieldLink own idx rf nm ds ∈ tblG) (hd : parseFieldDescriptor ds = some ty) (hn : narrow ty (val K v) = val K v) (hf : fits ty (val K v) = true)
    (hM1 : M1.2.2.2 = M.2.2.2) (hq : shq M1 n = shq M n) (hset : (kd ci)[k]? = some t → (flds K M n ci).set k (val K v) = flds K M1 n ci) (ho : ∀ q, q ≠ n → ent K M1 q = ent K M q) (hcr : CRp K M → CRp K M1) (d : decode cc pc = .ok (.putfield idx, 3)) (kk : Wt K X Q ce sl M1 (pc + 3) L st) : Wt K X Q ce sl M pc L (v :: vr n :: st) := by
  have hci := ff.lt
  obtain ⟨C, T, N, ty0, hc, hin, hk, hkt, hT, hty, hnm, hlen⟩ := ff
  intro cp H locs ls a b z dd
  rw [List.map_cons, List.map_cons, val_ref hs.1]
  have hm := hs.2.2 cp
  have hts := hB.2.2.2.2.1
  have hap := va_apart (own := own) hts hin ty0 hty hnm (hB.2.2.2.2.2.1).K hc
  obtain ⟨r, h1, cell, q1, q2, q3, q4⟩ := a (ix n) _ (wd_obj hs hci cp)
  have hr : r = (C, T, N) := Option.some.inj (h1.symm.trans hc)
  subst hr
  obtain ⟨hS, hfc, kC, hkC, hkind⟩ := (hB.2.2.2.2.2.1).K.1 ci _ hc
  obtain ⟨cf, kf, fi, f, hi, hsl⟩ := hS k hk
  have hi2 : (xS X).fieldFound? (T k).1 (T k).2.1 (T k).2.2.1 = some (cf, kf, fi, f) := hi
  rw [hT] at hi2
  have hlay := hts _ (hin _ (u_in_lay hk))
  unfold u_lay at hlay
  rw [if_neg (by rw [hT]; exact Bool.false_ne_true)] at hlay
  have hst := (u_facts hfc hkC (u_lays hts hin hk) hi).1
  have h6 := u_store hfc hkC hkind hlay hi (by rw [hT]; exact hd) hn hf
  refine W.putK (ref := rf) (name := nm) (desc := ds) hB.1 hB.2.1 (f := f) ⟨hB.2.2.2.1, hts _ hl, ⟨_, _, _, hi2⟩, hst⟩ (by rw [q2]; exact h6) q1 q3 (by rw [hsl]; exact k2_hasslot (q4 k hk)) rfl rfl d fun H' e1 e2 e3 => ?_
  rw [hsl] at e1
  refine Wt.wr hB hs.1 hm hM1 ho (hcr cp) a b z dd kk ?_ e2 e3
  rw [ent_obj (M := M1) (hq.trans hs.2.1) hci, ← hset hkt]
  exact ⟨_, hc, t_OB.to (V := updV (vp_V (flds K M n ci)) k (val K v)) ⟨_, e1, q2, q3, t_set q4 hap hk (val K v)⟩ (fun j _ => vp_updV_set (by rw [flds_len, hlen]; exact hk) (val K v) j)⟩
theorem shq_R {M : Mem} {a k x n : Nat} (h : Rl a) : shq (setR M a k x) n = shq M n := by
  have h9 : 0 ≠ a := by unfold Rl at h; omega
  simp only [shq, dsc, setR, m2_ne2 h9]
theorem slq_R {M : Mem} {a k x n : Nat} (h : Rl a) : slq (setR M a k x) n = slq M n := by
  have h9 : 0 ≠ a := by unfold Rl at h; omega
  simp only [slq, dln, setR, m2_ne2 h9]
theorem CRp_I {n k : Nat} {x : Int32} (h : CRp K M) : CRp K (setI M n k x) := h
theorem CRp_J {n k : Nat} {x : Int64} (h : CRp K M) : CRp K (setL M n k x) := h
theorem CRp_R {n k x : Nat} (h0 : cr n k = 0) (h : CRp K M) : CRp K (setR M n k x) := fun hp => ⟨(h hp).1, fun n' k' hne => by
  show (if n' = n ∧ k' = k then x else M.2.2.1 n' k') = _
  rw [if_neg (fun e => hne (by rw [e.1, e.2]; exact h0))]
  exact (h hp).2 n' k' hne⟩
theorem w_putI (hB : Bx K X rm cc nL own ret) {ci k n idx : Nat} {rf nm : String} {x : Int32} {M1 : Mem} (ff : FF ci k 0 rf nm "I" false) (hs : O3 K M n (ci + 1)) (hl : Cond.fieldLink own idx rf nm "I" ∈ tblG) (e : M1 = setI M n k x) (d : decode cc pc = .ok (.putfield idx, 3)) (kk : Wt K X Q ce sl M1 (pc + 3) L st) : Wt K X Q ce sl M pc L (vi x :: vr n :: st) := by
  subst e
  exact w_putf (M1 := setI M n k x) hB ff hs hl (ty := .int) (by decide +kernel) rfl rfl rfl rfl flds_I (fun q h => ent_I h) CRp_I d kk
theorem w_putZ (hB : Bx K X rm cc nL own ret) {ci k n idx : Nat} {rf nm : String} {x : Int32} {M1 : Mem} (ff : FF ci k 0 rf nm "Z" false) (hs : O3 K M n (ci + 1)) (hl : Cond.fieldLink own idx rf nm "Z" ∈ tblG) (hz : vp_nar .boolean x = x) (e : M1 = setI M n k x) (d : decode cc pc = .ok (.putfield idx, 3)) (kk : Wt K X Q ce sl M1 (pc + 3) L st) : Wt K X Q ce sl M pc L (vi x :: vr n :: st) := by
  subst e
  exact w_putf (M1 := setI M n k x) hB ff hs hl (ty := .boolean) (by decide +kernel) (by show narrow .boolean (.int x) = .int x; exact nz_of hz) (nz_fit hz) rfl rfl flds_I (fun q h => ent_I h) CRp_I d kk
theorem w_putJ (hB : Bx K X rm cc nL own ret) {ci k n idx : Nat} {rf nm : String} {x : Int64} {M1 : Mem} (ff : FF ci k 1 rf nm "J" false) (hs : O3 K M n (ci + 1)) (hl : Cond.fieldLink own idx rf nm "J" ∈ tblG) (e : M1 = setL M n k x) (d : decode cc pc = .ok (.putfield idx, 3)) (kk : Wt K X Q ce sl M1 (pc + 3) L st) : Wt K X Q ce sl M pc L (vl x :: vr n :: st) := by
  subst e
  exact w_putf (M1 := setL M n k x) hB ff hs hl (ty := .long) (by decide +kernel) rfl rfl rfl rfl flds_L (fun q h => ent_L h) CRp_J d kk
theorem w_putR (hB : Bx K X rm cc nL own ret) {ci k n idx x : Nat} {rf nm ds C : String} {M1 : Mem} (ff : FF ci k 2 rf nm ds false) (hs : O3 K M n (ci + 1)) (hl : Cond.fieldLink own idx rf nm ds ∈ tblG) (hd : parseFieldDescriptor ds = some (.object C)) (hc0 : cr n k = 0) (e : M1 = setR M n k x) (d : decode cc pc = .ok (.putfield idx, 3)) (kk : Wt K X Q ce sl M1 (pc + 3) L st) : Wt K X Q ce sl M pc L (vr x :: vr n :: st) := by
  subst e
  refine w_putf (M1 := setR M n k x) hB ff hs hl (ty := .object C) hd ?_ ?_ rfl (shq_R hs.1) flds_R (fun q h => ent_R hs.1 h) (CRp_R hc0) d kk
  · show narrow (.object C) (va_rf (rn K x)) = va_rf (rn K x)
    cases rn K x <;> rfl
  · show fits (.object C) (va_rf (rn K x)) = true
    cases rn K x <;> rfl
/-! arrays -/
theorem ent_arr {n c : Nat} (h : shq M n = 20 + c) (hc : c < 3) : ent K M n = .inl (kY K c, slq M n, .inl (M.1 n)) := by
  unfold ent
  rw [if_neg (by omega), if_pos (by omega), h, Nat.add_sub_cancel_left]
theorem ent_larr {n : Nat} (h : shq M n = 23) : ent K M n = .inl (kY K 3, slq M n, .inr (.inl (M.2.1 n))) := by
  unfold ent
  rw [if_neg (by omega), if_neg (by omega), if_pos h]
theorem ent_rarr {n c : Nat} (h : shq M n = 20 + c) (hc : 4 ≤ c) : ent K M n = .inl (kY K c, slq M n, .inr (.inr (.inr (.inr (fun k => rn K (M.2.2.1 n k)))))) := by
  unfold ent
  rw [if_neg (by omega), if_neg (by omega), if_neg (by omega), h, Nat.add_sub_cancel_left]
theorem w_iald (hB : Bx K X rm cc nL own ret) {n len : Nat} {i : Int32} (hs : O3 K M n 20) (hl : slq M n = len) (hin : inb i len) (d : decode cc pc = .ok (.iaload, 1)) (kk : Wt K X Q ce sl M (pc + 1) L (vi (M.1 n i.toNatClampNeg) :: st)) : Wt K X Q ce sl M pc L (vi i :: vr n :: st) := by
  intro cp H locs ls a b z dd
  rw [List.map_cons, List.map_cons, val_ref hs.1]
  refine va_iald hB.1 hB.2.1 (hB.2.2.2.2.2.1).K a (ix n) 0 (cA := kY K 0) (n := slq M n) (f := M.1 n) ?_ rfl (by rw [hl]; exact hin) d ?_
  · rw [wd_get hs.1 (hs.2.2 cp), ent_arr (c := 0) hs.2.1 (by decide)]
  · exact kk cp H locs ls a b z dd
theorem w_zald (hB : Bx K X rm cc nL own ret) {n len : Nat} {i : Int32} (hs : O3 K M n 21) (hl : slq M n = len) (hin : inb i len) (d : decode cc pc = .ok (.baload, 1)) (kk : Wt K X Q ce sl M (pc + 1) L (vi (M.1 n i.toNatClampNeg) :: st)) : Wt K X Q ce sl M pc L (vi i :: vr n :: st) := by
  intro cp H locs ls a b z dd
  rw [List.map_cons, List.map_cons, val_ref hs.1]
  refine va_zald hB.1 hB.2.1 (hB.2.2.2.2.2.1).K a (ix n) 1 (cA := kY K 1) (n := slq M n) (f := M.1 n) ?_ rfl (by rw [hl]; exact hin) d ?_
  · rw [wd_get hs.1 (hs.2.2 cp), ent_arr (c := 1) hs.2.1 (by decide)]
  · exact kk cp H locs ls a b z dd
theorem w_bald (hB : Bx K X rm cc nL own ret) {n len : Nat} {i : Int32} (hs : O3 K M n 22) (hl : slq M n = len) (hin : inb i len) (d : decode cc pc = .ok (.baload, 1)) (kk : Wt K X Q ce sl M (pc + 1) L (vi (M.1 n i.toNatClampNeg) :: st)) : Wt K X Q ce sl M pc L (vi i :: vr n :: st) := by
  intro cp H locs ls a b z dd
  rw [List.map_cons, List.map_cons, val_ref hs.1]
  refine va_bald hB.1 hB.2.1 (hB.2.2.2.2.2.1).K a (ix n) 2 (cA := kY K 2) (n := slq M n) (f := M.1 n) ?_ rfl (by rw [hl]; exact hin) d ?_
  · rw [wd_get hs.1 (hs.2.2 cp), ent_arr (c := 2) hs.2.1 (by decide)]
  · exact kk cp H locs ls a b z dd
theorem w_aald (hB : Bx K X rm cc nL own ret) {n c len : Nat} {Cn : String} {i : Int32} {v : Lv} (hs : O3 K M n (20 + c)) (hc : (tysK K)[c]? = some (kY K c, .object Cn)) (h4 : 4 ≤ c) (hl : slq M n = len) (hin : inb i len) (hv : CRp K M → va_rf (rn K (M.2.2.1 n i.toNatClampNeg)) = val K v) (d : decode cc pc = .ok (.aaload, 1)) (kk : Wt K X Q ce sl M (pc + 1) L (v :: st)) : Wt K X Q ce sl M pc L (vi i :: vr n :: st) := by
  intro cp H locs ls a b z dd
  rw [List.map_cons, List.map_cons, val_ref hs.1]
  refine va_aldq hB.1 hB.2.1 (hB.2.2.2.2.2.1).K a (ix n) c (cA := kY K c) (n := slq M n) (f := fun k => rn K (M.2.2.1 n k)) ?_ hc (by rw [hl]; exact hin) d ?_
  · rw [wd_get hs.1 (hs.2.2 cp), ent_rarr hs.2.1 h4]
  · rw [hv cp]; exact kk cp H locs ls a b z dd
/-- an element that never changes -/
theorem w_aaldC (hB : Bx K X rm cc nL own ret) {n c len v : Nat} {Cn : String} {i : Int32} (hs : O3 K M n (20 + c)) (hc : (tysK K)[c]? = some (kY K c, .object Cn)) (h4 : 4 ≤ c) (hp : kP K = false) (hl : slq M n = len) (hin : inb i len) (e : cr n i.toNatClampNeg = v) (hv : v ≠ 0) (d : decode cc pc = .ok (.aaload, 1)) (kk : Wt K X Q ce sl M (pc + 1) L (vr v :: st)) : Wt K X Q ce sl M pc L (vi i :: vr n :: st) :=
  w_aald hB hs hc h4 hl hin (fun cp => by rw [(cp hp).2 n _ (by rw [e]; exact hv), e]; rfl) d kk
theorem w_aaldR (hB : Bx K X rm cc nL own ret) {n c len : Nat} {Cn : String} {i : Int32} (hs : O3 K M n (20 + c)) (hc : (tysK K)[c]? = some (kY K c, .object Cn)) (h4 : 4 ≤ c) (hl : slq M n = len) (hin : inb i len) (d : decode cc pc = .ok (.aaload, 1)) (kk : Wt K X Q ce sl M (pc + 1) L (vr (M.2.2.1 n i.toNatClampNeg) :: st)) : Wt K X Q ce sl M pc L (vi i :: vr n :: st) :=
  w_aald hB hs hc h4 hl hin (fun _ => rfl) d kk
theorem w_alen (hB : Bx K X rm cc nL own ret) {n c len : Nat} {v : Int32} (hs : O3 K M n (20 + c)) (hc : c < 9) (hl : slq M n = len) (hv : Int32.ofNat len = v) (d : decode cc pc = .ok (.arraylength, 1)) (kk : Wt K X Q ce sl M (pc + 1) L (vi v :: st)) : Wt K X Q ce sl M pc L (vr n :: st) := by
  intro cp H locs ls a b z dd
  rw [List.map_cons, val_ref hs.1]
  have hg := wd_get (K := K) (M := M) hs.1 (hs.2.2 cp)
  obtain ⟨ty, ht⟩ : ∃ ty, (tysK K)[c]? = some (kY K c, ty) := by
    rcases (show c = 0 ∨ c = 1 ∨ c = 2 ∨ c = 3 ∨ c = 4 ∨ c = 5 ∨ c = 6 ∨ c = 7 ∨ c = 8 by omega) with rfl | rfl | rfl | rfl | rfl | rfl | rfl | rfl | rfl <;> exact ⟨_, rfl⟩
  obtain ⟨x, hx, hx1⟩ : ∃ x, ent K M n = .inl (kY K c, x) ∧ x.1 = slq M n := by
    rcases Nat.lt_or_ge c 3 with h | h
    · exact ⟨_, ent_arr hs.2.1 h, rfl⟩
    · rcases Nat.eq_or_lt_of_le h with h | h
      · subst h; exact ⟨_, ent_larr hs.2.1, rfl⟩
      · exact ⟨_, ent_rarr hs.2.1 h, rfl⟩
  rw [hx] at hg
  exact va_alen hB.1 hB.2.1 (hB.2.2.2.2.2.1).K a (ix n) c hg ht (v := v) (by rw [hx1, hl]; exact hv) d (kk cp H locs ls a b z dd)
theorem w_iast (hB : Bx K X rm cc nL own ret) {n len : Nat} {i : Int32} {x : Int32} {M1 : Mem} (hs : O3 K M n 20) (hl : slq M n = len) (hin : inb i len) (e : M1 = setI M n i.toNatClampNeg x) (d : decode cc pc = .ok (.iastore, 1)) (kk : Wt K X Q ce sl M1 (pc + 1) L st) : Wt K X Q ce sl M pc L (vi x :: vi i :: vr n :: st) := by
  subst e
  intro cp H locs ls a b z dd
  have hn := hs.1
  have hm := hs.2.2 cp
  rw [List.map_cons, List.map_cons, List.map_cons, val_ref hn]
  have ha := a (ix n) _ (wd_get hn hm)
  rw [ent_arr (c := 0) hs.2.1 (by decide)] at ha
  refine W.iast hB.1 hB.2.1 ha (((hB.2.2.2.2.2.1).K.2 0 _ rfl).1 (slq M n) (fun j => .int (M.1 n j))) (fun q => by cases q) (by show ¬ (i < 0 ∨ (arrV _ _ _).slots.size ≤ _); rw [arrV_size, hl]; exact hin) rfl rfl d fun H1 e z2 oq => ?_
  refine Wt.wr (M1 := setI M n i.toNatClampNeg x) hB hn hm rfl (fun q h => ent_I h) (CRp_I cp) a b z dd kk ?_ z2 oq
  rw [ent_arr (M := setI M n i.toNatClampNeg x) (c := 0) (show shq (setI M n i.toNatClampNeg x) n = _ from hs.2.1) (by decide)]
  show H1[_]? = some (vp_cell _ _)
  rw [e]
  rw [vp_cell_i, vp_cell_i, arrV_store]
  congr 2
  funext q
  show (if q = i.toNatClampNeg then _ else _) = Value.int (if n = n ∧ q = i.toNatClampNeg then _ else _)
  by_cases hq : q = i.toNatClampNeg
  · rw [if_pos hq, if_pos ⟨rfl, hq⟩]
  · rw [if_neg hq, if_neg (fun z => hq z.2)]
theorem w_zast (hB : Bx K X rm cc nL own ret) {n len : Nat} {i : Int32} {x : Int32} {M1 : Mem} (hs : O3 K M n 21) (hl : slq M n = len) (hin : inb i len) (e : M1 = setI M n i.toNatClampNeg (vp_nar .boolean x)) (d : decode cc pc = .ok (.bastore, 1)) (kk : Wt K X Q ce sl M1 (pc + 1) L st) : Wt K X Q ce sl M pc L (vi x :: vi i :: vr n :: st) := by
  subst e
  intro cp H locs ls a b z dd
  have hn := hs.1
  have hm := hs.2.2 cp
  rw [List.map_cons, List.map_cons, List.map_cons, val_ref hn]
  have ha := a (ix n) _ (wd_get hn hm)
  rw [ent_arr (c := 1) hs.2.1 (by decide)] at ha
  refine W.zast hB.1 hB.2.1 ha (((hB.2.2.2.2.2.1).K.2 1 _ rfl).1 (slq M n) (fun j => .int (M.1 n j))) (fun q => by cases q) (by show ¬ (i < 0 ∨ (arrV _ _ _).slots.size ≤ _); rw [arrV_size, hl]; exact hin) rfl rfl d fun H1 e z2 oq => ?_
  refine Wt.wr (M1 := setI M n i.toNatClampNeg (vp_nar .boolean x)) hB hn hm rfl (fun q h => ent_I h) (CRp_I cp) a b z dd kk ?_ z2 oq
  rw [ent_arr (M := setI M n i.toNatClampNeg (vp_nar .boolean x)) (c := 1) (show shq (setI M n i.toNatClampNeg (vp_nar .boolean x)) n = _ from hs.2.1) (by decide)]
  show H1[_]? = some (vp_cell _ _)
  rw [e]
  rw [vp_cell_i, vp_cell_i, arrV_store]
  congr 2
  funext q
  show (if q = i.toNatClampNeg then _ else _) = Value.int (if n = n ∧ q = i.toNatClampNeg then _ else _)
  by_cases hq : q = i.toNatClampNeg
  · rw [if_pos hq, if_pos ⟨rfl, hq⟩]; rfl
  · rw [if_neg hq, if_neg (fun z => hq z.2)]
theorem w_bast (hB : Bx K X rm cc nL own ret) {n len : Nat} {i : Int32} {x : Int32} {M1 : Mem} (hs : O3 K M n 22) (hl : slq M n = len) (hin : inb i len) (e : M1 = setI M n i.toNatClampNeg (vp_nar .byte x)) (d : decode cc pc = .ok (.bastore, 1)) (kk : Wt K X Q ce sl M1 (pc + 1) L st) : Wt K X Q ce sl M pc L (vi x :: vi i :: vr n :: st) := by
  subst e
  intro cp H locs ls a b z dd
  have hn := hs.1
  have hm := hs.2.2 cp
  rw [List.map_cons, List.map_cons, List.map_cons, val_ref hn]
  have ha := a (ix n) _ (wd_get hn hm)
  rw [ent_arr (c := 2) hs.2.1 (by decide)] at ha
  refine W.bast hB.1 hB.2.1 ha (((hB.2.2.2.2.2.1).K.2 2 _ rfl).1 (slq M n) (fun j => .int (M.1 n j))) (fun q => by cases q) (by show ¬ (i < 0 ∨ (arrV _ _ _).slots.size ≤ _); rw [arrV_size, hl]; exact hin) rfl rfl d fun H1 e z2 oq => ?_
  refine Wt.wr (M1 := setI M n i.toNatClampNeg (vp_nar .byte x)) hB hn hm rfl (fun q h => ent_I h) (CRp_I cp) a b z dd kk ?_ z2 oq
  rw [ent_arr (M := setI M n i.toNatClampNeg (vp_nar .byte x)) (c := 2) (show shq (setI M n i.toNatClampNeg (vp_nar .byte x)) n = _ from hs.2.1) (by decide)]
  show H1[_]? = some (vp_cell _ _)
  rw [e]
  rw [vp_cell_i, vp_cell_i, arrV_store]
  congr 2
  funext q
  show (if q = i.toNatClampNeg then _ else _) = Value.int (if n = n ∧ q = i.toNatClampNeg then _ else _)
  by_cases hq : q = i.toNatClampNeg
  · rw [if_pos hq, if_pos ⟨rfl, hq⟩]; rfl
  · rw [if_neg hq, if_neg (fun z => hq z.2)]
end ROWS
/-! contracts over the typed world -/
def QW (K : Kt) (r : Option Lv) (M1 : Mem) : Array Value → State → Outcome → State → Prop := fun _ st o t => o = .returned (r.map (val K)) ∧ World K M1 t ∧ va_F (kF K) st t
def MT (K : Kt) (l : Launch) (y : MethodName) (c1 : ByteArray) (n1 : Nat) (r1 : Option FieldType) (rm : Room) (As : List Lv) (M : Mem) (r : Option Lv) (M1 : Mem) (mc ms : Nat) : Prop :=
  Met l y (.code y c1 n1 r1 :: tblG) rm (va_Pc (As.map (val K)) (World K M)) (QW K r M1) mc ms (kF K)
def QM (K : Kt) (X : Xt) (r : Option Lv) (M1 : Mem) (mc ms : Nat) : State → Prop := MQ X.2.2.2.2.2.2.2.1 (QW K r M1) X.2.2.2.2.2.2.1 (xS X) mc ms (kF K)
def argL : Nat → List Lv → List (Nat × Lv)
  | _, [] => []
  | i, v :: vs => (i, v) :: argL (i + catL v) vs
theorem lv_args_val (K : Kt) : ∀ (vs : List Lv) (i : Nat), lv_args i (vs.map (val K)) = lvs K (argL i vs) := by
  intro vs
  induction vs with
  | nil => intro i; rfl
  | cons v vs ih =>
    intro i
    show (i, val K v) :: lv_args (if (val K v).category = 2 then i + 2 else i + 1) (vs.map (val K)) = (i, val K v) :: lvs K (argL (i + catL v) vs)
    rw [ih, val_cat]
    rcases v with x | x | n <;> rfl
theorem lg_sl_len (K : Kt) : ∀ vs : List Lv, (lg_sl (vs.map (val K))).length = (vs.map catL).sum := by
  intro vs
  induction vs with
  | nil => rfl
  | cons v vs ih =>
    simp only [lg_sl, List.map_cons, List.flatMap_cons, List.length_append, List.sum_cons] at ih ⊢
    rw [ih, val_cat]
    rcases v with x | x | n <;> rfl
set_option maxHeartbeats 1000000 in
/-- a contract out of the walk of the method's body -/
theorem MT_of {K : Kt} {l : Launch} {y : MethodName} {c1 : ByteArray} {n1 : Nat} {r1 : Option FieldType} {fr lo mc ms : Nat} {As : List Lv} {M M1 : Mem} {r : Option Lv} (hy : plainName y.cls = true) (hc : y.cls = y.cls) (hn : (As.map catL).sum ≤ n1)
    (body : ∀ X : Xt, X.2.1 = l → Bx K X { frames := fr, cells := mc, slots := ms, locals := lo } c1 n1 y.cls r1 → (y.name = "<init>" → X.2.2.2.2.2.2.2.2.1.name = "<init>") → Wt K X (QM K X r M1 mc ms) 0 0 M 0 (argL 0 As) []) : MT K l y c1 n1 r1 { frames := fr, cells := mc, slots := ms, locals := lo } As M r M1 mc ms := by
  refine Met.ofW (cc := c1) (maxL := n1) (ret := r1) hy rfl ?_
  intro p e s m args below meth c s₁ B hml hv
  obtain ⟨rfl, hcr, hal, hP, hsz⟩ := hv
  have hts := atoms_spec (ws := .code y c1 n1 r1 :: tblG) B.pre
  have hown : s.vm.findClass y.cls = some m.cls := findClass_of_methodNamed B.named
  have hB : Bx K (p, l, e, { frames := fr, cells := mc, slots := ms, locals := lo }, s, m, (As.map (val K)).toArray, below, meth, c) { frames := fr, cells := mc, slots := ms, locals := lo } c1 n1 y.cls r1 :=
    ⟨B.exec, B.bytes, hml, hown, fun w hw => hts w (List.mem_cons_of_mem _ hw), hal, B.returns, B.notSynchronized, rfl⟩
  have h := body _ rfl hB (fun hnm => (name_of_methodNamed B.named B.method).1.trans hnm) hcr s.heap [] _ hP va_S.rf (by show s.heap.size + 0 = _; rw [Nat.add_zero]; exact hsz) (by
    rw [← lv_args_val]
    show lv_has _ c.maxLocals _
    rw [hml]
    exact lv_entry (As.map (val K)) (n := n1) (by rw [lg_sl_len]; exact hn))
  rw [lg_entry_eq]
  exact h
section CALLS
variable {K : Kt} {X : Xt} {Q : State → Prop} {ce sl : Nat} {M M1 : Mem} {pc : Nat} {L L' : List (Nat × Lv)} {st : List Lv} {rm : Room} {cc : ByteArray} {nL : Nat} {own : String} {ret : Option FieldType}
/-- the heap's size: what is used, and the cells that stand -/
theorem w_sz {H : Heap} {locs : List Loc} {g : JFrame} (hB : Bx K X rm cc nL own ret) (a : va_P (kD K) vcl (wd K M) H) (b : va_S (kF K) (xS X).heap H locs) (z : (xS X).heap.size + ce = kZ K + M.2.2.2) (k : H.size = kZ K + M.2.2.2 → WX X H locs ce sl Q g) : WX X H locs ce sl Q g := by
  intro T hT X0
  refine k ?_ T hT X0
  have h1 := X0.heapSize
  rw [hT] at h1
  have h2 : kZ K + M.2.2.2 ≤ H.size := by
    rcases Nat.eq_zero_or_pos M.2.2.2 with h | h
    · rw [h]
      exact Nat.le_trans hB.2.2.2.2.2.1.2.1 b.1
    · have e := wd_get (K := K) (M := M) (n := pa (M.2.2.2 - 1)) (pa_r _) (by rw [ix_pa]; omega)
      rw [ix_pa] at e
      have h3 := (a _ _ e).lt
      have h4 : kZ K + (M.2.2.2 - 1) < H.size := h3
      omega
  have h5 : H.size ≤ (xS X).heap.size + ce := h1
  omega
theorem ret_q {r : Option Lv} {H : Heap} {locs : List Loc} (hB : Bx K X rm cc nL own ret) (cp : CRp K M) (a : va_P (kD K) vcl (wd K M) H) (b : va_S (kF K) (xS X).heap H locs) (z : H.size = kZ K + M.2.2.2) :
    ∀ t : State, t.heap = H → (xS X).WarmedH t.vm → QW K r M X.2.2.2.2.2.2.1 (xS X) (.returned (r.map (val K))) t := by
  intro t ht hW
  have hal := hB.2.2.2.2.2.1
  refine ⟨rfl, ⟨cp, ⟨State.WarmedH.trans hal.1 hW, by rw [ht]; exact Nat.le_trans hal.2.1 b.1, hal.2.2.1, hal.2.2.2.1, fun q hq => ?_, hal.2.2.2.2.2⟩, by rw [ht]; exact a, by rw [ht]; exact z⟩, b.F ht⟩
  rw [ht, b.2.1 q (Nat.lt_of_lt_of_le hq hal.2.1) (fun h => absurd (show kZ K ≤ q from h) (by omega))]
  exact hal.2.2.2.2.1 q hq
theorem w_iret (hB : Bx K X rm cc nL own (some .int)) {x y : Int32} (d : decode cc pc = .ok (.ireturn, 1)) (e : x = y) : Wt K X (QM K X (some (vi y)) M ce sl) ce sl M pc L [vi x] := by
  subst e
  intro cp H locs ls a b z dd
  refine w_sz hB a b z (fun z => ?_)
  exact W.iret hB.1 hB.2.1 hB.2.2.2.2.2.2.1 (ret_q (r := some (vi x)) hB cp a b z) b.2.2 d hB.2.2.2.2.2.2.2.1
theorem w_zret (hB : Bx K X rm cc nL own (some .boolean)) {x y : Int32} (hz : vp_nar .boolean x = x) (d : decode cc pc = .ok (.ireturn, 1)) (e : x = y) : Wt K X (QM K X (some (vi y)) M ce sl) ce sl M pc L [vi x] := by
  subst e
  intro cp H locs ls a b z dd
  refine w_sz hB a b z (fun z => ?_)
  exact W.zret hB.1 hB.2.1 hB.2.2.2.2.2.2.1 (nz_of hz) (ret_q (r := some (vi x)) hB cp a b z) b.2.2 d hB.2.2.2.2.2.2.2.1
theorem w_sret {ty : FieldType} (hB : Bx K X rm cc nL own (some ty)) {x y : Int32} (hz : narrow ty (.int x) = .int x) (d : decode cc pc = .ok (.ireturn, 1)) (e : x = y) : Wt K X (QM K X (some (vi y)) M ce sl) ce sl M pc L [vi x] := by
  subst e
  intro cp H locs ls a b z dd
  refine w_sz hB a b z (fun z => ?_)
  exact W.zret hB.1 hB.2.1 hB.2.2.2.2.2.2.1 hz (ret_q (r := some (vi x)) hB cp a b z) b.2.2 d hB.2.2.2.2.2.2.2.1
theorem w_lret (hB : Bx K X rm cc nL own (some .long)) {x y : Int64} (d : decode cc pc = .ok (.lreturn, 1)) (e : x = y) : Wt K X (QM K X (some (vl y)) M ce sl) ce sl M pc L [vl x] := by
  subst e
  intro cp H locs ls a b z dd
  refine w_sz hB a b z (fun z => ?_)
  exact W.lret hB.1 hB.2.1 hB.2.2.2.2.2.2.1 (ret_q (r := some (vl x)) hB cp a b z) b.2.2 d hB.2.2.2.2.2.2.2.1
theorem w_vret (hB : Bx K X rm cc nL own none) (d : decode cc pc = .ok (.return_, 1)) : Wt K X (QM K X none M ce sl) ce sl M pc L [] := by
  intro cp H locs ls a b z dd
  refine w_sz hB a b z (fun z => ?_)
  exact W.vret hB.1 hB.2.1 hB.2.2.2.2.2.2.1 (ret_q (r := none) hB cp a b z) b.2.2 d hB.2.2.2.2.2.2.2.1
theorem w_aret {C : String} (hB : Bx K X rm cc nL own (some (.object C))) {n k : Nat} (d : decode cc pc = .ok (.areturn, 1)) (e : n = k) : Wt K X (QM K X (some (vr k)) M ce sl) ce sl M pc L [vr n] := by
  subst e
  intro cp H locs ls a b z dd
  refine w_sz hB a b z (fun z => ?_)
  refine W.aret (v := val K (vr n)) hB.1 hB.2.1 hB.2.2.2.2.2.2.1 (Or.inl ⟨_, rfl⟩) ?_ (ret_q (r := some (vr n)) hB cp a b z) b.2.2 d hB.2.2.2.2.2.2.2.1
  show va_rf (rn K n) = .null ∨ ∃ a, va_rf (rn K n) = .ref a
  cases rn K n with
  | none => exact Or.inl rfl
  | some a => exact Or.inr ⟨a, rfl⟩
/-- what a call needs of the tables -/
def CWs (own : String) (idx : Nat) (C : String) (y : MethodName) (c1 : ByteArray) (n1 : Nat) (r1 : Option FieldType) (na : Nat) : Prop :=
  Cond.methodLink own idx y ∈ tblG ∧ Cond.initialized y.cls ∈ tblG ∧ Cond.code y c1 n1 r1 ∈ tblG ∧ y.cls = C ∧ (y.cls ≠ "java/lang/invoke/MethodHandle" ∧ y.cls ≠ "java/lang/invoke/VarHandle") ∧ (parseMethodDescriptor y.desc).map (fun d => d.parameters.length) = some na
theorem good_code {y : MethodName} {c1 : ByteArray} {n1 : Nat} {r1 : Option FieldType} (h : Cond.code y c1 n1 r1 ∈ tblG) : GoodIn tblG (.code y c1 n1 r1 :: tblG) := by
  intro w hw
  rcases List.mem_cons.mp hw with h1 | h1
  · subst h1; exact ⟨h, Or.inl rfl⟩
  · exact ⟨h1, good_of_word (List.mem_filter.mp h1).2⟩
theorem world_blind {As : List Value} : FrameBlind (va_Pc As (World K M)) := by
  intro a U g mk h
  obtain ⟨h1, h2, h3, h4, h5⟩ := h
  exact ⟨h1, h2, h3, h4, h5⟩
theorem world_pre {H : Heap} {locs : List Loc} (hB : Bx K X rm cc nL own ret) (cp : CRp K M) (a : va_P (kD K) vcl (wd K M) H) (b : va_S (kF K) (xS X).heap H locs) (z : H.size = kZ K + M.2.2.2) {As : List Value} :
    ∀ U : State, U.heap = H → (xS X).WarmedH U.vm → va_Pc As (World K M) As.toArray U := by
  intro U hU hW
  exact ⟨rfl, (ret_q (r := none) hB cp a b z U hU hW).2.1⟩
/-- behind a call -/
theorem w_back {r : Option Lv} {mc ms : Nat} {H : Heap} {locs : List Loc} {ls : Array Slot} {st0 : List Value} {av : Array Value} (hB : Bx K X rm cc nL own ret) (z : (xS X).heap.size + ce = kZ K + M.2.2.2) (zs : H.size = kZ K + M.2.2.2) (hx : mc = 0 ∨ mc + M.2.2.2 = M1.2.2.2) (b : va_S (kF K) (xS X).heap H locs) (dd : lv_has ls (xC X).maxLocals (lvs K L))
    (hr : va_Run X.1 X.2.1 X.2.2.1 X.2.2.2.1 X.2.2.2.2.1 X.2.2.2.2.2.1 X.2.2.2.2.2.2.1 X.2.2.2.2.2.2.2.1 X.2.2.2.2.2.2.2.2.1 X.2.2.2.2.2.2.2.2.2 H locs ce sl mc ms (F0 (xM X) pc ls st0) (st.map (val K)) (QW K r M1 av) (kF K))
    (kk : Wt K X Q (ce + mc) (sl + ms) M1 (pc + 3) L (r.toList ++ st)) : WX X H locs ce sl Q (F0 (xM X) pc ls st0) := by
  intro T hT X0
  obtain ⟨v, st₀, t, T', LL, h0, X', hL, e1, e2, ⟨hv, hw, hz, hk⟩, stp⟩ := hr T hT X0
  obtain ⟨cp1, hal1, hP1, hs1⟩ := hw
  cases hv
  rw [h0] at hz hk
  have hx1 : (xS X).heap.size + (ce + mc) = kZ K + M1.2.2.2 := by
    rcases hx with hx | hx
    · have h1 := X'.heapSize
      rw [e1] at h1
      have h2 : (X.2.2.2.2.1).heap.size = (xS X).heap.size := rfl
      omega
    · omega
  obtain ⟨t2, a1, b1⟩ := kk cp1 t.heap (locs ++ LL) ls hP1 ⟨Nat.le_trans b.1 hz, fun q h1 h2 => by rw [hk q (Nat.lt_of_lt_of_le h1 b.1) h2]; exact b.2.1 q h1 h2, fun q hq => by
    rcases List.mem_append.mp hq with h | h
    · exact b.2.2 q h
    · exact hL q h⟩ hx1 dd T' e1 X'
  refine ⟨t2, stp t2 ?_, b1⟩
  have e : (r.toList ++ st).map (val K) = (r.map (val K)).toList ++ st.map (val K) := by
    cases r <;> simp
  rw [e] at a1
  exact a1
theorem w_callV (hB : Bx K X rm cc nL own ret) {idx n na mc ms ci N n1 : Nat} {C : String} {TT : u_T} {y : MethodName} {c1 : ByteArray} {r1 : Option FieldType} {r2 : Room} {r : Option Lv} {As : List Lv} (hw : CWs own idx C y c1 n1 r1 na) (hin : Cond.instanceMethod y ∈ tblG) (hse : Cond.selects y.cls y y ∈ tblG) (hcl : vcl[ci]? = some (C, TT, N)) (hs : O3 K M n (ci + 1))
    (hM : MT K X.2.1 y c1 n1 r1 r2 (vr n :: As) M r M1 mc ms) (hc : r2.cells = mc ∧ r2.slots = ms) (hR : r2.frames + 1 ≤ rm.frames ∧ 8 + (n1 + 11) + r2.locals ≤ rm.locals) (hf : ce + mc ≤ rm.cells ∧ sl + ms ≤ rm.slots) (hn : As.length = na) (hst : (st.map catL).sum ≤ 8) (d : decode cc pc = .ok (.invokevirtual idx, 3))
    {sk : List Lv} (hsk : sk = As.reverse ++ vr n :: st) (kk : Wt K X Q (ce + mc) (sl + ms) M1 (pc + 3) L (r.toList ++ st)) (hx : mc = 0 ∨ mc + M.2.2.2 = M1.2.2.2 := by exact Or.inl rfl) : Wt K X Q ce sl M pc L sk := by
  subst hsk
  intro cp H locs ls a b z dd
  refine w_sz hB a b z (fun zs => ?_)
  have hci : ci < 19 := by
    have := (List.getElem?_eq_some_iff.mp hcl).1
    have e : vcl.length = 11 := rfl
    omega
  have hts := hB.2.2.2.2.1
  obtain ⟨w1, w2, w3, w4, w5, w6⟩ := hw
  obtain ⟨r9, h1, cell, q1, q2, q3, q4⟩ := a (ix n) _ (wd_obj hs hci cp)
  obtain ⟨-, hfc, -⟩ := (hB.2.2.2.2.2.1).K.1 ci _ hcl
  have hRR : X.2.2.2.1 = rm := hB.2.2.2.2.2.2.2.2
  refine w_back (r := r) (M1 := M1) (mc := mc) (ms := ms) (av := (Value.ref (kZ K + (ix n)) :: As.map (val K)).toArray) hB z zs hx b dd ?_ kk
  have hMM := hM
  unfold MT at hMM
  rw [List.map_cons, val_ref hs.1] at hMM
  refine va_runV (As := As.map (val K)) (b := kZ K + (ix n)) (C := C) (index := idx) (bytes := c1) (maxL := n1) (ret := r1) (n := na) (Ts := tblG) ⟨hB.1, hB.2.1, hB.2.2.1, hB.2.2.2.1, hts⟩ hMM ⟨callB_of na hts (good_code w3) rfl hc.1 hc.2 (hts _ w2) (hts _ w1) ⟨w5.1, w5.2, w6⟩ (by rw [hRR]; exact hR), hts _ hin, by rw [← w4]; exact hts _ hse⟩
    ⟨world_blind, ⟨cell, q1, by rw [q3]; rfl, by rw [q2]; exact hfc⟩, world_pre hB cp a b zs⟩ rfl (by rw [List.length_map]; exact hn) (by rw [dd.1]; exact hB.2.2.1) ?_ (lv_room ?_) d (by rw [hRR]; exact hf)
  · show (As.reverse ++ vr n :: st).map (val K) = _
    rw [List.map_append, List.map_reverse, List.map_cons, val_ref hs.1]
  · rw [List.map_map]
    rw [show (fun v : Value => v.category) ∘ val K = catL from funext (fun v => val_cat K v)]
    exact hst
theorem w_callG (hB : Bx K X rm cc nL own ret) {idx n na mc ms n1 b0 : Nat} {C : String} {y : MethodName} {c1 : ByteArray} {r1 : Option FieldType} {r2 : Room} {r : Option Lv} {As : List Lv} (hw : CWs own idx C y c1 n1 r1 na) (hin : Cond.instanceMethod y ∈ tblG) (hse : Cond.selects y.cls y y ∈ tblG) (hb0 : val K (vr n) = .ref b0) (hrv : CRp K M → ∀ (H : Heap) (locs : List Loc), va_P (kD K) vcl (wd K M) H → va_S (kF K) (xS X).heap H locs → ∃ cell : Cell, H[b0]? = some cell ∧ cell.vm.isStatics = false ∧ (xS X).vm.findClass C = some cell.cls)
    (hM : MT K X.2.1 y c1 n1 r1 r2 (vr n :: As) M r M1 mc ms) (hc : r2.cells = mc ∧ r2.slots = ms) (hR : r2.frames + 1 ≤ rm.frames ∧ 8 + (n1 + 11) + r2.locals ≤ rm.locals) (hf : ce + mc ≤ rm.cells ∧ sl + ms ≤ rm.slots) (hn : As.length = na) (hst : (st.map catL).sum ≤ 8) (d : decode cc pc = .ok (.invokevirtual idx, 3))
    {sk : List Lv} (hsk : sk = As.reverse ++ vr n :: st) (kk : Wt K X Q (ce + mc) (sl + ms) M1 (pc + 3) L (r.toList ++ st)) (hx : mc = 0 ∨ mc + M.2.2.2 = M1.2.2.2 := by exact Or.inl rfl) : Wt K X Q ce sl M pc L sk := by
  subst hsk
  intro cp H locs ls a b z dd
  refine w_sz hB a b z (fun zs => ?_)
  have hts := hB.2.2.2.2.1
  obtain ⟨w1, w2, w3, w4, w5, w6⟩ := hw
  have hRR : X.2.2.2.1 = rm := hB.2.2.2.2.2.2.2.2
  refine w_back (r := r) (M1 := M1) (mc := mc) (ms := ms) (av := (Value.ref b0 :: As.map (val K)).toArray) hB z zs hx b dd ?_ kk
  have hMM := hM
  unfold MT at hMM
  rw [List.map_cons, hb0] at hMM
  refine va_runV (As := As.map (val K)) (b := b0) (C := C) (index := idx) (bytes := c1) (maxL := n1) (ret := r1) (n := na) (Ts := tblG) ⟨hB.1, hB.2.1, hB.2.2.1, hB.2.2.2.1, hts⟩ hMM ⟨callB_of na hts (good_code w3) rfl hc.1 hc.2 (hts _ w2) (hts _ w1) ⟨w5.1, w5.2, w6⟩ (by rw [hRR]; exact hR), hts _ hin, by rw [← w4]; exact hts _ hse⟩
    ⟨world_blind, hrv cp H locs a b, world_pre hB cp a b zs⟩ rfl (by rw [List.length_map]; exact hn) (by rw [dd.1]; exact hB.2.2.1) ?_ (lv_room ?_) d (by rw [hRR]; exact hf)
  · show (As.reverse ++ vr n :: st).map (val K) = _
    rw [List.map_append, List.map_reverse, List.map_cons, hb0]
  · rw [List.map_map]
    rw [show (fun v : Value => v.category) ∘ val K = catL from funext (fun v => val_cat K v)]
    exact hst
theorem w_callS (hB : Bx K X rm cc nL own ret) {idx na mc ms n1 : Nat} {C : String} {y : MethodName} {c1 : ByteArray} {r1 : Option FieldType} {r2 : Room} {r : Option Lv} {As : List Lv} (hw : CWs own idx C y c1 n1 r1 na) (hin : Cond.static y ∈ tblG)
    (hM : MT K X.2.1 y c1 n1 r1 r2 As M r M1 mc ms) (hc : r2.cells = mc ∧ r2.slots = ms) (hR : r2.frames + 1 ≤ rm.frames ∧ 8 + (n1 + 11) + r2.locals ≤ rm.locals) (hf : ce + mc ≤ rm.cells ∧ sl + ms ≤ rm.slots) (hn : As.length = na) (hst : (st.map catL).sum ≤ 8) (d : decode cc pc = .ok (.invokestatic idx, 3))
    {sk : List Lv} (hsk : sk = As.reverse ++ st) (kk : Wt K X Q (ce + mc) (sl + ms) M1 (pc + 3) L (r.toList ++ st)) (hx : mc = 0 ∨ mc + M.2.2.2 = M1.2.2.2 := by exact Or.inl rfl) : Wt K X Q ce sl M pc L sk := by
  subst hsk
  intro cp H locs ls a b z dd
  refine w_sz hB a b z (fun zs => ?_)
  have hts := hB.2.2.2.2.1
  obtain ⟨w1, w2, w3, w4, w5, w6⟩ := hw
  have hRR : X.2.2.2.1 = rm := hB.2.2.2.2.2.2.2.2
  refine w_back (r := r) (M1 := M1) (mc := mc) (ms := ms) (av := (As.map (val K)).toArray) hB z zs hx b dd ?_ kk
  refine va_runS (As := As.map (val K)) (index := idx) (bytes := c1) (maxL := n1) (ret := r1) (n := na) (Ts := tblG) ⟨hB.1, hB.2.1, hB.2.2.1, hB.2.2.2.1, hts⟩ hM ⟨callB_of na hts (good_code w3) rfl hc.1 hc.2 (hts _ w2) (hts _ w1) ⟨w5.1, w5.2, w6⟩ (by rw [hRR]; exact hR), hts _ hin⟩
    ⟨world_blind, world_pre hB cp a b zs⟩ rfl (by rw [List.length_map]; exact hn) (by rw [dd.1]; exact hB.2.2.1) ?_ (lv_room ?_) d (by rw [hRR]; exact hf)
  · show (As.reverse ++ st).map (val K) = _
    rw [List.map_append, List.map_reverse]
  · rw [List.map_map]
    rw [show (fun v : Value => v.category) ∘ val K = catL from funext (fun v => val_cat K v)]
    exact hst
end CALLS
section
end
