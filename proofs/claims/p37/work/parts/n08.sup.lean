/-! combinators of the decompiled methods -/
theorem q_natc : Cond.native ⟨"java/lang/System", "arraycopy", "(Ljava/lang/Object;ILjava/lang/Object;II)V"⟩ ∈ tblG := tblG_of 464 (by decide +kernel) rfl
theorem q_stac : Cond.static ⟨"java/lang/System", "arraycopy", "(Ljava/lang/Object;ILjava/lang/Object;II)V"⟩ ∈ tblG := tblG_of 463 (by decide +kernel) rfl
theorem q_inis : Cond.initialized "java/lang/System" ∈ tblG := tblG_of 21 (by decide +kernel) rfl
theorem ent_cp {K : Kt} {M : Mem} {a b n q : Nat} (h : q ≠ b) : ent K (cpI M a b n) q = ent K M q := by
  have e : (cpI M a b n).1 q = M.1 q := by
    funext j
    show (if q = b ∧ j < n then M.1 a j else M.1 q j) = M.1 q j
    rw [if_neg (fun z => h z.1)]
  have e2 : ∀ j, (cpI M a b n).1 q j = M.1 q j := fun j => by rw [e]
  simp only [ent, flds, fv, e, e2]
  rfl
/-! the constants: tokens (1 .. 25), their row (26), the switch's row (27), strings (30 ..) -/
/-- the law's strings: string i stands at 400 + i, its bytes at 450 + i -/
def lsNm : List String := ["camera c", " ", ";", "flash c", " c", "side sa ", ";side sb ", "kind k", " forced", " again", " before ", " and 0 before ", "board ba ", "(ca)(cb)(cc);board bb ", "(ca cb)(cb cc)(ca cb cc);", "play p", " k", " s", " yes", " no", "!", "?", "limit ", ";bonus ", ";last ", ";window "]
def lsIx : List Nat := [38, 47, 56, 58, 60, 62, 64, 66, 68, 70, 72, 74, 76, 78, 80, 82, 84, 86, 88, 90, 92, 94, 96, 98, 100, 102]
def lsBy : List (List Int32) := [[99, 97, 109, 101, 114, 97, 32, 99], [32], [59], [102, 108, 97, 115, 104, 32, 99], [32, 99], [115, 105, 100, 101, 32, 115, 97, 32], [59, 115, 105, 100, 101, 32, 115, 98, 32], [107, 105, 110, 100, 32, 107], [32, 102, 111, 114, 99, 101, 100], [32, 97, 103, 97, 105, 110], [32, 98, 101, 102, 111, 114, 101, 32], [32, 97, 110, 100, 32, 48, 32, 98, 101, 102, 111, 114, 101, 32], [98, 111, 97, 114, 100, 32, 98, 97, 32], [40, 99, 97, 41, 40, 99, 98, 41, 40, 99, 99, 41, 59, 98, 111, 97, 114, 100, 32, 98, 98, 32], [40, 99, 97, 32, 99, 98, 41, 40, 99, 98, 32, 99, 99, 41, 40, 99, 97, 32, 99, 98, 32, 99, 99, 41, 59], [112, 108, 97, 121, 32, 112], [32, 107], [32, 115], [32, 121, 101, 115], [32, 110, 111], [33], [63], [108, 105, 109, 105, 116, 32], [59, 98, 111, 110, 117, 115, 32], [59, 108, 97, 115, 116, 32], [59, 119, 105, 110, 100, 111, 119, 32]]
def lsL : List Nat := [8, 1, 1, 7, 2, 8, 9, 6, 7, 6, 8, 14, 9, 22, 25, 6, 2, 2, 4, 3, 1, 1, 6, 7, 6, 8]
/-- the JDK's rows of digits: tens at 480, ones at 481 -/
def dgt (n j : Nat) : Int32 := if n = 480 then Int32.ofNat (48 + j / 10) else Int32.ofNat (48 + j % 10)
def dgN (n : Nat) : String := if n = 480 then "DigitTens" else "DigitOnes"
/-- what the start gives of the constants -/
def KTok (K : Kt) : Prop := (∀ j, j < 25 → va_Z "ReplayBooth$Token" (tokNm.getD j "") "LReplayBooth$Token;" (.ref (kA K (j + 1))) (kF K) (kS K) (kS K).heap ∧ va_O "ReplayBooth$Token" (kA K (j + 1)) (kF K) (kS K) (kS K).heap ∧ va_OF "java/lang/Enum" "ordinal" "I" (.int (Int32.ofNat j)) (kA K (j + 1)) (kF K) (kS K) (kS K).heap ∧ va_OF "ReplayBooth$Token" "code" "I" (.int (tokCode (j + 1))) (kA K (j + 1)) (kF K) (kS K) (kS K).heap) ∧
  va_Z "ReplayBooth" "TOKENS" "[LReplayBooth$Token;" (.ref (kA K 26)) (kF K) (kS K) (kS K).heap ∧ va_T (.object "ReplayBooth$Token") (kA K 26) 25 (fun i => .ref (kA K (i + 1))) (kF K) (kS K) (kS K).heap ∧
  va_Z "ReplayBooth$1" "$SwitchMap$ReplayBooth$Token" "[I" (.ref (kA K 27)) (kF K) (kS K) (kS K).heap ∧ va_T .int (kA K 27) 25 (fun i => .int (swm i)) (kF K) (kS K) (kS K).heap ∧
  (∀ i, i < 26 → vk_R RL (lsIx.getD i 0) (lsNm.getD i "") (kA K (400 + i)) (kS K) ∧ va_O "java/lang/String" (kA K (400 + i)) (kF K) (kS K) (kS K).heap ∧ va_OF "java/lang/String" "coder" "B" (.int 0) (kA K (400 + i)) (kF K) (kS K) (kS K).heap ∧ va_OF "java/lang/String" "value" "[B" (.ref (kA K (450 + i))) (kA K (400 + i)) (kF K) (kS K) (kS K).heap ∧ va_T .byte (kA K (450 + i)) (lsL.getD i 0) (fun j => .int ((lsBy.getD i []).getD j 0)) (kF K) (kS K) (kS K).heap) ∧
  va_Z "java/lang/String" "COMPACT_STRINGS" "Z" (.int 1) (kF K) (kS K) (kS K).heap ∧ va_Z "jdk/internal/util/Preconditions" "SIOOBE_FORMATTER" "Ljava/util/function/BiFunction;" (val K (vr 60)) (kF K) (kS K) (kS K).heap ∧ va_Nw (.fieldLinkNest "ReplayBooth$Token" 116 "ReplayBooth" "TOKENS" "[LReplayBooth$Token;" "ReplayBooth") (kS K) ∧
  ∀ n, n = 480 ∨ n = 481 → va_Z "java/lang/Integer" (dgN n) "[B" (.ref (kA K n)) (kF K) (kS K) (kS K).heap ∧ va_T .byte (kA K n) 100 (fun j => .int (dgt n j)) (kF K) (kS K) (kS K).heap
def St (K : Kt) : Prop := kP K = false ∧ KTok K
section SPEC
variable {K : Kt} {X : Xt} {Q : State → Prop} {ce sl : Nat} {M : Mem} {pc : Nat} {L L' : List (Nat × Lv)} {st : List Lv} {rm : Room} {cc : ByteArray} {nL : Nat} {own : String} {ret : Option FieldType}
/-- a stretch of one row becomes another's -/
def cpG (M : Mem) (a b sp dp n : Nat) : Mem := (fun q => if q = b then va_cpy (M.1 a) (M.1 b) sp dp n else M.1 q, M.2.1, M.2.2.1, M.2.2.2)
theorem ent_cpG {K : Kt} {M : Mem} {a b sp dp n q : Nat} (h : q ≠ b) : ent K (cpG M a b sp dp n) q = ent K M q := by
  have e : (cpG M a b sp dp n).1 q = M.1 q := if_neg h
  exact ent_cg rfl rfl e rfl rfl
theorem w_cpy (hB : Bx K X rm cc nL own ret) {c a b la lb : Nat} {sp dp n : Int32} {idx : Nat} {M1 : Mem} {ty : FieldType} (hc : c < 3) (hty : (tysK K)[c]? = some (kY K c, ty)) (href : refKind ty = false) (ha : O3 K M a (20 + c)) (hb : O3 K M b (20 + c)) (hla : slq M a = la) (hlb : slq M b = lb) (h1 : ¬ sp < 0) (h2 : ¬ dp < 0) (h3 : ¬ n < 0) (h4 : sp.toNatClampNeg + n.toNatClampNeg ≤ la) (h5 : dp.toNatClampNeg + n.toNatClampNeg ≤ lb) (hfit : ∀ i, i < n.toNatClampNeg → fits ty (.int (M.1 a (sp.toNatClampNeg + i))) = true) (hl : Cond.methodLink own idx ⟨"java/lang/System", "arraycopy", "(Ljava/lang/Object;ILjava/lang/Object;II)V"⟩ ∈ tblG) (e : M1 = cpG M a b sp.toNatClampNeg dp.toNatClampNeg n.toNatClampNeg) (d : decode cc pc = .ok (.invokestatic idx, 3))
    (hfr : 1 ≤ rm.frames) (hlo : (st.map catL).sum + 18 ≤ rm.locals) (kk : Wt K X Q ce sl M1 (pc + 3) L st) : Wt K X Q ce sl M pc L (vi n :: vi dp :: vr b :: vi sp :: vr a :: st) := by
  subst e
  intro cp H locs ls hP hS z dd
  have hts := hB.2.2.2.2.1
  have hRR : X.2.2.2.1 = rm := hB.2.2.2.2.2.2.2.2
  have e0 := wd_get (K := K) (M := M) ha.1 (ha.2.2 cp)
  have e1 := wd_get (K := K) (M := M) hb.1 (hb.2.2 cp)
  rw [ent_arr (c := c) ha.2.1 hc] at e0
  rw [ent_arr (c := c) hb.2.1 hc] at e1
  rw [List.map_cons, List.map_cons, List.map_cons, List.map_cons, List.map_cons, val_ref ha.1, val_ref hb.1]
  refine va_copyi hB.1 hB.2.1 (by rw [dd.1]) hB.2.2.2.1 (hts _ hl) (hts _ q_natc) (hts _ q_stac) (hts _ q_inis) (hB.2.2.2.2.2.1).K hP (wd_D K M) hS (ix a) (ix b) c c (ty := ty) e0 e1 hty hty href h1 h2 h3 (by rw [hla]; exact h4) (by rw [hlb]; exact h5) hfit (by rw [hRR]; exact hfr) ?_ d ?_
  · rw [List.map_map, show (fun v : Value => v.category) ∘ val K = catL from funext (fun v => val_cat K v), hRR]
    exact hlo
  · intro H1 locs1 p1 _ s1
    rw [wd_set (K := K) (M := M) (M1 := cpG M a b sp.toNatClampNeg dp.toNatClampNeg n.toNatClampNeg) rfl hb.1 (hb.2.2 cp) ?_ (fun q h => ent_cpG h)] at p1
    · exact kk cp H1 locs1 ls p1 s1 z dd
    · rw [ent_arr (M := cpG M a b sp.toNatClampNeg dp.toNatClampNeg n.toNatClampNeg) (c := c) (show shq (cpG M a b sp.toNatClampNeg dp.toNatClampNeg n.toNatClampNeg) b = _ from hb.2.1) hc]
      show Sum.inl (kY K c, slq M b, Sum.inl (if b = b then va_cpy (M.1 a) (M.1 b) _ _ _ else M.1 b)) = _
      rw [if_pos rfl]
theorem cpG_0 (M : Mem) (a b n : Nat) : cpG M a b 0 0 n = cpI M a b n := by
  unfold cpG cpI
  congr 1
  funext q k
  by_cases h : q = b
  · subst h
    rw [if_pos rfl]
    unfold va_cpy
    by_cases hk : k < n
    · rw [if_pos ⟨Nat.zero_le _, by omega⟩, if_pos ⟨rfl, hk⟩]
      simp
    · rw [if_neg (fun z => hk (by omega)), if_neg (fun z => hk z.2)]
  · rw [if_neg h, if_neg (fun z => h z.1)]
theorem w_copy (hB : Bx K X rm cc nL own ret) (hp : kP K = false) {a b la lb : Nat} {n : Int32} {N : Nat} {idx : Nat} {M1 : Mem} (ha : shc a = 20) (hb : shc b = 20) (hla : shl a = la) (hlb : shl b = lb) (hn : ¬ n < 0 ∧ n.toNatClampNeg = N) (h4 : N ≤ la) (h5 : N ≤ lb) (hl : Cond.methodLink own idx ⟨"java/lang/System", "arraycopy", "(Ljava/lang/Object;ILjava/lang/Object;II)V"⟩ ∈ tblG) (e : M1 = cpI M a b N) (d : decode cc pc = .ok (.invokestatic idx, 3))
    (hfr : 1 ≤ rm.frames) (hlo : (st.map catL).sum + 18 ≤ rm.locals) (kk : Wt K X Q ce sl M1 (pc + 3) L st) : Wt K X Q ce sl M pc L (vi n :: vi 0 :: vr b :: vi 0 :: vr a :: st) := by
  have z0 : (0 : Int32).toNatClampNeg = 0 := by decide
  refine w_cpy (c := 0) (ty := .int) hB (by decide) rfl rfl (soM hp ha (by decide)) (soM hp hb (by decide)) (sl_s ha (by decide) hla) (sl_s hb (by decide) hlb) (by decide) (by decide) hn.1 ?_ ?_ (fun i _ => rfl) hl ?_ d hfr hlo kk
  · rw [z0, hn.2]; omega
  · rw [z0, hn.2]; omega
  · rw [z0, hn.2, cpG_0]; exact e
theorem q_minc : Cond.code Lib.Math.min.name Lib.Math.min.code 2 (some .int) ∈ tblG := tblG_of 653 (by decide +kernel) rfl
theorem q_mins : Cond.static Lib.Math.min.name ∈ tblG := tblG_of 652 (by decide +kernel) rfl
theorem q_mini : Cond.initialized "java/lang/Math" ∈ tblG := tblG_of 27 (by decide +kernel) rfl
theorem w_min (hB : Bx K X rm cc nL own ret) {x y : Int32} {idx : Nat} (hl : Cond.methodLink own idx Lib.Math.min.name ∈ tblG) (hfr : 1 ≤ rm.frames) (hlo : (st.map catL).sum + 13 ≤ rm.locals) (hf : ce ≤ rm.cells ∧ sl ≤ rm.slots) (d : decode cc pc = .ok (.invokestatic idx, 3)) (kk : Wt K X Q ce sl M (pc + 3) L (vi (min32 x y) :: st)) : Wt K X Q ce sl M pc L (vi y :: vi x :: st) := by
  intro cp H locs ls hP hS z dd
  have hts := hB.2.2.2.2.1
  have hRR : X.2.2.2.1 = rm := hB.2.2.2.2.2.2.2.2
  refine va_mmin hB.1 hB.2.1 (by rw [dd.1]) hB.2.2.2.1 (hts _ hl) (hts _ q_mins) (hts _ q_mini) (hts _ q_minc) (by rw [hRR]; exact hfr) ?_ (by rw [hRR]; exact hf.1) (by rw [hRR]; exact hf.2) d (kk cp H locs ls hP hS z dd)
  rw [List.map_map, show (fun v : Value => v.category) ∘ val K = catL from funext (fun v => val_cat K v), hRR]
  exact hlo
theorem w_lsw (hB : Bx K X rm cc nL own ret) {dflt : Int} {ps : Array (Int × Int)} {len : Nat} {x : Int32} {off : Int} (tgt : Nat) (d : decode cc pc = .ok (.lookupswitch dflt ps, len)) (hp : (ps.toList.zip (ps.toList.drop 1)).all (fun (a, next) => a.1 < next.1) = true) (ho : Op.lookupswitch.offset ps.toList dflt x.toInt = off) (ht : (pc : Int) + off = (tgt : Int)) (k : Wt K X Q ce sl M tgt L st) : Wt K X Q ce sl M pc L (vi x :: st) := Wt.lift (fun H locs ls _ => lv_lookup hB.1 hB.2.1 d hp ho ht) k
/-- old things as they stand now -/
theorem old_Z {C n d : String} {v : Value} {U : State} (hA : Al K U) (h : va_Z C n d v (kF K) (kS K) (kS K).heap) : va_Z C n d v (kF K) U U.heap := (h.moved hA.1.alike).kept (fun a ha _ => hA.2.2.2.2.1 a (by rw [← hA.2.2.1]; exact ha))
theorem old_O {E : String} {t : Nat} {U : State} (hA : Al K U) (h : va_O E t (kF K) (kS K) (kS K).heap) : va_O E t (kF K) U U.heap := (h.moved hA.1.alike).kept (fun a ha _ => hA.2.2.2.2.1 a (by rw [← hA.2.2.1]; exact ha))
theorem old_F {o n d : String} {v : Value} {t : Nat} {U : State} (hA : Al K U) (h : va_OF o n d v t (kF K) (kS K) (kS K).heap) : va_OF o n d v t (kF K) U U.heap := (h.moved hA.1.alike).kept (fun a ha _ => hA.2.2.2.2.1 a (by rw [← hA.2.2.1]; exact ha))
theorem old_T {ty : FieldType} {t N : Nat} {f : Nat → Value} {U : State} (hA : Al K U) (h : va_T ty t N f (kF K) (kS K) (kS K).heap) : va_T ty t N f (kF K) U U.heap := (h.moved hA.1.alike).kept (fun a ha _ => hA.2.2.2.2.1 a (by rw [← hA.2.2.1]; exact ha))
/-- the constants' addresses -/
def Cc (n : Nat) : Prop := (0 < n ∧ n < 60) ∨ (311 ≤ n ∧ n < 1000)
theorem val_con {n : Nat} (h : Cc n) : val K (vr n) = .ref (kA K n) := by
  show va_rf (rn K n) = _
  unfold Cc at h
  unfold rn
  rw [if_neg (by omega), if_neg (by omega)]
  rcases h with h | h
  · rw [if_pos (by omega)]; rfl
  · rw [if_neg (by omega), if_neg (by omega), if_pos (by omega)]; rfl
theorem w_gettok (hB : Bx K X rm cc nL own ret) (hp : St K) {idx : Nat} {nm : String} (n : Nat) (hn : (0 < n ∧ n < 26) ∧ tokNm.getD (n - 1) "" = nm) (hl : Cond.fieldLink own idx "ReplayBooth$Token" nm "LReplayBooth$Token;" ∈ tblG) (d : decode cc pc = .ok (.getstatic idx, 3)) (k : Wt K X Q ce sl M (pc + 3) L (vr n :: st)) : Wt K X Q ce sl M pc L st := by
  intro cp H locs ls a b z dd
  have hz := (hp.2.1 (n - 1) (by omega)).1
  rw [hn.2, show n - 1 + 1 = n by omega] at hz
  refine va_gets hB.1 hB.2.1 (old_Z hB.2.2.2.2.2.1 hz) b hB.2.2.2.1 (hB.2.2.2.2.1 _ hl) (fun _ h => h) d ?_
  have kk := k cp H locs ls a b z dd
  rw [List.map_cons, val_con (Or.inl ⟨hn.1.1, by omega⟩)] at kk
  exact kk
theorem w_getstc (hB : Bx K X rm cc nL own ret) {C n ds : String} {v : Lv} {idx : Nat} (hz : va_Z C n ds (val K v) (kF K) (kS K) (kS K).heap) (hl : Cond.fieldLink own idx C n ds ∈ tblG) (d : decode cc pc = .ok (.getstatic idx, 3)) (k : Wt K X Q ce sl M (pc + 3) L (v :: st)) : Wt K X Q ce sl M pc L st := by
  intro cp H locs ls a b z dd
  exact va_gets hB.1 hB.2.1 (old_Z hB.2.2.2.2.2.1 hz) b hB.2.2.2.1 (hB.2.2.2.2.1 _ hl) (fun _ h => h) d (k cp H locs ls a b z dd)
theorem w_getcF (hB : Bx K X rm cc nL own ret) {o nm ds : String} {n idx : Nat} {v : Lv} (hE : va_OF o nm ds (val K v) (kA K n) (kF K) (kS K) (kS K).heap) (hn : Cc n) (hl : Cond.fieldLink own idx o nm ds ∈ tblG) (d : decode cc pc = .ok (.getfield idx, 3)) (k : Wt K X Q ce sl M (pc + 3) L (v :: st)) : Wt K X Q ce sl M pc L (vr n :: st) := by
  intro cp H locs ls a b z dd
  rw [List.map_cons, val_con hn]
  exact vk_getf hB.1 hB.2.1 (old_F hB.2.2.2.2.2.1 hE) b hB.2.2.2.1 (hB.2.2.2.2.1 _ hl) (fun _ h => h) d (k cp H locs ls a b z dd)
theorem w_tokcode (hB : Bx K X rm cc nL own ret) (hp : St K) {n idx : Nat} (hn : 0 < n ∧ n < 26) (hl : Cond.fieldLink own idx "ReplayBooth$Token" "code" "I" ∈ tblG) (d : decode cc pc = .ok (.getfield idx, 3)) (k : Wt K X Q ce sl M (pc + 3) L (vi (tokCode n) :: st)) : Wt K X Q ce sl M pc L (vr n :: st) := by
  have h := (hp.2.1 (n - 1) (by omega)).2.2.2
  rw [show n - 1 + 1 = n by omega] at h
  exact w_getcF hB (v := vi (tokCode n)) h (Or.inl ⟨hn.1, by omega⟩) hl d k
theorem w_tokord (hB : Bx K X rm cc nL own ret) (hp : St K) {n idx : Nat} (hn : 0 < n ∧ n < 26) (hl : Cond.fieldLink own idx "java/lang/Enum" "ordinal" "I" ∈ tblG) (d : decode cc pc = .ok (.getfield idx, 3)) (k : Wt K X Q ce sl M (pc + 3) L (vi (Int32.ofNat (n - 1)) :: st)) : Wt K X Q ce sl M pc L (vr n :: st) := by
  have h := (hp.2.1 (n - 1) (by omega)).2.2.1
  rw [show n - 1 + 1 = n by omega] at h
  exact w_getcF hB (v := vi (Int32.ofNat (n - 1))) h (Or.inl ⟨hn.1, by omega⟩) hl d k
theorem w_strcoder (hB : Bx K X rm cc nL own ret) (hp : St K) {n idx : Nat} (hn : 400 ≤ n ∧ n < 426) (hl : Cond.fieldLink own idx "java/lang/String" "coder" "B" ∈ tblG) (d : decode cc pc = .ok (.getfield idx, 3)) (k : Wt K X Q ce sl M (pc + 3) L (vi 0 :: st)) : Wt K X Q ce sl M pc L (vr n :: st) := by
  have h := (hp.2.2.2.2.2.2.1 (n - 400) (by omega)).2.2.1
  rw [show 400 + (n - 400) = n by omega] at h
  exact w_getcF hB (v := vi 0) h (Or.inr ⟨by omega, by omega⟩) hl d k
theorem w_strval (hB : Bx K X rm cc nL own ret) (hp : St K) {n idx : Nat} (hn : 400 ≤ n ∧ n < 426) (hl : Cond.fieldLink own idx "java/lang/String" "value" "[B" ∈ tblG) (d : decode cc pc = .ok (.getfield idx, 3)) (k : Wt K X Q ce sl M (pc + 3) L (vr (n + 50) :: st)) : Wt K X Q ce sl M pc L (vr n :: st) := by
  have h := (hp.2.2.2.2.2.2.1 (n - 400) (by omega)).2.2.2.1
  rw [show 400 + (n - 400) = n by omega, show 450 + (n - 400) = n + 50 by omega, ← val_con (n := n + 50) (Or.inr ⟨by omega, by omega⟩)] at h
  exact w_getcF hB (v := vr (n + 50)) h (Or.inr ⟨by omega, by omega⟩) hl d k
theorem w_getcomp (hB : Bx K X rm cc nL own ret) (hp : St K) {idx : Nat} (hl : Cond.fieldLink own idx "java/lang/String" "COMPACT_STRINGS" "Z" ∈ tblG) (d : decode cc pc = .ok (.getstatic idx, 3)) (k : Wt K X Q ce sl M (pc + 3) L (vi 1 :: st)) : Wt K X Q ce sl M pc L st := w_getstc hB (v := vi 1) hp.2.2.2.2.2.2.2.1 hl d k
theorem w_getfmt (hB : Bx K X rm cc nL own ret) (hp : St K) {idx : Nat} (hl : Cond.fieldLink own idx "jdk/internal/util/Preconditions" "SIOOBE_FORMATTER" "Ljava/util/function/BiFunction;" ∈ tblG) (d : decode cc pc = .ok (.getstatic idx, 3)) (k : Wt K X Q ce sl M (pc + 3) L (vr 60 :: st)) : Wt K X Q ce sl M pc L st := w_getstc hB (v := vr 60) hp.2.2.2.2.2.2.2.2.1 hl d k
theorem w_getSWM (hB : Bx K X rm cc nL own ret) (hp : St K) {idx : Nat} (hl : Cond.fieldLink own idx "ReplayBooth$1" "$SwitchMap$ReplayBooth$Token" "[I" ∈ tblG) (d : decode cc pc = .ok (.getstatic idx, 3)) (k : Wt K X Q ce sl M (pc + 3) L (vr 27 :: st)) : Wt K X Q ce sl M pc L st := w_getstc hB (v := vr 27) (by rw [val_con (Or.inl ⟨by decide, by decide⟩)]; exact hp.2.2.2.2.1) hl d k
theorem w_ldcs (hB : Bx K X rm cc nL RL ret) (hp : St K) {idx : Nat} (n : Nat) (hn : (400 ≤ n ∧ n < 426) ∧ lsIx.getD (n - 400) 0 = idx) (d : decode cc pc = .ok (.ldc idx, 2)) (k : Wt K X Q ce sl M (pc + 2) L (vr n :: st)) : Wt K X Q ce sl M pc L st := by
  intro cp H locs ls a b z dd
  have h := (hp.2.2.2.2.2.2.1 (n - 400) (by omega)).1
  rw [show 400 + (n - 400) = n by omega, hn.2] at h
  have kk := k cp H locs ls a b z dd
  rw [List.map_cons, val_con (Or.inr ⟨by omega, by omega⟩)] at kk
  exact va_ldcS hB.1 hB.2.1 hB.2.2.2.1 (vk_R.warm hB.2.2.2.2.2.1.1 h) d kk
theorem w_salen (hB : Bx K X rm cc nL own ret) (hp : St K) {n : Nat} (hn : 450 ≤ n ∧ n < 476) (d : decode cc pc = .ok (.arraylength, 1)) (k : Wt K X Q ce sl M (pc + 1) L (vi (Int32.ofNat (lsL.getD (n - 450) 0)) :: st)) : Wt K X Q ce sl M pc L (vr n :: st) := by
  intro cp H locs ls a b z dd
  have h := (hp.2.2.2.2.2.2.1 (n - 450) (by omega)).2.2.2.2
  rw [show 450 + (n - 450) = n by omega] at h
  rw [List.map_cons, val_con (Or.inr ⟨by omega, by omega⟩)]
  exact va_tlen hB.1 hB.2.1 (old_T hB.2.2.2.2.2.1 h) b rfl d (k cp H locs ls a b z dd)
theorem w_sbald (hB : Bx K X rm cc nL own ret) (hp : St K) {n : Nat} {i : Int32} (hn : 450 ≤ n ∧ n < 476) (hin : inb i (lsL.getD (n - 450) 0)) (d : decode cc pc = .ok (.baload, 1)) (k : Wt K X Q ce sl M (pc + 1) L (vi ((lsBy.getD (n - 450) []).getD i.toNatClampNeg 0) :: st)) : Wt K X Q ce sl M pc L (vi i :: vr n :: st) := by
  intro cp H locs ls a b z dd
  have h := (hp.2.2.2.2.2.2.1 (n - 450) (by omega)).2.2.2.2
  rw [show 450 + (n - 450) = n by omega] at h
  rw [List.map_cons, List.map_cons, val_con (Or.inr ⟨by omega, by omega⟩)]
  exact va_tb hB.1 hB.2.1 (old_T hB.2.2.2.2.2.1 h) b hin rfl d (k cp H locs ls a b z dd)
theorem w_toklen (hB : Bx K X rm cc nL own ret) (hp : St K) (d : decode cc pc = .ok (.arraylength, 1)) (k : Wt K X Q ce sl M (pc + 1) L (vi 25 :: st)) : Wt K X Q ce sl M pc L (vr 26 :: st) := by
  intro cp H locs ls a b z dd
  rw [List.map_cons, val_con (Or.inl ⟨by omega, by omega⟩)]
  exact va_tlen hB.1 hB.2.1 (old_T hB.2.2.2.2.2.1 hp.2.2.2.1) b rfl d (k cp H locs ls a b z dd)
theorem w_tokld (hB : Bx K X rm cc nL own ret) (hp : St K) {i : Int32} (hin : inb i 25) (d : decode cc pc = .ok (.aaload, 1)) (k : Wt K X Q ce sl M (pc + 1) L (vr (i.toNatClampNeg + 1) :: st)) : Wt K X Q ce sl M pc L (vi i :: vr 26 :: st) := by
  intro cp H locs ls a b z dd
  have ht := tok_in hin
  rw [List.map_cons, List.map_cons, val_con (Or.inl ⟨by omega, by omega⟩)]
  have kk := k cp H locs ls a b z dd
  rw [List.map_cons, val_con (Or.inl ⟨ht.1, by omega⟩)] at kk
  exact vb_tq hB.1 hB.2.1 (old_T hB.2.2.2.2.2.1 hp.2.2.2.1) b hin rfl d kk
theorem w_swmld (hB : Bx K X rm cc nL own ret) (hp : St K) {i : Int32} (hin : inb i 25) (d : decode cc pc = .ok (.iaload, 1)) (k : Wt K X Q ce sl M (pc + 1) L (vi (swm i.toNatClampNeg) :: st)) : Wt K X Q ce sl M pc L (vi i :: vr 27 :: st) := by
  intro cp H locs ls a b z dd
  rw [List.map_cons, List.map_cons, val_con (Or.inl ⟨by omega, by omega⟩)]
  exact va_ti hB.1 hB.2.1 (old_T hB.2.2.2.2.2.1 hp.2.2.2.2.2.1) b hin rfl d (k cp H locs ls a b z dd)
/-- the receiver is a constant object -/
theorem recv_con {C : String} {n : Nat} {U : State} (hA : Al K U) (hO : va_O C (kA K n) (kF K) (kS K) (kS K).heap) {H : Heap} {locs : List Loc} (b : va_S (kF K) U.heap H locs) : ∃ cell : Cell, H[kA K n]? = some cell ∧ cell.vm.isStatics = false ∧ U.vm.findClass C = some cell.cls := by
  obtain ⟨cell, h1, h2, h3, h4⟩ := old_O hA hO
  exact ⟨cell, by rw [b.2.1 _ (Array.getElem?_eq_some_iff.mp h1).1 h4]; exact h1, h2, h3⟩
theorem w_callStr (hB : Bx K X rm cc nL own ret) (hp : St K) {M1 : Mem} {idx n na mc ms n1 : Nat} {y : MethodName} {c1 : ByteArray} {r1 : Option FieldType} {r2 : Room} {r : Option Lv} {As : List Lv} (hn0 : 400 ≤ n ∧ n < 426) (hw : CWs own idx "java/lang/String" y c1 n1 r1 na) (hin : Cond.instanceMethod y ∈ tblG) (hse : Cond.selects y.cls y y ∈ tblG)
    (hM : MT K X.2.1 y c1 n1 r1 r2 (vr n :: As) M r M1 mc ms) (hc : r2.cells = mc ∧ r2.slots = ms) (hR : r2.frames + 1 ≤ rm.frames ∧ 8 + (n1 + 11) + r2.locals ≤ rm.locals) (hf : ce + mc ≤ rm.cells ∧ sl + ms ≤ rm.slots) (hn : As.length = na) (hst : (st.map catL).sum ≤ 8) (d : decode cc pc = .ok (.invokevirtual idx, 3))
    {sk : List Lv} (hsk : sk = As.reverse ++ vr n :: st) (kk : Wt K X Q (ce + mc) (sl + ms) M1 (pc + 3) L (r.toList ++ st)) (hx : mc = 0 ∨ mc + M.2.2.2 = M1.2.2.2 := by exact Or.inl rfl) : Wt K X Q ce sl M pc L sk := by
  have hO := (hp.2.2.2.2.2.2.1 (n - 400) (by omega)).2.1
  rw [show 400 + (n - 400) = n by omega] at hO
  exact w_callG hB hw hin hse (val_con (Or.inr ⟨by omega, by omega⟩)) (fun cp H locs a b => recv_con hB.2.2.2.2.2.1 hO b) hM hc hR hf hn hst d hsk kk hx
theorem w_getTOKS (hB : Bx K X rm cc nL "ReplayBooth$Token" ret) (hp : St K) (d : decode cc pc = .ok (.getstatic 116, 3)) (k : Wt K X Q ce sl M (pc + 3) L (vr 26 :: st)) : Wt K X Q ce sl M pc L st := by
  intro cp H locs ls a b z dd
  have kk := k cp H locs ls a b z dd
  rw [List.map_cons, val_con (Or.inl ⟨by decide, by decide⟩)] at kk
  exact va_getsN hB.1 hB.2.1 (old_Z hB.2.2.2.2.2.1 hp.2.2.1) b hB.2.2.2.1 (va_Nw.use rfl (va_Nw.warmF hB.2.2.2.2.2.1.1 hp.2.2.2.2.2.2.2.2.2.1)) (fun _ h => h) d kk
theorem w_aastT (hB : Bx K X rm cc nL own ret) (hp : St K) {n len v : Nat} {i : Int32} {M1 : Mem} (hs : shc n = 28) (hl : shl n = len) (hin : inb i len) (hv : 0 < v ∧ v < 26) (hc0 : cr n i.toNatClampNeg = 0) (e : M1 = setR M n i.toNatClampNeg v) (d : decode cc pc = .ok (.aastore, 1)) (kk : Wt K X Q ce sl M1 (pc + 1) L st) : Wt K X Q ce sl M pc L (vr v :: vi i :: vr n :: st) := by
  subst e
  intro cp H locs ls a b z dd
  have hs3 := soM (M := M) hp.1 hs (by decide)
  have hn := hs3.1
  have hm := hs3.2.2 cp
  have hsl := sl_s (M := M) hs (by decide) hl
  have hO := (hp.2.1 (v - 1) (by omega)).2.1
  rw [show v - 1 + 1 = v by omega] at hO
  have ha := wd_get (K := K) (M := M) hn hm
  rw [ent_rarr (c := 8) hs3.2.1 (by decide)] at ha
  rw [List.map_cons, List.map_cons, List.map_cons, val_ref hn, val_con (Or.inl ⟨hv.1, by omega⟩)]
  have hany : va_Any "ReplayBooth$Token" (xS X) H (kA K v) := by
    obtain ⟨cell, h1, h2, h3⟩ := recv_con hB.2.2.2.2.2.1 hO b
    obtain ⟨kC, hkC, -⟩ := Vm.findClass_spec h3
    refine ⟨cell, h1, h2, ⟨kC, hkC⟩, fun comp h => ?_⟩
    rw [h3] at h
    cases h
    show Vm.assignableAux _ (255 + 1) _ _ = true
    unfold Vm.assignableAux
    rw [beq_self_eq_true, Bool.true_or]
  refine va_astqM hB.1 hB.2.1 (hB.2.2.2.2.2.1).K a (wd_D K M) b (ix n) 8 ha rfl hany (by rw [hsl]; exact hin) d (fun H1 locs1 p1 _ s1 => ?_)
  rw [wd_set (K := K) (M := M) (M1 := setR M n i.toNatClampNeg v) rfl hn hm ?_ (fun q h => ent_R hn h)] at p1
  · exact kk (CRp_R hc0 cp) H1 locs1 ls p1 s1 z dd
  · rw [ent_rarr (M := setR M n i.toNatClampNeg v) (c := 8) ((shq_R hn).trans hs3.2.1) (by decide), slq_R hn]
    congr 7
    funext k
    show rn K (if n = n ∧ k = i.toNatClampNeg then v else M.2.2.1 n k) = va_up (fun k => rn K (M.2.2.1 n k)) i.toNatClampNeg (some (kA K v)) k
    unfold va_up
    by_cases hk : k = i.toNatClampNeg
    · rw [if_pos ⟨rfl, hk⟩, if_pos hk]
      unfold rn
      rw [if_neg (by omega), if_neg (by omega), if_pos (by omega)]
    · rw [if_neg (fun z => hk z.2), if_neg hk]
end SPEC
