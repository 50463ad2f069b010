/-! THE TYPED WORLD: pure values, memory, cells -/
abbrev Lv : Type := Int32 ⊕ Int64 ⊕ Nat
abbrev vi (x : Int32) : Lv := .inl x
abbrev vl (x : Int64) : Lv := .inr (.inl x)
abbrev vr (n : Nat) : Lv := .inr (.inr n)
/-- the state where the world begins, its heap's size, the classes' numbers, the arrays' classes, the constants' addresses, whether the world is being made -/
abbrev Kt : Type := State × Nat × va_G × (Nat → ClassId) × (Nat → Nat) × Bool
abbrev kS (K : Kt) : State := K.1
abbrev kZ (K : Kt) : Nat := K.2.1
abbrev kD (K : Kt) : va_G := K.2.2.1
abbrev kY (K : Kt) : Nat → ClassId := K.2.2.2.1
abbrev kA (K : Kt) : Nat → Nat := K.2.2.2.2.1
abbrev kP (K : Kt) : Bool := K.2.2.2.2.2
/-- the classes of objects, in the order of their codes -/
abbrev vcl : List vw_C := [(RX1, TX1, 3), (RX2, TX2, 2), (RX3, TX3, 10), (RX4, TX4, 4), (RX5, TX5, 6), (RX6, TX6, 12), (RX7, TX7, 14), (RX9, TX9, 14), (RX10, TX10, 14), (RJ0, TJ0, 4), (RJ4, TJ4, 4)]
def CRp (K : Kt) (M : Mem) : Prop := kP K = false → 247 ≤ M.2.2.2 ∧ ∀ n k, cr n k ≠ 0 → M.2.2.1 n k = cr n k
/-- the cells: 64 .. 310 stand from the making on, 1000 and on are made later; 311 .. 999 are no cells -/
def ix (n : Nat) : Nat := if n < 1000 then n - 64 else n - 753
def pa (q : Nat) : Nat := if q < 247 then q + 64 else q + 753
def Rl (n : Nat) : Prop := (64 ≤ n ∧ n < 311) ∨ 1000 ≤ n
theorem pa_ix {n : Nat} (h : Rl n) : pa (ix n) = n := by
  unfold pa ix
  unfold Rl at h
  split <;> split <;> omega
theorem ix_pa (q : Nat) : ix (pa q) = q := by
  unfold pa ix
  split <;> split <;> omega
theorem pa_r (q : Nat) : Rl (pa q) := by
  unfold pa Rl
  split <;> omega
def rn (K : Kt) (n : Nat) : Option Nat := if n = 0 then none else if n = 60 then (if kA K 60 = 0 then none else some (kA K 60 - 1)) else if n < 64 then some (kA K n) else if n < 311 then some (kZ K + (n - 64)) else if n < 1000 then some (kA K n) else some (kZ K + (n - 753))
def val (K : Kt) : Lv → Value
  | .inl x => .int x
  | .inr (.inl x) => .long x
  | .inr (.inr n) => va_rf (rn K n)
def catL : Lv → Nat
  | .inr (.inl _) => 2
  | _ => 1
theorem val_cat (K : Kt) (v : Lv) : (val K v).category = catL v := by
  rcases v with x | x | n
  · rfl
  · rfl
  · show (va_rf (rn K n)).category = 1
    cases rn K n <;> rfl
theorem rn_ref {K : Kt} {n : Nat} (h : Rl n) : rn K n = some (kZ K + ix n) := by
  unfold Rl at h
  unfold rn ix
  rw [if_neg (by omega), if_neg (by omega), if_neg (by omega)]
  rcases h with h | h
  · rw [if_pos h.2, if_pos (by omega)]
  · rw [if_neg (by omega), if_neg (by omega), if_neg (by omega)]
theorem val_ref {K : Kt} {n : Nat} (h : Rl n) : val K (vr n) = .ref (kZ K + ix n) := by
  show va_rf (rn K n) = _
  rw [rn_ref h]; rfl
def fv (K : Kt) (M : Mem) (n k t : Nat) : Value := if t = 0 then .int (M.1 n k) else if t = 1 then .long (M.2.1 n k) else va_rf (rn K (M.2.2.1 n k))
def flds (K : Kt) (M : Mem) (n c : Nat) : List Value := (kd c).mapIdx (fun k t => fv K M n k t)
def ent (K : Kt) (M : Mem) (n : Nat) : va_E :=
  if shq M n < 20 then .inr (shq M n - 1, flds K M n (shq M n - 1))
  else if shq M n < 23 then .inl (kY K (shq M n - 20), slq M n, .inl (M.1 n))
  else if shq M n = 23 then .inl (kY K 3, slq M n, .inr (.inl (M.2.1 n)))
  else .inl (kY K (shq M n - 20), slq M n, .inr (.inr (.inr (.inr (fun k => rn K (M.2.2.1 n k))))))
def wd (K : Kt) (M : Mem) : va_W := (List.range M.2.2.2).map (fun q => (kZ K + q, ent K M (pa q)))
theorem wd_get {K : Kt} {M : Mem} {n : Nat} (h : Rl n) (h2 : ix n < M.2.2.2) : (wd K M)[ix n]? = some (kZ K + ix n, ent K M n) := by
  unfold wd
  rw [List.getElem?_map, List.getElem?_range h2]
  simp only [Option.map_some]
  rw [pa_ix h]
theorem wd_len (K : Kt) (M : Mem) : (wd K M).length = M.2.2.2 := by simp [wd]
abbrev kF (K : Kt) : Nat → Prop := fun q => kZ K ≤ q
theorem wd_D (K : Kt) (M : Mem) : va_D (kF K) (wd K M) := by
  constructor
  · intro i j p q hi hj h
    unfold wd at hi hj
    rw [List.getElem?_map] at hi hj
    cases h1 : (List.range M.2.2.2)[i]? with
    | none => rw [h1] at hi; cases hi
    | some a =>
      cases h2 : (List.range M.2.2.2)[j]? with
      | none => rw [h2] at hj; cases hj
      | some b =>
        rw [h1] at hi; rw [h2] at hj
        cases hi; cases hj
        have e1 := (List.getElem?_eq_some_iff.mp h1)
        have e2 := (List.getElem?_eq_some_iff.mp h2)
        obtain ⟨_, e1⟩ := e1
        obtain ⟨_, e2⟩ := e2
        rw [List.getElem_range] at e1 e2
        simp only [] at h
        omega
  · intro k q hk
    unfold wd at hk
    rw [List.getElem?_map] at hk
    cases h1 : (List.range M.2.2.2)[k]? with
    | none => rw [h1] at hk; cases hk
    | some a => rw [h1] at hk; cases hk; exact Nat.le_add_right _ _
/-- two memories that differ at one cell alone -/
theorem wd_set {K : Kt} {M M1 : Mem} {n : Nat} {x : va_E} (hn : M1.2.2.2 = M.2.2.2) (h : Rl n) (h2 : ix n < M.2.2.2) (he : ent K M1 n = x) (ho : ∀ q, q ≠ n → ent K M1 q = ent K M q) : (wd K M).set (ix n) (kZ K + ix n, x) = wd K M1 := by
  apply List.ext_getElem?
  intro i
  by_cases hi : i = ix n
  · subst hi
    rw [List.getElem?_set_self (by rw [wd_len]; exact h2), wd_get h (by rw [hn]; exact h2), he]
  · rw [List.getElem?_set_ne (fun z => hi z.symm)]
    by_cases hl : i < M.2.2.2
    · have e1 := wd_get (K := K) (M := M) (n := pa i) (pa_r i) (by rw [ix_pa]; exact hl)
      have e2 := wd_get (K := K) (M := M1) (n := pa i) (pa_r i) (by rw [ix_pa, hn]; exact hl)
      rw [ix_pa] at e1 e2
      rw [e1, e2, ho _ (fun z => hi (by rw [← z, ix_pa]))]
    · rw [List.getElem?_eq_none (by rw [wd_len]; omega), List.getElem?_eq_none (by rw [wd_len]; omega)]
theorem ent_cg {K : Kt} {M M1 : Mem} {q : Nat} (h1 : shq M1 q = shq M q) (h2 : slq M1 q = slq M q) (e1 : M1.1 q = M.1 q) (e2 : M1.2.1 q = M.2.1 q) (e3 : M1.2.2.1 q = M.2.2.1 q) : ent K M1 q = ent K M q := by
  unfold ent flds fv
  rw [h1, h2, e1, e2, e3]
theorem ent_I {K : Kt} {M : Mem} {n k : Nat} {x : Int32} {q : Nat} (h : q ≠ n) : ent K (setI M n k x) q = ent K M q := by
  exact ent_cg rfl rfl (m2_ne h) rfl rfl
theorem ent_L {K : Kt} {M : Mem} {n k : Nat} {x : Int64} {q : Nat} (h : q ≠ n) : ent K (setL M n k x) q = ent K M q := by
  exact ent_cg rfl rfl rfl (m2_ne h) rfl
theorem ent_R {K : Kt} {M : Mem} {n k x : Nat} {q : Nat} (h0 : Rl n) (h : q ≠ n) : ent K (setR M n k x) q = ent K M q := by
  have h9 : 0 ≠ n := by unfold Rl at h0; omega
  have r0 : (setR M n k x).2.2.1 0 = M.2.2.1 0 := m2_ne h9
  refine ent_cg ?_ ?_ rfl rfl (m2_ne h)
  · unfold shq dsc
    rw [r0]
  · unfold slq dln
    rw [r0]
theorem mapIdx_set1 {g g' : Nat → Nat → Value} {l : List Nat} {k : Nat} {v : Value} (hk : ∀ t, l[k]? = some t → g' k t = v) (ho : ∀ j t, j ≠ k → g' j t = g j t) : (l.mapIdx g).set k v = l.mapIdx g' := by
  apply List.ext_getElem?
  intro i
  by_cases hi : i = k
  · subst hi
    by_cases hl : i < l.length
    · rw [List.getElem?_set_self (by simpa using hl), List.getElem?_mapIdx, List.getElem?_eq_getElem hl]
      simp only [Option.map_some]
      rw [hk _ (List.getElem?_eq_getElem hl)]
    · rw [List.getElem?_eq_none (by simp; omega), List.getElem?_eq_none (by simp; omega)]
  · rw [List.getElem?_set_ne (by omega), List.getElem?_mapIdx, List.getElem?_mapIdx]
    cases l[i]? with
    | none => rfl
    | some t => simp only [Option.map_some]; rw [ho _ _ hi]
theorem flds_I {K : Kt} {M : Mem} {n c k : Nat} {x : Int32} (hk : (kd c)[k]? = some 0) : (flds K M n c).set k (.int x) = flds K (setI M n k x) n c := by
  refine mapIdx_set1 (fun t ht => ?_) (fun j t hj => ?_)
  · rw [hk] at ht; cases ht
    show Value.int (if n = n ∧ k = k then x else M.1 n k) = _
    rw [if_pos ⟨rfl, rfl⟩]
  · simp only [fv, setI]
    rw [show m2 M.1 n k x n j = M.1 n j from if_neg (fun z => hj z.2)]
theorem flds_L {K : Kt} {M : Mem} {n c k : Nat} {x : Int64} (hk : (kd c)[k]? = some 1) : (flds K M n c).set k (.long x) = flds K (setL M n k x) n c := by
  refine mapIdx_set1 (fun t ht => ?_) (fun j t hj => ?_)
  · rw [hk] at ht; cases ht
    show Value.long (if n = n ∧ k = k then x else M.2.1 n k) = _
    rw [if_pos ⟨rfl, rfl⟩]
  · simp only [fv, setL]
    rw [show m2 M.2.1 n k x n j = M.2.1 n j from if_neg (fun z => hj z.2)]
theorem flds_R {K : Kt} {M : Mem} {n c k x : Nat} (hk : (kd c)[k]? = some 2) : (flds K M n c).set k (va_rf (rn K x)) = flds K (setR M n k x) n c := by
  refine mapIdx_set1 (fun t ht => ?_) (fun j t hj => ?_)
  · rw [hk] at ht; cases ht
    show va_rf (rn K (if n = n ∧ k = k then x else M.2.2.1 n k)) = _
    rw [if_pos ⟨rfl, rfl⟩]
  · simp only [fv, setR]
    rw [show m2 M.2.2.1 n k x n j = M.2.2.1 n j from if_neg (fun z => hj z.2)]
theorem flds_get {K : Kt} {M : Mem} {n c k t : Nat} (h : (kd c)[k]? = some t) : (flds K M n c)[k]? = some (fv K M n k t) := by
  unfold flds
  rw [List.getElem?_mapIdx, h]; rfl
theorem flds_len {K : Kt} {M : Mem} {n c : Nat} : (flds K M n c).length = (kd c).length := by simp [flds]
theorem shx_ge {n c : Nat} (h : shc n = c + 1) : (64 ≤ n ∧ n < 311) ∧ ix n < 247 := by
  unfold shc at h
  by_cases h1 : n < 64
  · rw [if_pos h1] at h; omega
  · rw [if_neg h1] at h
    rcases Nat.lt_or_ge (n - 64) 247 with h2 | h2
    · refine ⟨by omega, ?_⟩
      unfold ix
      rw [if_pos (by omega)]
      exact h2
    · rw [List.getD_eq_getElem?_getD, List.getElem?_eq_none (by rw [show shT.length = 247 by decide +kernel]; exact h2)] at h
      cases h
theorem shx_ge' {n c : Nat} (h : shc n = c) (hc : 0 < c) : (64 ≤ n ∧ n < 311) ∧ ix n < 247 := shx_ge (c := c - 1) (by omega)
/-! THE TABLES' WORDS that pass from caller to callee -/
def tblG : List Cond := lw_tbl.filter goodWord
theorem tblG_of {w : Cond} (i : Nat) (h : lw_tbl[i]? = some w) (hg : goodWord w = true) : w ∈ tblG := List.mem_filter.mpr ⟨List.mem_of_getElem? h, hg⟩
theorem tblG_good {big : List Cond} (h : ∀ w ∈ tblG, w ∈ big) : GoodIn big tblG := fun w hw => ⟨h w hw, good_of_word (List.mem_filter.mp hw).2⟩
/-! THE WORLD AT A STATE -/
def tysK (K : Kt) : List (ClassId × FieldType) := [(kY K 0, .int), (kY K 1, .boolean), (kY K 2, .byte), (kY K 3, .int), (kY K 4, .object "ReplayBooth$Kind"), (kY K 5, .object "ReplayBooth$Board"), (kY K 6, .object "ReplayBooth$Play"), (kY K 7, .object "ReplayBooth$Day"), (kY K 8, .object "ReplayBooth$Token")]
def Al (K : Kt) (U : State) : Prop := (kS K).WarmedH U.vm ∧ kZ K ≤ U.heap.size ∧ (kS K).heap.size = kZ K ∧ va_K (kD K) vcl (tysK K) (kS K) ∧ (∀ q, q < kZ K → U.heap[q]? = (kS K).heap[q]?) ∧ (∀ i, 0 < i → i < 26 → kA K i < kZ K) ∧ ∀ i j, 0 < i → i < 26 → 0 < j → j < 26 → kA K i = kA K j → i = j
def World (K : Kt) (M : Mem) (U : State) : Prop := CRp K M ∧ Al K U ∧ va_P (kD K) vcl (wd K M) U.heap ∧ U.heap.size = kZ K + M.2.2.2
abbrev Xt : Type := Program × Launch × Env × Room × State × MethodId × Array Value × List Frame × Method × Code
abbrev lvs (K : Kt) (L : List (Nat × Lv)) : List (Nat × Value) := L.map (fun q => (q.1, val K q.2))
abbrev WX (X : Xt) (H : Heap) (locs : List Loc) (ce sl : Nat) (Q : State → Prop) (g : JFrame) : Prop := W X.1 X.2.1 X.2.2.1 X.2.2.2.1 X.2.2.2.2.1 X.2.2.2.2.2.1 X.2.2.2.2.2.2.1 X.2.2.2.2.2.2.2.1 X.2.2.2.2.2.2.2.2.1 X.2.2.2.2.2.2.2.2.2 H locs ce sl Q g
abbrev xS (X : Xt) : State := X.2.2.2.2.1
abbrev xM (X : Xt) : MethodId := X.2.2.2.2.2.1
abbrev xC (X : Xt) : Code := X.2.2.2.2.2.2.2.2.2
def Wt (K : Kt) (X : Xt) (Q : State → Prop) (ce sl : Nat) (M : Mem) (pc : Nat) (L : List (Nat × Lv)) (st : List Lv) : Prop :=
  CRp K M → ∀ (H : Heap) (locs : List Loc) (ls : Array Slot), va_P (kD K) vcl (wd K M) H → va_S (kF K) (xS X).heap H locs → (xS X).heap.size + ce = kZ K + M.2.2.2 → lv_has ls (xC X).maxLocals (lvs K L) →
    WX X H locs ce sl Q (F0 (xM X) pc ls (st.map (val K)))
def Bx (K : Kt) (X : Xt) (rm : Room) (cc : ByteArray) (nL : Nat) (own : String) (ret : Option FieldType) : Prop :=
  X.1.tables.exec = Jvm.exec ∧ (xC X).code = cc ∧ (xC X).maxLocals = nL ∧ (xS X).vm.findClass own = some (xM X).cls ∧ (∀ w ∈ tblG, w.before X.2.2.2.2.2.2.1 (xS X) = true) ∧ Al K (xS X) ∧ X.2.2.2.2.2.2.2.2.1.sig.returnType = ret ∧ X.2.2.2.2.2.2.2.2.1.locks = false ∧ X.2.2.2.1 = rm
theorem Al.K {K : Kt} {U : State} (h : Al K U) : va_K (kD K) vcl (tysK K) U := h.2.2.2.1.moved h.1.alike

/-! A CELL: what stands there -/
/-- cell n has the class or array code c -/
def O3 (K : Kt) (M : Mem) (n c : Nat) : Prop := Rl n ∧ shq M n = c ∧ (CRp K M → ix n < M.2.2.2)
/-- a cell made later: its code (and length) -/
def dyo (M : Mem) (n c : Nat) : Prop := 1000 ≤ n ∧ dsc M n = c ∧ n - 753 < M.2.2.2
theorem soM {K : Kt} {M : Mem} {n c : Nat} (hp : kP K = false) (h : shc n = c) (hc : 0 < c) : O3 K M n c := by
  have h1 := shx_ge' h hc
  refine ⟨Or.inl h1.1, ?_, fun cp => Nat.lt_of_lt_of_le h1.2 (cp hp).1⟩
  unfold shq
  rw [if_pos (by omega), h]
theorem smM {K : Kt} {M : Mem} {n c : Nat} (h : shc n = c) (hc : 0 < c) (hm : n - 64 < M.2.2.2) : O3 K M n c := by
  have h1 := shx_ge' h hc
  refine ⟨Or.inl h1.1, ?_, fun _ => ?_⟩
  · unfold shq
    rw [if_pos (by omega), h]
  · unfold ix
    rw [if_pos (by omega)]; exact hm
theorem dqM {K : Kt} {M : Mem} {n c : Nat} (h : dyo M n c) : O3 K M n c := by
  obtain ⟨h1, h2, h3⟩ := h
  refine ⟨Or.inr h1, ?_, fun _ => ?_⟩
  · unfold shq
    rw [if_neg (by omega), h2]
  · unfold ix
    rw [if_neg (by omega)]; exact h3
theorem sl_s {M : Mem} {n c len : Nat} (h : shc n = c) (hc : 0 < c) (hl : shl n = len) : slq M n = len := by
  have h1 := shx_ge' h hc
  unfold slq
  rw [if_pos (by omega), hl]
theorem sl_d {M : Mem} {n len : Nat} (h : 1000 ≤ n) (hl : dln M n = len) : slq M n = len := by
  unfold slq
  rw [if_neg (by omega), hl]
