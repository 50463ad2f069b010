/-! MORE ROWS: arrays as answers, casts, overridden methods, private ones, the constants' bytes, the ghost's calls -/
/-- what the start gives besides: arrays can be cloned, the string builder finds its private methods -/
def KC (K : Kt) : Prop := va_Nw (.castable "[B" "java/lang/Cloneable") (kS K) ∧ va_Nw (.castable "[I" "java/lang/Cloneable") (kS K) ∧ va_Nw (.selects RJ4 yJ5_ensureCapacityInternal_d00df yJ5_ensureCapacityInternal_d00df) (kS K) ∧ va_Nw (.selects RJ4 yJ5_newCapacity_0f7a4 yJ5_newCapacity_0f7a4) (kS K) ∧ va_Nw (.selects RJ4 yJ5_putStringAt_47b60 yJ5_putStringAt_47b60) (kS K) ∧ va_Nw (.selects RJ4 yJ5_inflateIfNeededFor_a7421 yJ5_inflateIfNeededFor_a7421) (kS K)
theorem fitB {x : Int32} (h : -128 ≤ x ∧ x ≤ 127) : fits .byte (.int x) = true := by
  show (decide (-128 ≤ x) && decide (x ≤ 127)) = true
  rw [decide_eq_true h.1, decide_eq_true h.2]
  rfl
theorem getD_all {α : Type} {P : α → Prop} {l : List α} {d : α} (h : ∀ x ∈ l, P x) (hd : P d) (i : Nat) : P (l.getD i d) := by
  rw [List.getD_eq_getElem?_getD]
  cases e : l[i]? with
  | none => exact hd
  | some x => exact h x (List.mem_of_getElem? e)
theorem lsBy_all : ∀ l ∈ lsBy, ∀ x ∈ l, (-128 : Int32) ≤ x ∧ x ≤ 127 := by decide +kernel
theorem lsBy_b (k i : Nat) : (-128 : Int32) ≤ (lsBy.getD k []).getD i 0 ∧ (lsBy.getD k []).getD i 0 ≤ 127 :=
  getD_all (P := fun x => (-128 : Int32) ≤ x ∧ x ≤ 127) (getD_all (P := fun l => ∀ x ∈ l, (-128 : Int32) ≤ x ∧ x ≤ 127) lsBy_all (fun x h => by cases h) k) (by decide) i
theorem gho_s {g : Mem → Option (Int32 × Mem)} {q : Option (Int32 × Mem)} {r : Int32} {M2 : Mem} (h : gho g q = some (r, M2)) : ∃ M1, q = some (r, M1) ∧ Gho M1 M2 := by
  cases q with
  | none => cases h
  | some p =>
    obtain ⟨r1, M1⟩ := p
    unfold gho at h
    cases e : g M1 with
    | none =>
      simp only [e] at h
      cases h
      exact ⟨_, rfl, rfl, fun _ _ _ => rfl, fun _ _ _ => rfl⟩
    | some p2 =>
      obtain ⟨_, M3⟩ := p2
      simp only [e] at h
      cases h
      exact ⟨_, rfl, gmerge_gho _ _⟩
theorem Gho.eqq {M M' : Mem} (h : Gho M M') : EQ M M' := ⟨by rw [h.1], by rw [h.1]⟩
theorem k_X10_feedG {x1 x2 x3 x4 x5 : Int32} {M N : Mem} {r : Int32} (h : f_X10_feedG x1 x2 x3 x4 x5 M = some (r, N)) : EQ M N := by
  obtain ⟨M1, a, b⟩ := gho_s h
  exact (k_X10_feed a).tr b.eqq
theorem k_X10_textG {x1 : Int32} {M N : Mem} {r : Int32} (h : f_X10_textG x1 M = some (r, N)) : EQ M N := by
  obtain ⟨M1, a, b⟩ := gho_s h
  exact (k_X10_text a).tr b.eqq
theorem qi_SB : Cond.instantiable RJ4 4 ∈ tblG := tblG_of 580 (by decide +kernel) rfl
theorem q_656 : Cond.instanceMethod yJ5_isLatin1_aae02 ∈ tblG := tblG_of 656 (by decide +kernel) rfl
theorem q_658 : Cond.selects RJ4 yJ5_isLatin1_aae02 yJ5_isLatin1_aae02 ∈ tblG := tblG_of 658 (by decide +kernel) rfl
section ROWSX
variable {K : Kt} {X : Xt} {Q : State → Prop} {ce sl : Nat} {M M1 : Mem} {pc : Nat} {L L' : List (Nat × Lv)} {st : List Lv} {rm : Room} {cc : ByteArray} {nL : Nat} {own : String} {ret : Option FieldType}
theorem w_areta {t : FieldType} (hB : Bx K X rm cc nL own (some (.array t))) {n k : Nat} (d : decode cc pc = .ok (.areturn, 1)) (e : n = k) : Wt K X (QM K X (some (vr k)) M ce sl) ce sl M pc L [vr n] := by
  subst e
  intro cp H locs ls a b z dd
  refine w_sz hB a b z (fun z => ?_)
  refine W.aret (v := val K (vr n)) hB.1 hB.2.1 hB.2.2.2.2.2.2.1 (Or.inr ⟨_, rfl⟩) ?_ (ret_q (r := some (vr n)) hB cp a b z) b.2.2 d hB.2.2.2.2.2.2.2.1
  show va_rf (rn K n) = .null ∨ ∃ a, va_rf (rn K n) = .ref a
  cases rn K n with
  | none => exact Or.inl rfl
  | some a => exact Or.inr ⟨a, rfl⟩
theorem w_castA (hB : Bx K X rm cc nL own ret) {c n idx : Nat} {nm : String} (hc : c < 3) (hs : O3 K M n (20 + c)) (hl : Cond.classLink own idx nm ∈ tblG) (hnm : (xS X).vm.findClass nm = some (kY K c)) (d : decode cc pc = .ok (.checkcast idx, 3)) (kk : Wt K X Q ce sl M (pc + 3) L (vr n :: st)) : Wt K X Q ce sl M pc L (vr n :: st) := by
  intro cp H locs ls a b z dd
  have e0 := wd_get (K := K) (M := M) hs.1 (hs.2.2 cp)
  rw [ent_arr (c := c) hs.2.1 hc] at e0
  have k1 := kk cp H locs ls a b z dd
  rw [List.map_cons, val_ref hs.1] at k1 ⊢
  exact va_castA hB.1 hB.2.1 hB.2.2.2.1 (hB.2.2.2.2.1 _ hl) a (ix n) e0 hnm d k1
theorem w_cpS (hB : Bx K X rm cc nL own ret) (hp : St K) {n b lb : Nat} {sp dp m : Int32} {idx : Nat} (hn : 400 ≤ n ∧ n < 426) (hb : O3 K M b 22) (hlb : slq M b = lb) (h1 : ¬ sp < 0) (h2 : ¬ dp < 0) (h3 : ¬ m < 0) (h4 : sp.toNatClampNeg + m.toNatClampNeg ≤ lsL.getD (n - 400) 0) (h5 : dp.toNatClampNeg + m.toNatClampNeg ≤ lb) (hl : Cond.methodLink own idx ⟨"java/lang/System", "arraycopy", "(Ljava/lang/Object;ILjava/lang/Object;II)V"⟩ ∈ tblG) (e : M1 = cpK (fun j => (lsBy.getD (n - 400) []).getD j 0) b sp.toNatClampNeg dp.toNatClampNeg m.toNatClampNeg M) (d : decode cc pc = .ok (.invokestatic idx, 3))
    (hfr : 1 ≤ rm.frames) (hlo : (st.map catL).sum + 18 ≤ rm.locals) (kk : Wt K X Q ce sl M1 (pc + 3) L st) : Wt K X Q ce sl M pc L (vi m :: vi dp :: vr b :: vi sp :: vr (n + 50) :: st) := by
  have h := (hp.2.2.2.2.2.2.1 (n - 400) (by omega)).2.2.2.2
  rw [show 450 + (n - 400) = n + 50 by omega] at h
  exact w_cpk hB (Or.inr ⟨by omega, by omega⟩) h hb hlb h1 h2 h3 h4 h5 (fun i _ => fitB (lsBy_b _ _)) hl e d hfr hlo kk
theorem selW (hB : Bx K X rm cc nL own ret) {C : String} {y : MethodName} (h : va_Nw (.selects C y y) (kS K)) : (Cond.selects C y y).before X.2.2.2.2.2.2.1 (xS X) = true :=
  word_at (args := #[]) hB.2.2.2.2.2.1.1 (Or.inl rfl) h
theorem selP (hB : Bx K X rm cc nL own ret) {y : MethodName} (hy : RJ5 = y.cls) (h1 : Cond.privateMethod y ∈ tblG) (h2 : Cond.instanceMethod y ∈ tblG) : (Cond.selects RJ4 y y).before X.2.2.2.2.2.2.1 (xS X) = true :=
  sel_priv (C := RJ4) (x := yJ5_isLatin1_aae02) (n := 4) ⟨by decide, by decide⟩ hy (hB.2.2.2.2.1 _ qi_SB) (hB.2.2.2.2.1 _ h1) (hB.2.2.2.2.1 _ h2) (hB.2.2.2.2.1 _ q_656) (hB.2.2.2.2.1 _ q_658)
/-- a method that the receiver's class overrides -/
theorem w_callO (hB : Bx K X rm cc nL own ret) {idx n na mc ms ci N n1 m0 : Nat} {C owner : String} {TT : u_T} {x y : MethodName} {c1 b0 : ByteArray} {r1 r0 : Option FieldType} {r2 : Room} {r : Option Lv} {As : List Lv} (hg : ∀ w ∈ ([.methodLink own idx x, .sameMethod x.cls owner x.name x.desc, .instanceMethod ⟨owner, x.name, x.desc⟩, .selects C x y, .instanceMethod y, .initialized y.cls] : List Cond), w ∈ tblG) (w3 : Cond.code y c1 n1 r1 ∈ tblG) (w0 : Cond.code ⟨owner, x.name, x.desc⟩ b0 m0 r0 ∈ tblG) (hd : owner ≠ "java/lang/invoke/MethodHandle" ∧ owner ≠ "java/lang/invoke/VarHandle" ∧ (parseMethodDescriptor x.desc).map (fun d => d.parameters.length) = some na) (hcl : vcl[ci]? = some (C, TT, N)) (hs : O3 K M n (ci + 1))
    (hM : MT K X.2.1 y c1 n1 r1 r2 (vr n :: As) M r M1 mc ms) (hc : r2.cells = mc ∧ r2.slots = ms) (hR : r2.frames + 1 ≤ rm.frames ∧ 8 + (n1 + 11) + r2.locals ≤ rm.locals) (hf : ce + mc ≤ rm.cells ∧ sl + ms ≤ rm.slots) (hn : As.length = na) (hst : (st.map catL).sum ≤ 8) (d : decode cc pc = .ok (.invokevirtual idx, 3))
    {sk : List Lv} (hsk : sk = As.reverse ++ vr n :: st) (kk : Wt K X Q (ce + mc) (sl + ms) M1 (pc + 3) L (r.toList ++ st)) (hx : mc = 0 ∨ mc + M.2.2.2 = M1.2.2.2) : Wt K X Q ce sl M pc L sk := by
  subst hsk
  intro cp H locs ls a b z dd
  refine w_sz hB a b z (fun zs => ?_)
  have hci : ci < 19 := by
    have := (List.getElem?_eq_some_iff.mp hcl).1
    have e : vcl.length = 11 := rfl
    omega
  have hts := hB.2.2.2.2.1
  obtain ⟨r9, h1, cell, q1, q2, q3, q4⟩ := a (ix n) _ (wd_obj hs hci cp)
  obtain ⟨-, hfc, -⟩ := (hB.2.2.2.2.2.1).K.1 ci _ hcl
  have hRR : X.2.2.2.1 = rm := hB.2.2.2.2.2.2.2.2
  refine w_back (r := r) (M1 := M1) (mc := mc) (ms := ms) (av := (Value.ref (kZ K + (ix n)) :: As.map (val K)).toArray) hB z zs hx b dd ?_ kk
  have hMM := hM
  unfold MT at hMM
  rw [List.map_cons, val_ref hs.1] at hMM
  refine va_runU (As := As.map (val K)) (b := kZ K + (ix n)) (C := C) (owner := owner) (index := idx) (bytes := c1) (maxL := n1) (ret := r1) (n := na) (Ts := tblG) ⟨hB.1, hB.2.1, hB.2.2.1, hB.2.2.2.1, hts⟩ hMM (va_cwO na hts (fun w hw => by
    unfold va_wsO at hw
    rcases List.mem_append.mp hw with h | h
    · exact good_code w3 w (List.mem_cons_of_mem _ (hg w h))
    · exact good_code w3 w h) rfl hc.1 hc.2 w0 hd (by rw [hRR]; exact hR))
    ⟨world_blind, ⟨cell, q1, by rw [q3]; rfl, by rw [q2]; exact hfc⟩, world_pre hB cp a b zs⟩ rfl (by rw [List.length_map]; exact hn) (by rw [dd.1]; exact hB.2.2.1) ?_ (lv_room ?_) d (by rw [hRR]; exact hf)
  · show (As.reverse ++ vr n :: st).map (val K) = _
    rw [List.map_append, List.map_reverse, List.map_cons, val_ref hs.1]
  · rw [List.map_map]
    rw [show (fun v : Value => v.category) ∘ val K = catL from funext (fun v => val_cat K v)]
    exact hst
end ROWSX
theorem mem5 {T : List Cond} {a b c d e : Cond} (h1 : a ∈ T) (h2 : b ∈ T) (h3 : c ∈ T) (h4 : d ∈ T) (h5 : e ∈ T) : ∀ w ∈ ([a, b, c, d, e] : List Cond), w ∈ T := by
  intro w hw
  simp only [List.mem_cons, List.not_mem_nil, or_false] at hw
  rcases hw with rfl | rfl | rfl | rfl | rfl <;> assumption
theorem mem6 {T : List Cond} {a b c d e f : Cond} (h1 : a ∈ T) (h2 : b ∈ T) (h3 : c ∈ T) (h4 : d ∈ T) (h5 : e ∈ T) (h6 : f ∈ T) : ∀ w ∈ ([a, b, c, d, e, f] : List Cond), w ∈ T := by
  intro w hw
  simp only [List.mem_cons, List.not_mem_nil, or_false] at hw
  rcases hw with rfl | rfl | rfl | rfl | rfl | rfl <;> assumption
