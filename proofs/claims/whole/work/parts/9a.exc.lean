/-! METHODS THAT THROW: contracts of frame, log, row where they throw; their catching -/
abbrev thrL : List Cond := nseW
/-- those of its words that are told at the start, and go on by laws of their own -/
def thrB : List Cond := [.castable "java/util/NoSuchElementException" "java/util/NoSuchElementException", .declares ⟨"java/lang/RuntimeException", "<init>", "(Ljava/lang/String;)V"⟩, .declares ⟨"java/lang/Exception", "<init>", "(Ljava/lang/String;)V"⟩, .declares ⟨"java/lang/Throwable", "<init>", "(Ljava/lang/String;)V"⟩]
set_option maxRecDepth 100000 in
theorem thr_in : ∀ w ∈ thrL.filter goodWord, w ∈ lw_tbl := by decide +kernel
set_option maxRecDepth 100000 in
theorem thr_ng : ∀ w ∈ thrL.filter (fun w => !goodWord w), w ∈ thrB := by decide +kernel
theorem thr_G {w : Cond} (h : w ∈ thrL.filter goodWord) : w ∈ tblG := List.mem_filter.mpr ⟨thr_in w h, (List.mem_filter.mp h).2⟩
theorem q_thrL : Cond.classLink RX10 203 "java/util/NoSuchElementException" ∈ tblG := tblG_of 1069 (by decide +kernel) rfl
theorem q_thrI : Cond.initialized "java/util/NoSuchElementException" ∈ tblG := tblG_of 98 (by decide +kernel) rfl
theorem q_thrC : Cond.classLink RL 13 "java/util/NoSuchElementException" ∈ tblG := tblG_of 1064 (by decide +kernel) rfl
set_option maxRecDepth 100000 in
theorem thr_ot : ∀ w ∈ Cond.classLink RX10 203 "java/util/NoSuchElementException" :: Cond.initialized "java/util/NoSuchElementException" :: thrL, vx_ot w = true := by decide +kernel
/-- what the start gives for the throws -/
def KThr (K : Kt) : Prop := (∃ a, vk_R RX10 205 "no such frame" a (kS K)) ∧ (∃ a, vk_R RX10 385 "no such row of the log" a (kS K)) ∧ (∃ a, vk_R RX10 396 "no such number of the row" a (kS K)) ∧ vx_Zq Bundle.tN "UNASSIGNED_STACK" Bundle.steD (kF K) (kS K) (kS K).heap ∧ vx_Zq Bundle.tN "SUPPRESSED_SENTINEL" Bundle.listD (kF K) (kS K) (kS K).heap ∧ (∀ w ∈ thrB, va_Nw w (kS K))
theorem thr_B {K : Kt} {U : State} (hA : Al K U) (h : ∀ w ∈ thrB, va_Nw w (kS K)) {a : Array Value} : ∀ w ∈ thrB, w.before a U = true := by
  have h1 := va_Nw.use (A := a) rfl (va_Nw.warmC hA.1 (h _ (List.mem_cons_self)))
  have h2 := va_Nw.use (A := a) rfl (va_Nw.warmD hA.1 (h _ (List.mem_cons_of_mem _ List.mem_cons_self)))
  have h3 := va_Nw.use (A := a) rfl (va_Nw.warmD hA.1 (h _ (List.mem_cons_of_mem _ (List.mem_cons_of_mem _ List.mem_cons_self))))
  have h4 := va_Nw.use (A := a) rfl (va_Nw.warmD hA.1 (h _ (List.mem_cons_of_mem _ (List.mem_cons_of_mem _ (List.mem_cons_of_mem _ List.mem_cons_self)))))
  exact vx_c h1 (vx_c h2 (vx_c h3 (vx_c h4 vx_n)))
theorem thr_all {K : Kt} {U : State} (hA : Al K U) (h : ∀ w ∈ thrB, va_Nw w (kS K)) {a : Array Value} (hts : ∀ w ∈ tblG, w.before a U = true) : ∀ w ∈ thrL, w.before a U = true := vx_hat (fun w hw => hts w (thr_G hw)) thr_ng (thr_B hA h)
def XT (K : Kt) (M : Mem) : String → State → State → Prop := vx_X (S := Unit) (fun _ => True) (fun E _ t => E = "java/util/NoSuchElementException" ∧ CRp K M ∧ va_P (kD K) vwCl (wd K M) t.heap) (kF K)
def QN (K : Kt) : Array Value → State → Outcome → State → Prop := va_Qi (S := Unit) (fun _ _ => False) (fun _ _ => True) (kF K)
def MX (K : Kt) (l : Launch) (y : MethodName) (c1 : ByteArray) (n1 : Nat) (r1 : Option FieldType) (rm : Room) (As : List Lv) (M M1 : Mem) (mc ms : Nat) : Prop :=
  vx_Met l y (.code y c1 n1 r1 :: tblG) rm (va_Pc (As.map (val K)) (World K M)) (QN K) (XT K M1) mc ms (kF K)
def QX (K : Kt) (X : Xt) (M1 : Mem) (mc ms : Nat) : State → Prop := vx_MQ X.2.2.2.2.2.2.2.1 (QN K) (XT K M1) X.2.2.2.2.2.2.1 (xS X) mc ms (kF K)
set_option maxHeartbeats 1000000 in
theorem MX_of {K : Kt} {l : Launch} {y : MethodName} {c1 : ByteArray} {n1 : Nat} {r1 : Option FieldType} {fr lo mc ms : Nat} {As : List Lv} {M M1 : Mem} (hy : plainName y.cls = true) (hc : y.cls = y.cls) (hn : (As.map catL).sum ≤ n1)
    (body : ∀ X : Xt, X.2.1 = l → Bx K X { frames := fr, cells := mc, slots := ms, locals := lo } c1 n1 y.cls r1 → (∀ x ∈ (xC X).exceptionTable.toList, False) → Wt K X (QX K X M1 mc ms) 0 0 M 0 (argL 0 As) []) : MX K l y c1 n1 r1 { frames := fr, cells := mc, slots := ms, locals := lo } As M M1 mc ms := by
  refine vx_ofW (cc := c1) (maxL := n1) (ret := r1) hy rfl ?_
  intro p e s m args below meth c s₁ B hml hex hv
  obtain ⟨rfl, hcr, hal, hP, hsz⟩ := hv
  have hts := atoms_spec (ws := .code y c1 n1 r1 :: tblG) B.pre
  have hown : s.vm.findClass y.cls = some m.cls := findClass_of_methodNamed B.named
  have hB : Bx K (p, l, e, { frames := fr, cells := mc, slots := ms, locals := lo }, s, m, (As.map (val K)).toArray, below, meth, c) { frames := fr, cells := mc, slots := ms, locals := lo } c1 n1 y.cls r1 :=
    ⟨B.exec, B.bytes, hml, hown, fun w hw => hts w (List.mem_cons_of_mem _ hw), hal, B.returns, B.notSynchronized, rfl⟩
  have h := body _ rfl hB hex hcr s.heap [] _ hP va_S.rf hsz (by
    rw [← lv_args_val]
    show lv_has _ c.maxLocals _
    rw [hml]
    exact lv_entry (As.map (val K)) (n := n1) (by rw [lg_sl_len]; exact hn))
  rw [lg_entry_eq]
  exact h
section THR
variable {K : Kt} {X : Xt} {Q : State → Prop} {ce sl : Nat} {M M1 : Mem} {pc : Nat} {L L' : List (Nat × Lv)} {st : List Lv} {rm : Room} {cc : ByteArray} {nL : Nat} {own : String} {ret : Option FieldType}
theorem thr_end {H : Heap} {locs : List Loc} (cp : CRp K M) (a : va_P (kD K) vwCl (wd K M) H) (b : va_S (kF K) (xS X).heap H locs) :
    ∀ t : State, (xS X).vm.Alike t.vm → H.size ≤ t.heap.size → (∀ q : Nat, q < H.size → t.heap[q]? = H[q]?) → XT K M "java/util/NoSuchElementException" (xS X) t := by
  intro t _ hsz hk
  exact ⟨(), trivial, ⟨rfl, cp, a.kept (fun k q hq => hk q.1 ((a k q hq).lt))⟩, ⟨Nat.le_trans b.1 hsz, fun q h1 h2 => (hk q (Nat.lt_of_lt_of_le h1 b.1)).trans (b.2.1 q h1 h2)⟩⟩
theorem thr_old {C n d : String} {U : State} (hA : Al K U) (h : vx_Zq C n d (kF K) (kS K) (kS K).heap) : vx_Zq C n d (kF K) U U.heap := (vx_Zq.moved hA.1.alike h).kept (fun a ha _ => hA.2.2.2.2.1 a (by rw [← hA.2.2.1]; exact ha))
theorem w_throwE (hB : Bx K X rm cc nL RX10 ret) (ht : KThr K) (hst : X.2.1.stackTraces = false) (hex : ∀ x ∈ (xC X).exceptionTable.toList, False) {is : Nat} {tx : String} (hs : ∃ a, vk_R RX10 is tx a (kS K)) (hR : 5 < rm.frames ∧ 82 ≤ rm.locals ∧ ce + 1 ≤ rm.cells ∧ sl + 6 ≤ rm.slots)
    (d0 : decode cc pc = .ok (.new 203, 3)) (d3 : decode cc (pc + 3) = .ok (.dup, 1)) (d4 : decode cc (pc + 4) = .ok (.ldc is, 2)) (d6 : decode cc (pc + 6) = .ok (.invokespecial 207, 3)) (d9 : decode cc (pc + 9) = .ok (.athrow, 1)) : Wt K X (QX K X M (ce + 1) (sl + 6)) ce sl M pc L [] := by
  intro cp H locs ls a b z dd
  obtain ⟨sa, hstr⟩ := hs
  have hts := hB.2.2.2.2.1
  have hA := hB.2.2.2.2.2.1
  have hRR : X.2.2.2.1 = rm := hB.2.2.2.2.2.2.2.2
  exact vy_throwS (is := is) (text := tx) (sa := sa) (A := kF K) hB.1 hB.2.1 hst hB.2.2.2.1 (hts _ q_thrL) (hts _ q_thrI) (vk_R.warm hA.1 hstr) (thr_all hA ht.2.2.2.2.2 hts) thr_ot (thr_old hA ht.2.2.2.1) (thr_old hA ht.2.2.2.2.1) b dd.1 d0 d3 d4 d6 d9 (fun x hx => (hex x hx).elim)
    (by rw [hRR]; exact hR.1) (by rw [hRR]; exact hR.2.1) (by rw [hRR]; exact hR.2.2.1) (by rw [hRR]; exact hR.2.2.2) hB.2.2.2.2.2.2.2.1 (thr_end cp a b) b.2.2 (Nat.le_refl _) (Nat.le_refl _)
theorem w_throwW (hB : Bx K X rm cc nL RX10 ret) (ht : KThr K) (hst : X.2.1.stackTraces = false) (hex : ∀ x ∈ (xC X).exceptionTable.toList, False) {is : Nat} {tx : String} (hs : ∃ a, vk_R RX10 is tx a (kS K)) (hR : 5 < rm.frames ∧ 82 ≤ rm.locals ∧ ce + 1 ≤ rm.cells ∧ sl + 6 ≤ rm.slots)
    (d0 : decode cc pc = .ok (.new 203, 3)) (d3 : decode cc (pc + 3) = .ok (.dup, 1)) (d4 : decode cc (pc + 4) = .ok (.ldc_w is, 3)) (d7 : decode cc (pc + 7) = .ok (.invokespecial 207, 3)) (d10 : decode cc (pc + 10) = .ok (.athrow, 1)) : Wt K X (QX K X M (ce + 1) (sl + 6)) ce sl M pc L [] := by
  intro cp H locs ls a b z dd
  obtain ⟨sa, hstr⟩ := hs
  have hts := hB.2.2.2.2.1
  have hA := hB.2.2.2.2.2.1
  have hRR : X.2.2.2.1 = rm := hB.2.2.2.2.2.2.2.2
  exact vy_throwSW (is := is) (text := tx) (sa := sa) (A := kF K) hB.1 hB.2.1 hst hB.2.2.2.1 (hts _ q_thrL) (hts _ q_thrI) (vk_R.warm hA.1 hstr) (thr_all hA ht.2.2.2.2.2 hts) thr_ot (thr_old hA ht.2.2.2.1) (thr_old hA ht.2.2.2.2.1) b dd.1 d0 d3 d4 d7 d10 (fun x hx => (hex x hx).elim)
    (by rw [hRR]; exact hR.1) (by rw [hRR]; exact hR.2.1) (by rw [hRR]; exact hR.2.2.1) (by rw [hRR]; exact hR.2.2.2) hB.2.2.2.2.2.2.2.1 (thr_end cp a b) b.2.2 (Nat.le_refl _) (Nat.le_refl _)
end THR
/-! methods with a table of their own -/
def MTW (K : Kt) (l : Launch) (y : MethodName) (c1 : ByteArray) (n1 : Nat) (r1 : Option FieldType) (hh : List (Nat × Nat × Nat × Nat)) (rm : Room) (As : List Lv) (M : Mem) (r : Option Lv) (M1 : Mem) (mc ms : Nat) : Prop :=
  Met l y (.codeWith y c1 n1 r1 hh :: tblG) rm (va_Pc (As.map (val K)) (World K M)) (QW K r M1) mc ms (kF K)
set_option maxHeartbeats 1000000 in
theorem MTW_of {K : Kt} {l : Launch} {y : MethodName} {c1 : ByteArray} {n1 : Nat} {r1 : Option FieldType} {hh : List (Nat × Nat × Nat × Nat)} {fr lo mc ms : Nat} {As : List Lv} {M M1 : Mem} {r : Option Lv} (hy : plainName y.cls = true) (hn : (As.map catL).sum ≤ n1)
    (body : ∀ X : Xt, X.2.1 = l → Bx K X { frames := fr, cells := mc, slots := ms, locals := lo } c1 n1 y.cls r1 → (xC X).exceptionTable.toList = tableOf hh → Wt K X (QM K X r M1 mc ms) 0 0 M 0 (argL 0 As) []) : MTW K l y c1 n1 r1 hh { frames := fr, cells := mc, slots := ms, locals := lo } As M r M1 mc ms := by
  unfold MTW Met
  refine MetFree.of_bodyS (code := c1) (maxLocals := n1) (ret := r1) hy ?_ ?_
  · intro args s m h hn
    obtain ⟨m9, meth, c, hn9, h1, h2, h3, h4, -, h5, h6, -⟩ := Cond.codeWith_spec (atoms_spec (ws := .codeWith y c1 n1 r1 hh :: tblG) h _ List.mem_cons_self)
    cases hn.symm.trans hn9
    exact ⟨meth, c, h1, h2, h3, h4, h5, h6⟩
  · intro p e s m args below meth c s₁ B hml hP _
    have hh0 : s₁.heap = s.heap := by rw [B.state]; rfl
    have hts := atoms_spec (ws := .codeWith y c1 n1 r1 hh :: tblG) B.pre
    have htab := vx_table (x := y) B (hts _ List.mem_cons_self)
    obtain ⟨rfl, hcr, hal, hW, hsz⟩ := hP
    have hown : s.vm.findClass y.cls = some m.cls := findClass_of_methodNamed B.named
    have hB : Bx K (p, l, e, { frames := fr, cells := mc, slots := ms, locals := lo }, s, m, (As.map (val K)).toArray, below, meth, c) { frames := fr, cells := mc, slots := ms, locals := lo } c1 n1 y.cls r1 :=
      ⟨B.exec, B.bytes, hml, hown, fun w hw => hts w (List.mem_cons_of_mem _ hw), hal, B.returns, B.notSynchronized, rfl⟩
    have h := body _ rfl hB htab hcr s.heap [] _ hW va_S.rf hsz (by
      rw [← lv_args_val]
      show lv_has _ c.maxLocals _
      rw [hml]
      exact lv_entry (As.map (val K)) (n := n1) (by rw [lg_sl_len]; exact hn))
    have h9 : W p l e { frames := fr, cells := mc, slots := ms, locals := lo } s m (As.map (val K)).toArray below meth c s.heap [] 0 0 (QM K (p, l, e, { frames := fr, cells := mc, slots := ms, locals := lo }, s, m, (As.map (val K)).toArray, below, meth, c) r M1 mc ms) (entryFrame m (As.map (val K)).toArray n1) := by
      rw [lg_entry_eq]
      exact h
    obtain ⟨t, a1, o, b1, b2, b3⟩ := h9 s₁ hh0 (Stand.of_body B)
    exact ⟨t, o, a1, b1, b2, ⟨b3.1, b3.2⟩⟩
section CATCH
variable {K : Kt} {X : Xt} {Q : State → Prop} {ce sl : Nat} {M M1 : Mem} {pc : Nat} {L L' : List (Nat × Lv)} {st : List Lv} {rm : Room} {cc : ByteArray} {nL : Nat} {own : String} {ret : Option FieldType}
/-- a call that throws, caught by the only row of the table -/
theorem w_callX (hB : Bx K X rm cc nL RL ret) {idx na ci N n1 n mc ms : Nat} {C : String} {TT : u_T} {y : MethodName} {c1 : ByteArray} {r1 : Option FieldType} {r2 : Room} {As : List Lv} (hw : CWs RL idx C y c1 n1 r1 na) (hin : Cond.instanceMethod y ∈ tblG) (hse : Cond.selects y.cls y y ∈ tblG) (hcl : vwCl[ci]? = some (C, TT, N)) (hs : shc n = ci + 1) (hh : Has K M n)
    (hM : MX K X.2.1 y c1 n1 r1 r2 (vr n :: As) M M1 mc ms) (hc : r2.cells = mc ∧ r2.slots = ms) (hR : r2.frames + 1 ≤ rm.frames ∧ 8 + (n1 + 11) + r2.locals ≤ rm.locals) (hf : ce + mc ≤ rm.cells ∧ sl + ms ≤ rm.slots) (hn : As.length = na) (hst : (st.map catL).sum ≤ 8) (d : decode cc pc = .ok (.invokevirtual idx, 3))
    {x : ExceptionTableEntry} (htab : (xC X).exceptionTable.toList = [x]) (hx : covers x pc = true) (hx13 : x.catchType = 13) (hkp : kP K = false) (ht : KThr K)
    {sk : List Lv} (hsk : sk = As.reverse ++ vr n :: st) (kk : CRp K M1 → ∀ (H : Heap) (locs : List Loc) (ls : Array Slot) (q : Nat), va_P (kD K) vwCl (wd K M1) H → va_S (kF K) (xS X).heap H locs → lv_has ls nL (lvs K L) → WX X H locs (ce + mc) (sl + ms) Q (F0 (xM X) x.handlerPc ls [.ref q])) : Wt K X Q ce sl M pc L sk := by
  subst hsk
  intro cp H locs ls a b z dd
  have hci : ci < 19 := by
    have := (List.getElem?_eq_some_iff.mp hcl).1
    have e : vwCl.length = 10 := rfl
    omega
  have hts := hB.2.2.2.2.1
  obtain ⟨w1, w2, w3, w4, w5, w6⟩ := hw
  obtain ⟨r9, h1, cell, q1, q2, q3, q4⟩ := a (n - 64) _ (wd_obj hs hci (hh.lt hs cp))
  obtain ⟨-, hfc, -⟩ := (hB.2.2.2.2.2.1).K.1 ci _ hcl
  have hRR : X.2.2.2.1 = rm := hB.2.2.2.2.2.2.2.2
  have hMM := hM
  unfold MX at hMM
  rw [List.map_cons, val_ref (shc_ge hs).1] at hMM
  have hr := vx_runV (e := X.2.2.1) (R := X.2.2.2.1) (below := X.2.2.2.2.2.2.2.1) (meth := X.2.2.2.2.2.2.2.2.1) (H := H) (locs := locs) (cells := ce) (slots := sl) (g := F0 (xM X) pc ls ((As.reverse ++ vr n :: st).map (val K))) (rest := st.map (val K)) (As := As.map (val K)) (b := kZ K + (n - 64)) (C := C) (index := idx) (bytes := c1) (maxL := n1) (ret := r1) (n := na) (Ts := tblG) ⟨hB.1, hB.2.1, hB.2.2.1, hB.2.2.2.1, hts⟩ hMM ⟨callB_of na hts (good_code w3) rfl hc.1 hc.2 (hts _ w2) (hts _ w1) ⟨w5.1, w5.2, w6⟩ (by rw [hRR]; exact hR), hts _ hin, by rw [← w4]; exact hts _ hse⟩
    ⟨world_blind, ⟨cell, q1, by rw [q3]; rfl, by rw [q2]; exact hfc⟩, world_pre hB cp a b z⟩ rfl (by rw [List.length_map]; exact hn) (by show ls.size = nL; rw [dd.1]; exact hB.2.2.1) (by
      show (As.reverse ++ vr n :: st).map (val K) = _
      rw [List.map_append, List.map_reverse, List.map_cons, val_ref (shc_ge hs).1]) (lv_room (by
      rw [List.map_map]
      rw [show (fun v : Value => v.category) ∘ val K = catL from funext (fun v => val_cat K v)]
      exact hst)) d (by rw [hRR]; exact hf)
  refine vx_calli (S := Unit) (SX := Unit) (post := fun _ _ => False) (px := fun _ => True) (B := fun _ _ => True) (BX := fun E _ t => E = "java/util/NoSuchElementException" ∧ CRp K M1 ∧ va_P (kD K) vwCl (wd K M1) t.heap) (A0 := kF K) (A1 := kF K) (AX := kF K) hr b (fun _ _ h => h) (fun _ h => h) (fun _ _ h => h) ?_ ?_
  · intro E ce9 q9 u t H1 locs1 hth _ _ hbx _ _ hS1 hc9 hv9 hcl9
    obtain ⟨rfl, cp1, hP1⟩ := hbx
    rw [hth] at hP1
    refine vx_catch (own := RL) (name := "java/util/NoSuchElementException") hB.2.2.2.1 [] x [] htab (fun z hz => by cases hz) hx (by rw [hx13]; decide) (by rw [hx13]; exact hts _ q_thrC) (va_Nw.use rfl (va_Nw.warmC hB.2.2.2.2.2.1.1 (ht.2.2.2.2.2 _ List.mem_cons_self))) hc9 hv9 hcl9 ?_
    exact kk cp1 H1 locs1 ls q9 hP1 hS1 (by rw [← hB.2.2.1]; exact dd)
  · intro r u t H1 locs1 _ _ hpost
    exact hpost.elim
end CATCH
