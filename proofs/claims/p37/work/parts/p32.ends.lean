/-! LESS ROOM; FROM THE MAKING TO THE STEADY WORLD; WHAT THE START GIVES BESIDES -/
theorem hasRoom_le {s : State} {pl : Platform} {R R1 : Room} (h : s.hasRoom pl R = true) (h1 : R1.frames ≤ R.frames) (h2 : R1.cells ≤ R.cells) (h3 : R1.slots ≤ R.slots) (h4 : R1.locals ≤ R.locals) : s.hasRoom pl R1 = true := by
  simp only [State.hasRoom, Bool.and_eq_true, decide_eq_true_eq] at h ⊢
  obtain ⟨⟨⟨⟨a, b1, b2, b3, b4, b5⟩, c⟩, d⟩, e⟩ := h
  exact ⟨⟨⟨⟨by omega, by omega, by omega, by omega, by omega, b5⟩, by omega⟩, by omega⟩, e⟩
section REROOM
variable {p : Program} {l : Launch} {e : Env} {R R1 : Room} {s : State} {m : MethodId} {args : Array Value} {below : List Frame} {meth : Method} {c : Code} {H : Heap} {locs : List Loc} {cells slots : Nat} {Q Q2 : State → Prop} {g : JFrame}
theorem w_reroom (h1 : R1.frames ≤ R.frames) (h2 : R1.cells ≤ R.cells) (h3 : R1.slots ≤ R.slots) (h4 : R1.locals ≤ R.locals) (k : W p l e R1 s m args below meth c H locs cells slots Q g) : W p l e R s m args below meth c H locs cells slots Q g :=
  fun T hT X => k T hT { X with room := hasRoom_le X.room h1 h2 h3 h4 }
theorem w_post (h : ∀ t, Q t → Q2 t) (k : W p l e R s m args below meth c H locs cells slots Q g) : W p l e R s m args below meth c H locs cells slots Q2 g := fun T hT X => by
  obtain ⟨t, a, b⟩ := k T hT X
  exact ⟨t, a, h t b⟩
end REROOM
theorem lw_of_MQ {K : Kt} {M1 : Mem} {below : List Frame} {b : Nat} {s t : State} {mc ms : Nat} (hz : s.heap.size = kZ K) (h1 : mc ≤ 749912) (h2 : ms ≤ 6851962) (h : MQ below (QW K (some (vi 1)) M1) #[Value.ref b] s mc ms (kF K) t) : lw_Z below #[Value.ref b] s t := by
  obtain ⟨o, hr, he, ⟨ho, -, -⟩, L, ⟨hv, hW, hs⟩, hL⟩ := h
  refine ⟨o, hr, he, ho, hv, hW, hs.weaken (fun y hy hlt => ?_) h1 h2⟩
  have h9 : kZ K ≤ y.base := hL y hy
  exact absurd hlt (Nat.not_lt.mpr (by rw [hz]; exact h9))
abbrev kst (K : Kt) : Kt := (kS K, kZ K, kD K, kY K, kA K, false)
theorem mmS_lo {q : Nat} (h : q ≠ 314) : mmS.1 q = mm540.1 q := if_neg h
theorem mmS_hi {q : Nat} (h : ¬ q < 64) : mmS.2.2.1 q = mm540.2.2.1 q := funext (fun k => if_neg h)
theorem mid_S (M0 : Mem) (g : Nat → Nat → Int32) (f : Nat → Nat → Nat) (c : Nat) : ((g, M0.2.1, f, c) : Mem).2.1 = M0.2.1 := rfl
theorem mmS_mid : mmS.2.1 = mm540.2.1 := by
  unfold mmS
  exact mid_S mm540 _ _ _
theorem ent_fv (K : Kt) {M M0 : Mem} {n : Nat} (h1 : M.1 n = M0.1 n) (h2 : M.2.1 n = M0.2.1 n) (h3 : M.2.2.1 n = M0.2.2.1 n) (k t : Nat) : fv (kst K) M n k t = fv K M0 n k t := by
  unfold fv
  rw [h1, h2, h3]
  rfl
theorem ent_kst (K : Kt) {M M0 : Mem} {n : Nat} (hn : n < 1000) (h1 : M.1 n = M0.1 n) (h2 : M.2.1 n = M0.2.1 n) (h3 : M.2.2.1 n = M0.2.2.1 n) : ent (kst K) M n = ent K M0 n := by
  have e1 : shq M n = shq M0 n := (if_pos hn).trans (if_pos hn).symm
  have e2 : slq M n = slq M0 n := (if_pos hn).trans (if_pos hn).symm
  have e3 : ∀ c, flds (kst K) M n c = flds K M0 n c := fun c => by
    unfold flds
    congr 1
    funext k t
    exact ent_fv K h1 h2 h3 k t
  unfold ent
  rw [e1, e2, e3, h1, h2, h3]
  rfl
theorem wd_S (K : Kt) : wd (kst K) mmS = wd K mm540 := by
  unfold wd
  rw [show mmS.2.2.2 = 247 from rfl, mc540]
  refine List.map_congr_left (fun q hq => ?_)
  have h : q < 247 := List.mem_range.mp hq
  have e : pa q = q + 64 := if_pos h
  rw [e]
  exact congrArg (Prod.mk (kZ K + q)) (ent_kst K (by omega) (mmS_lo (by omega)) (congrFun mmS_mid _) (mmS_hi (by omega)))
theorem val_S (K : Kt) : val (kst K) = val K := funext (fun v => by rcases v with x | x | n <;> rfl)
theorem Wt.steady {K : Kt} {X : Xt} {Q : State → Prop} {ce sl pc : Nat} {L : List (Nat × Lv)} {st : List Lv} (k : Wt (kst K) X Q ce sl mmS pc L st) : Wt K X Q ce sl mm540 pc L st := by
  intro _ H locs ls a b z dd
  have h := k (fun _ => ⟨Nat.le_refl _, mmS_cr⟩) H locs ls (by rw [wd_S]; exact a) b (by rw [show mmS.2.2.2 = 247 from rfl]; rw [mc540] at z; exact z) (by
    show lv_has ls _ (L.map (fun q => (q.1, val (kst K) q.2)))
    rw [val_S]
    exact dd)
  rw [val_S] at h
  exact h
theorem Wt.swap {K : Kt} {X : Xt} {Q : State → Prop} {ce sl pc : Nat} {M : Mem} {L L' : List (Nat × Lv)} {st : List Lv} (hl : ∀ q ∈ L', q ∈ L) (k : Wt K X Q ce sl M pc L' st) : Wt K X Q ce sl M pc L st := by
  intro cp H locs ls a b z dd
  refine k cp H locs ls a b z ⟨dd.1, dd.2.1, fun q hq => ?_⟩
  obtain ⟨q', h', rfl⟩ := List.mem_map.mp hq
  exact dd.2.2 _ (List.mem_map_of_mem (hl q' h'))
theorem tb_at {w : Cond} (i : Nat) (h : lw_tbl[i]? = some w) : w ∈ lw_tbl := List.mem_of_getElem? h
set_option maxRecDepth 100000 in
theorem tb_nest : Cond.methodLinkNest RX9 20 yX2_init RX10 ∈ lw_tbl ∧ Cond.methodLinkNest RX9 49 yX5_init RX10 ∈ lw_tbl ∧ Cond.methodLinkNest RX9 50 yX1_init RX10 ∈ lw_tbl ∧ Cond.methodLinkNest RX9 51 yX6_init RX10 ∈ lw_tbl ∧ Cond.methodLinkNest RX10 34 yX4_init RX10 ∈ lw_tbl ∧ Cond.methodLinkNest RX4 11 yX2_init RX10 ∈ lw_tbl ∧ Cond.methodLinkNest RX10 41 yX3_init RX10 ∈ lw_tbl := by decide +kernel
set_option maxRecDepth 100000 in
theorem tb_cast : Cond.castable "[B" "java/lang/Cloneable" ∈ lw_tbl ∧ Cond.castable "[I" "java/lang/Cloneable" ∈ lw_tbl := by decide +kernel
theorem tb_pr1 : Cond.privateMethod yJ5_ensureCapacityInternal_d00df ∈ lw_tbl := tb_at 623 (by decide +kernel)
theorem tb_pr2 : Cond.privateMethod yJ5_newCapacity_0f7a4 ∈ lw_tbl := tb_at 627 (by decide +kernel)
theorem tb_pr3 : Cond.privateMethod yJ5_putStringAt_47b60 ∈ lw_tbl := tb_at 696 (by decide +kernel)
theorem tb_pr4 : Cond.privateMethod yJ5_inflateIfNeededFor_a7421 ∈ lw_tbl := tb_at 700 (by decide +kernel)
theorem start_S {A : Array Value} {s : State} (hts : ∀ w ∈ lw_tbl, w.before A s = true) {y : MethodName} (hy : RJ5 = y.cls) (h1 : Cond.privateMethod y ∈ lw_tbl) (h2 : Cond.instanceMethod y ∈ tblG) : va_Nw (.selects RJ4 y y) s :=
  va_Nw.of rfl (sel_priv (C := RJ4) (x := yJ5_isLatin1_aae02) (n := 4) ⟨by decide, by decide⟩ hy (hts _ (List.mem_filter.mp qi_SB).1) (hts _ h1) (hts _ (List.mem_filter.mp h2).1) (hts _ (List.mem_filter.mp q_656).1) (hts _ (List.mem_filter.mp q_658).1))
theorem start_C {A : Array Value} {K : Kt} (hts : ∀ w ∈ lw_tbl, w.before A (kS K) = true) : KC K :=
  ⟨va_Nw.of rfl (hts _ tb_cast.1), va_Nw.of rfl (hts _ tb_cast.2), start_S hts rfl tb_pr1 q_624, start_S hts rfl tb_pr2 q_628, start_S hts rfl tb_pr3 q_697, start_S hts rfl tb_pr4 q_701⟩
