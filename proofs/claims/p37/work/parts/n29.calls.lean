/-! CALLS: of the string builder's own and inherited methods -/
theorem sel_priv {C : String} {x y : MethodName} {s : State} {args : Array Value} {n : Nat} (hx : x.cls ≠ "java/lang/invoke/MethodHandle" ∧ x.cls ≠ "java/lang/invoke/VarHandle") (hxy : x.cls = y.cls) (hins : (Cond.instantiable C n).before args s = true) (hpriv : (Cond.privateMethod y).before args s = true) (hinst : (Cond.instanceMethod y).before args s = true) (hinx : (Cond.instanceMethod x).before args s = true) (hsx : (Cond.selects C x x).before args s = true) :
    (Cond.selects C y y).before args s = true := by
  obtain ⟨c, k, hc, hk, -, hniab, -, -⟩ := Cond.instantiable_spec hins
  obtain ⟨mk, methM, hnamed, hmethM, -, -⟩ := Cond.instanceMethod_spec hinst
  obtain ⟨mx, methX, hnx, hmx, -, -⟩ := Cond.instanceMethod_spec hinx
  have hfound : s.methodFound? y.cls y.name y.desc = some mk := State.methodFound?_of_named hnamed (hxy ▸ hx)
  have hfx : s.methodFound? x.cls x.name x.desc = some mx := State.methodFound?_of_named hnx hx
  have hsel : selectMethod {} s.vm c mk = .method mk := selectMethod_private hmethM (Cond.privateMethod_at hpriv mk methM hnamed hmethM)
  have ec : mx.cls = mk.cls := Option.some.inj ((findClass_of_methodNamed hnx).symm.trans ((congrArg s.vm.findClass hxy).trans (findClass_of_methodNamed hnamed)))
  simp only [Cond.before, Cond.holds, Cond.value, hc, hfx, hnx, hk, ec] at hsx
  simp only [Cond.before, Cond.holds, Cond.value, hc, hfound, hnamed, hsel, hk]
  simp at hsx ⊢
  generalize selectMethod {} s.vm c mx = q at hsx
  cases q with
  | method m' => exact (Bool.and_eq_true _ _ ▸ hsx).2
  | _ => cases hsx
section CALLX
variable {K : Kt} {X : Xt} {Q : State → Prop} {ce sl : Nat} {M M1 : Mem} {pc : Nat} {L L' : List (Nat × Lv)} {st : List Lv} {rm : Room} {cc : ByteArray} {nL : Nat} {own : String} {ret : Option FieldType}
/-- a method that the receiver's class inherits, or has itself -/
theorem w_callP (hB : Bx K X rm cc nL own ret) {idx n na mc ms ci N n1 : Nat} {C C0 : String} {TT : u_T} {y : MethodName} {c1 : ByteArray} {r1 : Option FieldType} {r2 : Room} {r : Option Lv} {As : List Lv} (hw : CWs own idx C0 y c1 n1 r1 na) (hin : Cond.instanceMethod y ∈ tblG) (hse : (Cond.selects C y y).before X.2.2.2.2.2.2.1 (xS X) = true) (hcl : vcl[ci]? = some (C, TT, N)) (hs : O3 K M n (ci + 1))
    (hM : MT K X.2.1 y c1 n1 r1 r2 (vr n :: As) M r M1 mc ms) (hc : r2.cells = mc ∧ r2.slots = ms) (hR : r2.frames + 1 ≤ rm.frames ∧ 8 + (n1 + 11) + r2.locals ≤ rm.locals) (hf : ce + mc ≤ rm.cells ∧ sl + ms ≤ rm.slots) (hn : As.length = na) (hst : (st.map catL).sum ≤ 8) (d : decode cc pc = .ok (.invokevirtual idx, 3))
    {sk : List Lv} (hsk : sk = As.reverse ++ vr n :: st) (kk : Wt K X Q (ce + mc) (sl + ms) M1 (pc + 3) L (r.toList ++ st)) (hx : mc = 0 ∨ mc + M.2.2.2 = M1.2.2.2) : Wt K X Q ce sl M pc L sk := by
  subst hsk
  intro cp H locs ls a b z dd
  refine w_sz hB a b z (fun zs => ?_)
  have hci : ci < 19 := by
    have := (List.getElem?_eq_some_iff.mp hcl).1
    have e : vcl.length = 11 := rfl
    omega
  have hts := hB.2.2.2.2.1
  obtain ⟨w1, w2, w3, w4, w5, w6⟩ := hw
  obtain ⟨r9, h1, cell, q1, q2, q3, q4⟩ := a (ix n) _ (wd_obj hs hci cp)
  obtain ⟨-, hfc, -⟩ := (hB.2.2.2.2.2.1).K.1 ci _ hcl
  have hRR : X.2.2.2.1 = rm := hB.2.2.2.2.2.2.2.2
  refine w_back (r := r) (M1 := M1) (mc := mc) (ms := ms) (av := (Value.ref (kZ K + (ix n)) :: As.map (val K)).toArray) hB z zs hx b dd ?_ kk
  have hMM := hM
  unfold MT at hMM
  rw [List.map_cons, val_ref hs.1] at hMM
  refine va_runV (As := As.map (val K)) (b := kZ K + (ix n)) (C := C) (index := idx) (bytes := c1) (maxL := n1) (ret := r1) (n := na) (Ts := tblG) ⟨hB.1, hB.2.1, hB.2.2.1, hB.2.2.2.1, hts⟩ hMM ⟨callB_of na hts (good_code w3) rfl hc.1 hc.2 (hts _ w2) (hts _ w1) ⟨w5.1, w5.2, w6⟩ (by rw [hRR]; exact hR), hts _ hin, hse⟩
    ⟨world_blind, ⟨cell, q1, by rw [q3]; rfl, by rw [q2]; exact hfc⟩, world_pre hB cp a b zs⟩ rfl (by rw [List.length_map]; exact hn) (by rw [dd.1]; exact hB.2.2.1) ?_ (lv_room ?_) d (by rw [hRR]; exact hf)
  · show (As.reverse ++ vr n :: st).map (val K) = _
    rw [List.map_append, List.map_reverse, List.map_cons, val_ref hs.1]
  · rw [List.map_map]
    rw [show (fun v : Value => v.category) ∘ val K = catL from funext (fun v => val_cat K v)]
    exact hst
/-- super.m(..) -/
theorem w_callSU (hB : Bx K X rm cc nL own ret) {idx n na mc ms ci N n1 : Nat} {C : String} {TT : u_T} {y : MethodName} {c1 : ByteArray} {r1 : Option FieldType} {r2 : Room} {r : Option Lv} {As : List Lv} (hg : ∀ w ∈ ([.methodLink own idx y, .sameMethod y.cls y.cls y.name y.desc, .superclass own y.cls, .instanceMethod y, .initialized y.cls] : List Cond), w ∈ tblG) (w3 : Cond.code y c1 n1 r1 ∈ tblG) (hy : y.name ≠ "<init>" ∧ (parseMethodDescriptor y.desc).map (fun d => d.parameters.length) = some na) (hcl : vcl[ci]? = some (C, TT, N)) (hs : O3 K M n (ci + 1))
    (hM : MT K X.2.1 y c1 n1 r1 r2 (vr n :: As) M r M1 mc ms) (hc : r2.cells = mc ∧ r2.slots = ms) (hR : r2.frames + 1 ≤ rm.frames ∧ 8 + (n1 + 11) + r2.locals ≤ rm.locals) (hf : ce + mc ≤ rm.cells ∧ sl + ms ≤ rm.slots) (hn : As.length = na) (hst : (st.map catL).sum ≤ 8) (d : decode cc pc = .ok (.invokespecial idx, 3))
    {sk : List Lv} (hsk : sk = As.reverse ++ vr n :: st) (kk : Wt K X Q (ce + mc) (sl + ms) M1 (pc + 3) L (r.toList ++ st)) (hx : mc = 0 ∨ mc + M.2.2.2 = M1.2.2.2) : Wt K X Q ce sl M pc L sk := by
  subst hsk
  intro cp H locs ls a b z dd
  refine w_sz hB a b z (fun zs => ?_)
  have hci : ci < 19 := by
    have := (List.getElem?_eq_some_iff.mp hcl).1
    have e : vcl.length = 11 := rfl
    omega
  have hts := hB.2.2.2.2.1
  obtain ⟨r9, h1, cell, q1, q2, q3, q4⟩ := a (ix n) _ (wd_obj hs hci cp)
  obtain ⟨-, hfc, kC, hkC, hkind⟩ := (hB.2.2.2.2.2.1).K.1 ci _ hcl
  have hRR : X.2.2.2.1 = rm := hB.2.2.2.2.2.2.2.2
  refine w_back (r := r) (M1 := M1) (mc := mc) (ms := ms) (av := (Value.ref (kZ K + (ix n)) :: As.map (val K)).toArray) hB z zs hx b dd ?_ kk
  have hMM := hM
  unfold MT at hMM
  rw [List.map_cons, val_ref hs.1] at hMM
  refine va_runSU (As := As.map (val K)) (b := kZ K + (ix n)) (C := C) (index := idx) (bytes := c1) (maxL := n1) (ret := r1) (n := na) (Ts := tblG) ⟨hfc, kC, hkC, hkind⟩ ⟨hB.1, hB.2.1, hB.2.2.1, hB.2.2.2.1, hts⟩ hMM (va_cwSU na hts (fun w hw => by
    unfold va_wsSU at hw
    rcases List.mem_append.mp hw with h | h
    · exact good_code w3 w (List.mem_cons_of_mem _ (hg w h))
    · exact good_code w3 w h) rfl hc.1 hc.2 hy (by rw [hRR]; exact hR))
    ⟨world_blind, ⟨cell, q1, by rw [q3]; rfl, by rw [q2]; exact hfc⟩, world_pre hB cp a b zs⟩ rfl (by rw [List.length_map]; exact hn) (by rw [dd.1]; exact hB.2.2.1) ?_ (lv_room ?_) d (by rw [hRR]; exact hf)
  · show (As.reverse ++ vr n :: st).map (val K) = _
    rw [List.map_append, List.map_reverse, List.map_cons, val_ref hs.1]
  · rw [List.map_map]
    rw [show (fun v : Value => v.category) ∘ val K = catL from funext (fun v => val_cat K v)]
    exact hst
end CALLX
