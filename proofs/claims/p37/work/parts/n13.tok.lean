theorem ord_good : GoodIn tblG (va_wsU "ReplayBooth$Reader" 126 "ReplayBooth$Token" "java/lang/Enum" ⟨"ReplayBooth$Token", "ordinal", "()I"⟩ yJx29ce0_ordinal_8abf5 (.code yJx29ce0_ordinal_8abf5 cJx29ce0_ordinal_8abf5 1 (some .int) :: tblG)) := by
  intro w hw
  have h : w ∈ tblG := by
    unfold va_wsU at hw
    rcases List.mem_append.mp hw with h | h
    · rcases List.mem_cons.mp h with rfl | h
      · exact tblG_of 967 (by decide +kernel) rfl
      rcases List.mem_cons.mp h with rfl | h
      · exact tblG_of 968 (by decide +kernel) rfl
      rcases List.mem_cons.mp h with rfl | h
      · exact tblG_of 970 (by decide +kernel) rfl
      rcases List.mem_cons.mp h with rfl | h
      · exact tblG_of 971 (by decide +kernel) rfl
      rcases List.mem_cons.mp h with rfl | h
      · exact tblG_of 17 (by decide +kernel) rfl
      · cases h
    · rcases List.mem_cons.mp h with rfl | h
      · exact tblG_of 972 (by decide +kernel) rfl
      · exact h
  exact ⟨h, good_of_word (List.mem_filter.mp h).2⟩
section TOKC
variable {K : Kt} {X : Xt} {Q : State → Prop} {ce sl : Nat} {M : Mem} {pc : Nat} {L L' : List (Nat × Lv)} {st : List Lv} {rm : Room} {cc : ByteArray} {nL : Nat} {ret : Option FieldType}
theorem w_ordinal (hB : Bx K X rm cc nL RX7 ret) (hp : St K) {n : Nat} (hn : 0 < n ∧ n < 26) (hR : 0 + 1 ≤ rm.frames ∧ 8 + (1 + 11) + 0 ≤ rm.locals) (hf : ce + 0 ≤ rm.cells ∧ sl + 0 ≤ rm.slots) (hst : (st.map catL).sum ≤ 8) (d : decode cc pc = .ok (.invokevirtual 126, 3)) (kk : Wt K X Q ce sl M (pc + 3) L (vi (Int32.ofNat (n - 1)) :: st)) : Wt K X Q ce sl M pc L (vr n :: st) := by
  intro cp H locs ls a b z dd
  refine w_sz hB a b z (fun zs => ?_)
  have hO := (hp.2.1 (n - 1) (by omega)).2.1
  rw [show n - 1 + 1 = n by omega] at hO
  have hts := hB.2.2.2.2.1
  have hRR : X.2.2.2.1 = rm := hB.2.2.2.2.2.2.2.2
  have hM : MT K X.2.1 yJx29ce0_ordinal_8abf5 cJx29ce0_ordinal_8abf5 1 (some .int) { frames := 0, cells := 0, slots := 0, locals := 0 } [vr n] M (some (vi (Int32.ofNat (n - 1)))) M 0 0 :=
    c_Jx29ce0_ordinal_8abf5 hp (by unfold f_Jx29ce0_ordinal_8abf5 gd; rw [if_pos hn])
  refine w_back (r := some (vi (Int32.ofNat (n - 1)))) (M1 := M) (mc := 0) (ms := 0) (av := (Value.ref (kA K n) :: []).toArray) hB z zs (Or.inl rfl) b dd ?_ kk
  have hMM := hM
  unfold MT at hMM
  rw [List.map_cons, val_con (Or.inl ⟨hn.1, by omega⟩)] at hMM
  refine va_runU (As := []) (b := kA K n) (C := "ReplayBooth$Token") (owner := "java/lang/Enum") (x := ⟨"ReplayBooth$Token", "ordinal", "()I"⟩) (index := 126) (bytes := cJx29ce0_ordinal_8abf5) (maxL := 1) (ret := some .int) (n := 0) (Ts := tblG) ⟨hB.1, hB.2.1, hB.2.2.1, hB.2.2.2.1, hts⟩ hMM (va_cwU 0 hts ord_good rfl rfl rfl rfl (by decide +kernel) (by rw [hRR]; exact hR))
    ⟨world_blind, recv_con hB.2.2.2.2.2.1 hO b, world_pre (As := [Value.ref (kA K n)]) hB cp a b zs⟩ rfl rfl (by rw [dd.1]; exact hB.2.2.1) ?_ (lv_room ?_) d (by rw [hRR]; exact hf)
  · show (vr n :: st).map (val K) = _
    rw [List.map_cons, val_con (Or.inl ⟨hn.1, by omega⟩)]
    rfl
  · rw [List.map_map]
    rw [show (fun v : Value => v.category) ∘ val K = catL from funext (fun v => val_cat K v)]
    exact hst
end TOKC
