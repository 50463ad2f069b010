/-! WHAT THE START GIVES: the constants, the classes -/
def nfl : List Cond := flatC (Jvm.Cond.and given_1 narrow_1)
abbrev tTk (j : Nat) : Term := .static "ReplayBooth$Token" (tokNm.getD j "") "LReplayBooth$Token;"
abbrev tTS : Term := .static "ReplayBooth" "TOKENS" "[LReplayBooth$Token;"
abbrev tSW : Term := .static "ReplayBooth$1" "$SwitchMap$ReplayBooth$Token" "[I"
abbrev tSt (i : Nat) : Term := .string "ReplayBoothModel" (strIx.getD i 0)
abbrev tSv (i : Nat) : Term := .field (tSt i) "java/lang/String" "value" "[B"
set_option maxRecDepth 100000 in
theorem nf_t1 : ∀ j, j < 25 → Cond.exactly (tTk j) "ReplayBooth$Token" ∈ nfl := by decide +kernel
set_option maxRecDepth 100000 in
theorem nf_t2 : ∀ j, j < 25 → Cond.eq (.field (tTk j) "java/lang/Enum" "ordinal" "I") (.int (Int32.ofNat j)) ∈ nfl := by decide +kernel
set_option maxRecDepth 100000 in
theorem nf_t3 : ∀ j, j < 25 → Cond.eq (.field (tTk j) "ReplayBooth$Token" "code" "I") (.int (tokCode (j + 1))) ∈ nfl := by decide +kernel
set_option maxRecDepth 100000 in
theorem nf_T1 : Cond.arrayOf tTS (.object "ReplayBooth$Token") ∈ nfl ∧ Cond.eq (.length tTS) (.int (Int32.ofNat 25)) ∈ nfl := by decide +kernel
set_option maxRecDepth 100000 in
theorem nf_T3 : ∀ j, j < 25 → Cond.eq (.elem tTS (.int (Int32.ofNat j))) (tTk j) ∈ nfl := by decide +kernel
set_option maxRecDepth 100000 in
theorem nf_S1 : Cond.arrayOf tSW .int ∈ nfl ∧ Cond.eq (.length tSW) (.int (Int32.ofNat 25)) ∈ nfl := by decide +kernel
set_option maxRecDepth 100000 in
theorem nf_S3 : ∀ j, j < 25 → Cond.eq (.elem tSW (.int (Int32.ofNat j))) (.int (swm j)) ∈ nfl := by decide +kernel
set_option maxRecDepth 100000 in
theorem nf_s1 : ∀ i, i < 16 → Cond.exactly (tSt i) "java/lang/String" ∈ nfl ∧ Cond.eq (.field (tSt i) "java/lang/String" "coder" "B") (.int 0) ∈ nfl ∧ Cond.arrayOf (tSv i) .byte ∈ nfl ∧ Cond.eq (.length (tSv i)) (.int (Int32.ofNat (strL.getD i 0))) ∈ nfl := by decide +kernel
def nfo : List Nat := [296, 306, 315, 323, 331, 340, 348, 357, 366, 374, 384, 394, 403, 410, 420, 427]
set_option maxRecDepth 100000 in
theorem nf_s3a : ∀ i, i < 16 → ∀ j, j < strL.getD i 0 → nfl[nfo.getD i 0 + j]? = some (Cond.eq (.elem (tSv i) (.int (Int32.ofNat j))) (.int ((strBy.getD i []).getD j 0))) := by decide +kernel
theorem nf_s3 : ∀ i, i < 16 → ∀ j, j < strL.getD i 0 → Cond.eq (.elem (tSv i) (.int (Int32.ofNat j))) (.int ((strBy.getD i []).getD j 0)) ∈ nfl := fun i hi j hj => List.mem_of_getElem? (nf_s3a i hi j hj)
set_option maxRecDepth 100000 in
theorem nf_o : Cond.eq (.static "java/lang/String" "COMPACT_STRINGS" "Z") (.int 1) ∈ nfl ∧ Cond.isRef (.static "jdk/internal/util/Preconditions" "SIOOBE_FORMATTER" "Ljava/util/function/BiFunction;") ∈ nfl ∧ Cond.isRef (.static Bundle.tN "UNASSIGNED_STACK" Bundle.steD) ∈ nfl ∧ Cond.isRef (.static Bundle.tN "SUPPRESSED_SENTINEL" Bundle.listD) ∈ nfl ∧ Cond.exactly (.string RX10 205) "java/lang/String" ∈ nfl ∧ Cond.exactly (.string RX10 385) "java/lang/String" ∈ nfl ∧ Cond.exactly (.string RX10 396) "java/lang/String" ∈ nfl := by decide +kernel
set_option maxRecDepth 100000 in
theorem tb_t : ∀ j, j < 25 → Cond.laysStatic "ReplayBooth$Token" (tokNm.getD j "") "LReplayBooth$Token;" ∈ lw_tbl := by decide +kernel
set_option maxRecDepth 100000 in
theorem tb_s : ∀ i, i < 16 → Cond.stringRef "ReplayBoothModel" (strIx.getD i 0) (strNm.getD i "") ∈ lw_tbl := by decide +kernel
set_option maxRecDepth 100000 in
theorem tb_l : Cond.laysStatic "ReplayBooth" "TOKENS" "[LReplayBooth$Token;" ∈ lw_tbl ∧ Cond.laysStatic "ReplayBooth$1" "$SwitchMap$ReplayBooth$Token" "[I" ∈ lw_tbl ∧ Cond.laysStatic "java/lang/String" "COMPACT_STRINGS" "Z" ∈ lw_tbl ∧ Cond.laysStatic "jdk/internal/util/Preconditions" "SIOOBE_FORMATTER" "Ljava/util/function/BiFunction;" ∈ lw_tbl ∧ Cond.laysStatic Bundle.tN "UNASSIGNED_STACK" Bundle.steD ∈ lw_tbl ∧ Cond.laysStatic Bundle.tN "SUPPRESSED_SENTINEL" Bundle.listD ∈ lw_tbl := by decide +kernel
set_option maxRecDepth 100000 in
theorem tb_i : Cond.initialized "ReplayBooth$Token" ∈ lw_tbl ∧ Cond.initialized "ReplayBooth" ∈ lw_tbl ∧ Cond.initialized "ReplayBooth$1" ∈ lw_tbl ∧ Cond.initialized "java/lang/String" ∈ lw_tbl ∧ Cond.initialized "jdk/internal/util/Preconditions" ∈ lw_tbl ∧ Cond.initialized Bundle.tN ∈ lw_tbl := by decide +kernel
set_option maxRecDepth 100000 in
theorem tb_x : Cond.stringRef RX10 205 "no such frame" ∈ lw_tbl ∧ Cond.stringRef RX10 385 "no such row of the log" ∈ lw_tbl ∧ Cond.stringRef RX10 396 "no such number of the row" ∈ lw_tbl ∧ Cond.fieldLinkNest "ReplayBooth$Token" 116 "ReplayBooth" "TOKENS" "[LReplayBooth$Token;" "ReplayBooth" ∈ lw_tbl := by decide +kernel
set_option maxRecDepth 100000 in
theorem tb_B : ∀ w ∈ thrB, w ∈ lw_tbl ∧ w.onTables = true := by decide +kernel
theorem ev_ex {A : Array Value} {s : State} {t : Term} {nm : String} (h : (Cond.exactly t nm).before A s = true) : ∃ a, t.eval A s none [] s = some (.ref a) := by
  obtain ⟨a, c, cA, kA, q1, -⟩ := Cond.exactly_spec (args := A) (first := s) (o := none) (s := s) (idx := []) (t := t) (cls := nm) h
  exact ⟨a, q1⟩
theorem ch_ex {P : Nat → Nat → Prop} {N : Nat} (h : ∀ i, i < N → ∃ t, P i t) : ∃ f : Nat → Nat, ∀ i, i < N → P i (f i) := by
  have h0 : ∀ i, ∃ t, i < N → P i t := by
    intro i
    by_cases hi : i < N
    · obtain ⟨t, ht⟩ := h i hi
      exact ⟨t, fun _ => ht⟩
    · exact ⟨0, fun q => absurd q hi⟩
  exact ⟨fun i => Classical.choose (h0 i), fun i => Classical.choose_spec (h0 i)⟩
set_option maxHeartbeats 1000000 in
theorem start_A {A : Array Value} {s : State} (b : Addr) (hts : ∀ w ∈ lw_tbl, w.before A s = true) (hn : ∀ w ∈ nfl, w.before A s = true) : ∃ ad : Nat → Nat, ad 61 = b ∧ (∀ i, 0 < i → i < 26 → ad i < s.heap.size) ∧ (∀ i j, 0 < i → i < 26 → 0 < j → j < 26 → ad i = ad j → i = j) ∧
    ∀ (D : va_G) (Y : Nat → ClassId) (P : Bool), KTok (s, s.heap.size, D, Y, ad, P) ∧ KThr (s, s.heap.size, D, Y, ad, P) := by
  have hA : ∀ a : Nat, a < s.heap.size → ¬ (fun q : Nat => s.heap.size ≤ q) a := fun a h => Nat.not_le.mpr h
  obtain ⟨tk, htk⟩ := ch_ex (N := 25) (P := fun j t => (tTk j).eval A s none [] s = some (.ref t)) (fun j hj => ev_ex (hn _ (nf_t1 j hj)))
  obtain ⟨tT, htT, vT⟩ := va_Tof (tm := tTS) (ty := .object "ReplayBooth$Token") (N := 25) (f := fun i => .ref (tk i)) (A := fun q : Nat => s.heap.size ≤ q) (by decide) (hn _ nf_T1.1) (va_eqt (hn _ nf_T1.2)) (fun j hj => va_eqv (hn _ (nf_T3 j hj)) (htk j hj)) hA
  obtain ⟨tS, htS, vS⟩ := va_Tof (tm := tSW) (ty := .int) (N := 25) (f := fun i => .int (swm i)) (A := fun q : Nat => s.heap.size ≤ q) (by decide) (hn _ nf_S1.1) (va_eqt (hn _ nf_S1.2)) (fun j hj => va_eqt (hn _ (nf_S3 j hj))) hA
  obtain ⟨sk, hsk⟩ := ch_ex (N := 16) (P := fun i t => (tSt i).eval A s none [] s = some (.ref t)) (fun i hi => ev_ex (hn _ (nf_s1 i hi).1))
  obtain ⟨sb, hsb⟩ := ch_ex (N := 16) (P := fun i t => (tSv i).eval A s none [] s = some (.ref t) ∧ va_T .byte t (strL.getD i 0) (fun j => .int ((strBy.getD i []).getD j 0)) (fun q : Nat => s.heap.size ≤ q) s s.heap) (fun i hi => by
    have hl : strL.getD i 0 < 2 ^ 31 := (by decide : ∀ i, i < 16 → strL.getD i 0 < 2 ^ 31) i hi
    exact va_Tof hl (hn _ (nf_s1 i hi).2.2.1) (va_eqt (hn _ (nf_s1 i hi).2.2.2)) (fun j hj => va_eqt (hn _ (nf_s3 i hi j hj))) hA)
  obtain ⟨fm, hfm⟩ : ∃ fm : Nat, va_Z "jdk/internal/util/Preconditions" "SIOOBE_FORMATTER" "Ljava/util/function/BiFunction;" (va_rf (if fm = 0 then none else some (fm - 1))) (fun q : Nat => s.heap.size ≤ q) s s.heap := by
    rcases va_Zqof (hts _ tb_l.2.2.2.1) (hts _ tb_i.2.2.2.2.1) (hn _ nf_o.2.1) hA with h | ⟨t, h⟩
    · exact ⟨0, h⟩
    · exact ⟨t + 1, h⟩
  obtain ⟨ad, e1, e26, e27, e28, e44, e60, e61⟩ : ∃ ad : Nat → Nat, (∀ j, j < 25 → ad (j + 1) = tk j) ∧ ad 26 = tT ∧ ad 27 = tS ∧ (∀ i, i < 16 → ad (28 + i) = sk i) ∧ (∀ i, i < 16 → ad (44 + i) = sb i) ∧ ad 60 = fm ∧ ad 61 = b := by
    refine ⟨fun n => if n < 26 then tk (n - 1) else if n = 26 then tT else if n = 27 then tS else if n < 44 then sk (n - 28) else if n < 60 then sb (n - 44) else if n = 60 then fm else b, fun j hj => ?_, rfl, rfl, fun i hi => ?_, fun i hi => ?_, rfl, rfl⟩
    · show (if j + 1 < 26 then tk (j + 1 - 1) else _) = tk j
      rw [if_pos (by omega), Nat.add_sub_cancel]
    · show (if 28 + i < 26 then _ else if 28 + i = 26 then _ else if 28 + i = 27 then _ else if 28 + i < 44 then sk (28 + i - 28) else _) = sk i
      rw [if_neg (by omega), if_neg (by omega), if_neg (by omega), if_pos (by omega), Nat.add_sub_cancel_left]
    · show (if 44 + i < 26 then _ else if 44 + i = 26 then _ else if 44 + i = 27 then _ else if 44 + i < 44 then _ else if 44 + i < 60 then sb (44 + i - 44) else _) = sb i
      rw [if_neg (by omega), if_neg (by omega), if_neg (by omega), if_neg (by omega), if_pos (by omega), Nat.add_sub_cancel_left]
  have hO : ∀ j, j < 25 → va_O "ReplayBooth$Token" (tk j) (fun q : Nat => s.heap.size ≤ q) s s.heap := fun j hj => va_Oof (hn _ (nf_t1 j hj)) (htk j hj) hA
  have hf : ∀ j, j < 25 → s.fieldOf? (tk j) "java/lang/Enum" "ordinal" "I" = some (.int (Int32.ofNat j)) := fun j hj => (va_fe (htk j hj)).symm.trans (va_eqt (hn _ (nf_t2 j hj)))
  refine ⟨ad, e61, fun i h0 h1 => ?_, fun i j h0 h1 h2 h3 h => ?_, fun D Y P => ⟨⟨fun j hj => ⟨?_, ?_, ?_, ?_⟩, ?_, ?_, ?_, ?_, fun i hi => ⟨?_, ?_, ?_, ?_, ?_⟩, ?_, ?_, ?_⟩, ⟨?_, ?_, ?_, ?_, ?_, ?_⟩⟩⟩
  · obtain ⟨cell, q1, -⟩ := hO (i - 1) (by omega)
    have e := e1 (i - 1) (by omega)
    rw [show i - 1 + 1 = i by omega] at e
    rw [e]
    exact (Array.getElem?_eq_some_iff.mp q1).1
  · have ei := e1 (i - 1) (by omega)
    have ej := e1 (j - 1) (by omega)
    rw [show i - 1 + 1 = i by omega] at ei
    rw [show j - 1 + 1 = j by omega] at ej
    have hi := hf (i - 1) (by omega)
    have hj := hf (j - 1) (by omega)
    rw [← ei, h, ej] at hi
    have q := Value.int.inj (Option.some.inj (hi.symm.trans hj))
    have q2 := inj_nI (a := i - 1) (b := j - 1) (by omega) (by omega) q
    omega
  · show va_Z "ReplayBooth$Token" (tokNm.getD j "") "LReplayBooth$Token;" (.ref (ad (j + 1))) (fun q : Nat => s.heap.size ≤ q) s s.heap
    rw [e1 j hj]
    exact va_Zref (hts _ (tb_t j hj)) (hts _ tb_i.1) (htk j hj) hA
  · show va_O "ReplayBooth$Token" (ad (j + 1)) (fun q : Nat => s.heap.size ≤ q) s s.heap
    rw [e1 j hj]
    exact hO j hj
  · show va_OF "java/lang/Enum" "ordinal" "I" (.int (Int32.ofNat j)) (ad (j + 1)) (fun q : Nat => s.heap.size ≤ q) s s.heap
    rw [e1 j hj]
    exact vk_OFof (htk j hj) (va_eqt (hn _ (nf_t2 j hj))) hA
  · show va_OF "ReplayBooth$Token" "code" "I" (.int (tokCode (j + 1))) (ad (j + 1)) (fun q : Nat => s.heap.size ≤ q) s s.heap
    rw [e1 j hj]
    exact vk_OFof (htk j hj) (va_eqt (hn _ (nf_t3 j hj))) hA
  · show va_Z "ReplayBooth" "TOKENS" "[LReplayBooth$Token;" (.ref (ad 26)) (fun q : Nat => s.heap.size ≤ q) s s.heap
    rw [e26]
    exact va_Zref (hts _ tb_l.1) (hts _ tb_i.2.1) htT hA
  · show va_T (.object "ReplayBooth$Token") (ad 26) 25 (fun i => .ref (ad (i + 1))) (fun q : Nat => s.heap.size ≤ q) s s.heap
    rw [e26]
    obtain ⟨cell, q1, q2, q3, q4, q5, q6, q7⟩ := vT
    exact ⟨cell, q1, q2, q3, q4, q5, fun j hj => by
      rw [q6 j hj]
      show some (Value.ref (tk j)) = some (Value.ref (ad (j + 1)))
      rw [e1 j hj], q7⟩
  · show va_Z "ReplayBooth$1" "$SwitchMap$ReplayBooth$Token" "[I" (.ref (ad 27)) (fun q : Nat => s.heap.size ≤ q) s s.heap
    rw [e27]
    exact va_Zref (hts _ tb_l.2.1) (hts _ tb_i.2.2.1) htS hA
  · show va_T .int (ad 27) 25 (fun i => .int (swm i)) (fun q : Nat => s.heap.size ≤ q) s s.heap
    rw [e27]
    exact vS
  · show vk_R "ReplayBoothModel" (strIx.getD i 0) (strNm.getD i "") (ad (28 + i)) s
    rw [e28 i hi]
    exact vk_R.of (hts _ (tb_s i hi)) (hsk i hi)
  · show va_O "java/lang/String" (ad (28 + i)) (fun q : Nat => s.heap.size ≤ q) s s.heap
    rw [e28 i hi]
    exact va_Oof (hn _ (nf_s1 i hi).1) (hsk i hi) hA
  · show va_OF "java/lang/String" "coder" "B" (.int 0) (ad (28 + i)) (fun q : Nat => s.heap.size ≤ q) s s.heap
    rw [e28 i hi]
    exact vk_OFof (hsk i hi) (va_eqt (hn _ (nf_s1 i hi).2.1)) hA
  · show va_OF "java/lang/String" "value" "[B" (.ref (ad (44 + i))) (ad (28 + i)) (fun q : Nat => s.heap.size ≤ q) s s.heap
    rw [e28 i hi, e44 i hi]
    exact vk_OFof (hsk i hi) (hsb i hi).1 hA
  · show va_T .byte (ad (44 + i)) (strL.getD i 0) (fun j => .int ((strBy.getD i []).getD j 0)) (fun q : Nat => s.heap.size ≤ q) s s.heap
    rw [e44 i hi]
    exact (hsb i hi).2
  · exact va_Zof (hts _ tb_l.2.2.1) (hts _ tb_i.2.2.2.1) (va_eqi (hn _ nf_o.1)) hA
  · show va_Z "jdk/internal/util/Preconditions" "SIOOBE_FORMATTER" "Ljava/util/function/BiFunction;" (va_rf (if ad 60 = 0 then none else some (ad 60 - 1))) (fun q : Nat => s.heap.size ≤ q) s s.heap
    rw [e60]
    exact hfm
  · exact va_Nw.of rfl (hts _ tb_x.2.2.2)
  · obtain ⟨a, h⟩ := ev_ex (hn _ nf_o.2.2.2.2.1)
    exact ⟨a, vk_R.of (hts _ tb_x.1) h⟩
  · obtain ⟨a, h⟩ := ev_ex (hn _ nf_o.2.2.2.2.2.1)
    exact ⟨a, vk_R.of (hts _ tb_x.2.1) h⟩
  · obtain ⟨a, h⟩ := ev_ex (hn _ nf_o.2.2.2.2.2.2)
    exact ⟨a, vk_R.of (hts _ tb_x.2.2.1) h⟩
  · exact vx_Zqof (hts _ tb_l.2.2.2.2.1) (hts _ tb_i.2.2.2.2.2) (hn _ nf_o.2.2.1) hA
  · exact vx_Zqof (hts _ tb_l.2.2.2.2.2) (hts _ tb_i.2.2.2.2.2) (hn _ nf_o.2.2.2.1) hA
  · exact fun w hw => va_Nw.of (tb_B w hw).2 (hts _ (tb_B w hw).1)
/-! the classes -/
theorem arr_prim {A : Array Value} {s : State} (ty : FieldType) (h : (Cond.arrayClass ty).before A s = true) : ∃ c, ArrOfT s c ty ∧ s.vm.findClass ("[" ++ ty.toString) = some c := by
  obtain ⟨c, k, comp, h1, h2, h3⟩ := Cond.arrayClass_spec (args := A) (first := s) (o := none) (s := s) (idx := []) h
  exact ⟨c, fun n z => ⟨fun k h => (by cases h), k, h2, comp, h3⟩, h1⟩
theorem arr_obj {A : Array Value} {s : State} (C : String) (h : (Cond.arrayOver (.object C)).before A s = true) : ∃ c, ArrOfT s c (.object C) ∧ va_RA s c (.object C) := by
  obtain ⟨comp, c, k, h1, -, h3, h4, h5⟩ := Cond.arrayOver_spec (args := A) (first := s) (o := none) (s := s) (idx := []) h
  exact ⟨c, fun n z => ⟨fun k h => (by cases h), k, h3, comp, h4⟩, k, comp, h3, h4, h1, h5⟩
set_option maxRecDepth 100000 in
theorem tb_ar : (Cond.arrayClass .int ∈ lw_tbl ∧ Cond.arrayClass .boolean ∈ lw_tbl ∧ Cond.arrayClass .byte ∈ lw_tbl ∧ Cond.arrayClass .long ∈ lw_tbl) ∧ Cond.arrayOver (.object "ReplayBooth$Kind") ∈ lw_tbl ∧ Cond.arrayOver (.object "ReplayBooth$Board") ∈ lw_tbl ∧ Cond.arrayOver (.object "ReplayBooth$Play") ∈ lw_tbl ∧ Cond.arrayOver (.object "ReplayBooth$Day") ∈ lw_tbl ∧ Cond.arrayOver (.object "ReplayBooth$Token") ∈ lw_tbl := by decide +kernel
theorem start_Y {A : Array Value} {s : State} (hts : ∀ w ∈ lw_tbl, w.before A s = true) : ∃ Y : Nat → ClassId, ∀ (D : va_G) (ad : Nat → Nat) (P : Bool) (k : Nat) (q : ClassId × FieldType), (tysK (s, s.heap.size, D, Y, ad, P))[k]? = some q → ArrOfT s q.1 q.2 ∧ va_RA s q.1 q.2 := by
  obtain ⟨⟨a0, a1, a2, a3⟩, a4, a5, a6, a7, a8⟩ := tb_ar
  obtain ⟨c0, h0⟩ := arr_prim .int (hts _ a0)
  obtain ⟨c1, h1⟩ := arr_prim .boolean (hts _ a1)
  obtain ⟨c2, h2⟩ := arr_prim .byte (hts _ a2)
  obtain ⟨c3, h3⟩ := arr_prim .long (hts _ a3)
  obtain ⟨c4, h4⟩ := arr_obj _ (hts _ a4)
  obtain ⟨c5, h5⟩ := arr_obj _ (hts _ a5)
  obtain ⟨c6, h6⟩ := arr_obj _ (hts _ a6)
  obtain ⟨c7, h7⟩ := arr_obj _ (hts _ a7)
  obtain ⟨c8, h8⟩ := arr_obj _ (hts _ a8)
  refine ⟨fun k => [c0, c1, c2, c3, c4, c5, c6, c7, c8].getD k c0, fun D ad P k q hq => ?_⟩
  rcases (show k = 0 ∨ k = 1 ∨ k = 2 ∨ k = 3 ∨ k = 4 ∨ k = 5 ∨ k = 6 ∨ k = 7 ∨ k = 8 ∨ 9 ≤ k by omega) with rfl | rfl | rfl | rfl | rfl | rfl | rfl | rfl | rfl | hk
  · cases hq; exact h0
  · cases hq; exact h1
  · cases hq; exact h2
  · cases hq; exact h3
  · cases hq; exact h4
  · cases hq; exact h5
  · cases hq; exact h6
  · cases hq; exact h7
  · cases hq; exact h8
  · have e : (tysK (s, s.heap.size, D, (fun k => [c0, c1, c2, c3, c4, c5, c6, c7, c8].getD k c0), ad, P)).length = 9 := rfl
    rw [List.getElem?_eq_none (by rw [e]; exact hk)] at hq
    cases hq
set_option maxRecDepth 100000 in
theorem tb_in : Cond.instantiable RX1 3 ∈ lw_tbl ∧ Cond.instantiable RX2 2 ∈ lw_tbl ∧ Cond.instantiable RX3 10 ∈ lw_tbl ∧ Cond.instantiable RX4 4 ∈ lw_tbl ∧ Cond.instantiable RX5 6 ∈ lw_tbl ∧ Cond.instantiable RX6 12 ∈ lw_tbl ∧ Cond.instantiable RX7 14 ∈ lw_tbl ∧ Cond.instantiable RX9 14 ∈ lw_tbl ∧ Cond.instantiable RX10 14 ∈ lw_tbl ∧ Cond.instantiable RX11 47 ∈ lw_tbl := by decide +kernel
theorem start_D {A : Array Value} {s : State} (hts : ∀ w ∈ lw_tbl, w.before A s = true) : ∃ D : va_G, ∀ (c : Nat) (q : vw_C), vwCl[c]? = some q → u_Kn s q.1 q.2.1 q.2.2 (D.1 c) (D.2 c) := by
  obtain ⟨n1, n2, n3, n4, n5, n6, n7, n9, n10, n11⟩ := tb_in
  have hg : ∀ w ∈ tblG, w.before A s = true := fun w hw => hts w (List.mem_filter.mp hw).1
  have h : ∀ c : Nat, ∃ cd : ClassId × (Nat → Nat), ∀ q : vw_C, vwCl[c]? = some q → u_Kn s q.1 q.2.1 q.2.2 cd.1 cd.2 := by
    intro c
    rcases (show c = 0 ∨ c = 1 ∨ c = 2 ∨ c = 3 ∨ c = 4 ∨ c = 5 ∨ c = 6 ∨ c = 7 ∨ c = 8 ∨ c = 9 ∨ 10 ≤ c by omega) with rfl | rfl | rfl | rfl | rfl | rfl | rfl | rfl | rfl | rfl | hc
    · obtain ⟨cC, iS, h⟩ := u_known (C := RX1) (T := TX1) (N := 3) hg inG_X1 (hts _ n1); exact ⟨(cC, iS), fun q hq => by cases hq; exact h⟩
    · obtain ⟨cC, iS, h⟩ := u_known (C := RX2) (T := TX2) (N := 2) hg inG_X2 (hts _ n2); exact ⟨(cC, iS), fun q hq => by cases hq; exact h⟩
    · obtain ⟨cC, iS, h⟩ := u_known (C := RX3) (T := TX3) (N := 10) hg inG_X3 (hts _ n3); exact ⟨(cC, iS), fun q hq => by cases hq; exact h⟩
    · obtain ⟨cC, iS, h⟩ := u_known (C := RX4) (T := TX4) (N := 4) hg inG_X4 (hts _ n4); exact ⟨(cC, iS), fun q hq => by cases hq; exact h⟩
    · obtain ⟨cC, iS, h⟩ := u_known (C := RX5) (T := TX5) (N := 6) hg inG_X5 (hts _ n5); exact ⟨(cC, iS), fun q hq => by cases hq; exact h⟩
    · obtain ⟨cC, iS, h⟩ := u_known (C := RX6) (T := TX6) (N := 12) hg inG_X6 (hts _ n6); exact ⟨(cC, iS), fun q hq => by cases hq; exact h⟩
    · obtain ⟨cC, iS, h⟩ := u_known (C := RX7) (T := TX7) (N := 14) hg inG_X7 (hts _ n7); exact ⟨(cC, iS), fun q hq => by cases hq; exact h⟩
    · obtain ⟨cC, iS, h⟩ := u_known (C := RX9) (T := TX9) (N := 14) hg inG_X9 (hts _ n9); exact ⟨(cC, iS), fun q hq => by cases hq; exact h⟩
    · obtain ⟨cC, iS, h⟩ := u_known (C := RX10) (T := TX10) (N := 14) hg inG_X10 (hts _ n10); exact ⟨(cC, iS), fun q hq => by cases hq; exact h⟩
    · obtain ⟨cC, iS, h⟩ := u_known (C := RX11) (T := TX11) (N := 47) hg inG_X11 (hts _ n11); exact ⟨(cC, iS), fun q hq => by cases hq; exact h⟩
    · obtain ⟨cC, iS, h⟩ := u_known (C := RX1) (T := TX1) (N := 3) hg inG_X1 (hts _ n1)
      refine ⟨(cC, iS), fun q hq => ?_⟩
      have e : vwCl.length = 10 := rfl
      rw [List.getElem?_eq_none (by rw [e]; exact hc)] at hq
      cases hq
  exact ⟨(fun c => (Classical.choose (h c)).1, fun c => (Classical.choose (h c)).2), fun c q hq => Classical.choose_spec (h c) q hq⟩
