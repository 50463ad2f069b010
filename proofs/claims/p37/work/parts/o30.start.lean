/-! WHAT THE START GIVES: the constants, the classes -/
def nfl : List Cond := flatC (Jvm.Cond.and given_1 narrow_1)
abbrev tTk (j : Nat) : Term := .static "ReplayBooth$Token" (tokNm.getD j "") "LReplayBooth$Token;"
abbrev tTS : Term := .static "ReplayBooth" "TOKENS" "[LReplayBooth$Token;"
abbrev tSW : Term := .static "ReplayBooth$1" "$SwitchMap$ReplayBooth$Token" "[I"
abbrev tSt (i : Nat) : Term := .string RL (lsIx.getD i 0)
abbrev tSv (i : Nat) : Term := .field (tSt i) "java/lang/String" "value" "[B"
def pnf_t1 : List Nat := [4, 222, 257, 218, 263, 270, 278, 287, 297, 336, 525, 348, 361, 441, 460, 548, 572, 597, 623, 375, 390, 406, 423, 480, 501]
set_option maxRecDepth 100000 in
theorem nf_t1_a : ∀ j, j < 25 → nfl[pnf_t1.getD j 0]? = some (Cond.exactly (tTk j) "ReplayBooth$Token") := by decide +kernel
theorem nf_t1 : ∀ j, j < 25 → Cond.exactly (tTk j) "ReplayBooth$Token" ∈ nfl := fun j h => List.mem_of_getElem? (nf_t1_a j h)
def pnf_t2 : List Nat := [5, 223, 258, 219, 264, 271, 279, 288, 298, 337, 526, 349, 362, 442, 461, 549, 573, 598, 624, 376, 391, 407, 424, 481, 502]
set_option maxRecDepth 100000 in
theorem nf_t2_a : ∀ j, j < 25 → nfl[pnf_t2.getD j 0]? = some (Cond.eq (.field (tTk j) "java/lang/Enum" "ordinal" "I") (.int (Int32.ofNat j))) := by decide +kernel
theorem nf_t2 : ∀ j, j < 25 → Cond.eq (.field (tTk j) "java/lang/Enum" "ordinal" "I") (.int (Int32.ofNat j)) ∈ nfl := fun j h => List.mem_of_getElem? (nf_t2_a j h)
def pnf_t3 : List Nat := [6, 224, 259, 220, 265, 272, 280, 289, 299, 338, 527, 350, 363, 443, 462, 550, 574, 599, 625, 377, 392, 408, 425, 482, 503]
set_option maxRecDepth 100000 in
theorem nf_t3_a : ∀ j, j < 25 → nfl[pnf_t3.getD j 0]? = some (Cond.eq (.field (tTk j) "ReplayBooth$Token" "code" "I") (.int (tokCode (j + 1)))) := by decide +kernel
theorem nf_t3 : ∀ j, j < 25 → Cond.eq (.field (tTk j) "ReplayBooth$Token" "code" "I") (.int (tokCode (j + 1))) ∈ nfl := fun j h => List.mem_of_getElem? (nf_t3_a j h)
theorem nf_T1 : Cond.arrayOf tTS (.object "ReplayBooth$Token") ∈ nfl ∧ Cond.eq (.length tTS) (.int (Int32.ofNat 25)) ∈ nfl := ⟨List.mem_of_getElem? (i := 229) (by decide +kernel), List.mem_of_getElem? (i := 230) (by decide +kernel)⟩
def pnf_T3 : List Nat := [232, 233, 234, 235, 236, 237, 238, 239, 240, 241, 242, 243, 244, 245, 246, 247, 248, 249, 250, 251, 252, 253, 254, 255, 256]
set_option maxRecDepth 100000 in
theorem nf_T3_a : ∀ j, j < 25 → nfl[pnf_T3.getD j 0]? = some (Cond.eq (.elem tTS (.int (Int32.ofNat j))) (tTk j)) := by decide +kernel
theorem nf_T3 : ∀ j, j < 25 → Cond.eq (.elem tTS (.int (Int32.ofNat j))) (tTk j) ∈ nfl := fun j h => List.mem_of_getElem? (nf_T3_a j h)
theorem nf_S1 : Cond.arrayOf tSW .int ∈ nfl ∧ Cond.eq (.length tSW) (.int (Int32.ofNat 25)) ∈ nfl := ⟨List.mem_of_getElem? (i := 309) (by decide +kernel), List.mem_of_getElem? (i := 310) (by decide +kernel)⟩
def pnf_S3 : List Nat := [311, 312, 313, 314, 315, 316, 317, 318, 319, 320, 321, 322, 323, 324, 325, 326, 327, 328, 329, 330, 331, 332, 333, 334, 335]
set_option maxRecDepth 100000 in
theorem nf_S3_a : ∀ j, j < 25 → nfl[pnf_S3.getD j 0]? = some (Cond.eq (.elem tSW (.int (Int32.ofNat j))) (.int (swm j))) := by decide +kernel
theorem nf_S3 : ∀ j, j < 25 → Cond.eq (.elem tSW (.int (Int32.ofNat j))) (.int (swm j)) ∈ nfl := fun j h => List.mem_of_getElem? (nf_S3_a j h)
def p_s10 : List Nat := [715, 727, 732, 737, 748, 754, 766, 779, 789, 800, 810, 822, 840, 853, 879, 908, 918, 924, 930, 938, 945, 950, 955, 965, 976, 986]
set_option maxRecDepth 100000 in
theorem nf_s10 : ∀ i, i < 26 → nfl[p_s10.getD i 0]? = some (Cond.exactly (tSt i) "java/lang/String") := by decide +kernel
def p_s11 : List Nat := [716, 728, 733, 738, 749, 755, 767, 780, 790, 801, 811, 823, 841, 854, 880, 909, 919, 925, 931, 939, 946, 951, 956, 966, 977, 987]
set_option maxRecDepth 100000 in
theorem nf_s11 : ∀ i, i < 26 → nfl[p_s11.getD i 0]? = some (Cond.eq (.field (tSt i) "java/lang/String" "coder" "B") (.int 0)) := by decide +kernel
def p_s12 : List Nat := [717, 729, 734, 739, 750, 756, 768, 781, 791, 802, 812, 824, 842, 855, 881, 910, 920, 926, 932, 940, 947, 952, 957, 967, 978, 988]
set_option maxRecDepth 100000 in
theorem nf_s12 : ∀ i, i < 26 → nfl[p_s12.getD i 0]? = some (Cond.arrayOf (tSv i) .byte) := by decide +kernel
def p_s13 : List Nat := [718, 730, 735, 740, 751, 757, 769, 782, 792, 803, 813, 825, 843, 856, 882, 911, 921, 927, 933, 941, 948, 953, 958, 968, 979, 989]
set_option maxRecDepth 100000 in
theorem nf_s13 : ∀ i, i < 26 → nfl[p_s13.getD i 0]? = some (Cond.eq (.length (tSv i)) (.int (Int32.ofNat (lsL.getD i 0)))) := by decide +kernel
theorem nf_s1 : ∀ i, i < 26 → Cond.exactly (tSt i) "java/lang/String" ∈ nfl ∧ Cond.eq (.field (tSt i) "java/lang/String" "coder" "B") (.int 0) ∈ nfl ∧ Cond.arrayOf (tSv i) .byte ∈ nfl ∧ Cond.eq (.length (tSv i)) (.int (Int32.ofNat (lsL.getD i 0))) ∈ nfl := fun i h => ⟨List.mem_of_getElem? (nf_s10 i h), List.mem_of_getElem? (nf_s11 i h), List.mem_of_getElem? (nf_s12 i h), List.mem_of_getElem? (nf_s13 i h)⟩
def nfo : List Nat := [719, 731, 736, 741, 752, 758, 770, 783, 793, 804, 814, 826, 844, 857, 883, 912, 922, 928, 934, 942, 949, 954, 959, 969, 980, 990]
set_option maxRecDepth 100000 in
theorem nf_s3a : ∀ i, i < 26 → ∀ j, j < lsL.getD i 0 → nfl[nfo.getD i 0 + j]? = some (Cond.eq (.elem (tSv i) (.int (Int32.ofNat j))) (.int ((lsBy.getD i []).getD j 0))) := by decide +kernel
theorem nf_s3 : ∀ i, i < 26 → ∀ j, j < lsL.getD i 0 → Cond.eq (.elem (tSv i) (.int (Int32.ofNat j))) (.int ((lsBy.getD i []).getD j 0)) ∈ nfl := fun i hi j hj => List.mem_of_getElem? (nf_s3a i hi j hj)
set_option maxRecDepth 100000 in
theorem nf_o : Cond.eq (.static "java/lang/String" "COMPACT_STRINGS" "Z") (.int 1) ∈ nfl ∧ Cond.isRef (.static "jdk/internal/util/Preconditions" "SIOOBE_FORMATTER" "Ljava/util/function/BiFunction;") ∈ nfl := by decide +kernel
abbrev tDg (n : Nat) : Term := .static "java/lang/Integer" (dgN n) "[B"
set_option maxRecDepth 100000 in
theorem nf_d1 : ∀ n, n < 482 → 480 ≤ n → Cond.arrayOf (tDg n) .byte ∈ nfl ∧ Cond.eq (.length (tDg n)) (.int 100) ∈ nfl := by
  intro n h1 h2
  rcases (show n = 480 ∨ n = 481 by omega) with rfl | rfl
  · exact ⟨List.mem_of_getElem? (i := 116) (by decide +kernel), List.mem_of_getElem? (i := 117) (by decide +kernel)⟩
  · exact ⟨List.mem_of_getElem? (i := 13) (by decide +kernel), List.mem_of_getElem? (i := 14) (by decide +kernel)⟩
def dgO (n : Nat) : Nat := if n = 480 then 118 else 15
set_option maxRecDepth 100000 in
theorem nf_d3a : ∀ j, j < 100 → nfl[dgO 480 + j]? = some (Cond.eq (.elem (tDg 480) (.int (Int32.ofNat j))) (.int (dgt 480 j))) := by decide +kernel
set_option maxRecDepth 100000 in
theorem nf_d3b : ∀ j, j < 100 → nfl[dgO 481 + j]? = some (Cond.eq (.elem (tDg 481) (.int (Int32.ofNat j))) (.int (dgt 481 j))) := by decide +kernel
theorem nf_d3 {n : Nat} (hn : n = 480 ∨ n = 481) {j : Nat} (hj : j < 100) : Cond.eq (.elem (tDg n) (.int (Int32.ofNat j))) (.int (dgt n j)) ∈ nfl := by
  rcases hn with rfl | rfl
  · exact List.mem_of_getElem? (nf_d3a j hj)
  · exact List.mem_of_getElem? (nf_d3b j hj)
set_option maxRecDepth 100000 in
theorem tb_t : ∀ j, j < 25 → Cond.laysStatic "ReplayBooth$Token" (tokNm.getD j "") "LReplayBooth$Token;" ∈ lw_tbl := by decide +kernel
set_option maxRecDepth 100000 in
theorem tb_s : ∀ i, i < 26 → Cond.stringRef RL (lsIx.getD i 0) (lsNm.getD i "") ∈ lw_tbl := by decide +kernel
set_option maxRecDepth 100000 in
theorem tb_l : Cond.laysStatic "ReplayBooth" "TOKENS" "[LReplayBooth$Token;" ∈ lw_tbl ∧ Cond.laysStatic "ReplayBooth$1" "$SwitchMap$ReplayBooth$Token" "[I" ∈ lw_tbl ∧ Cond.laysStatic "java/lang/String" "COMPACT_STRINGS" "Z" ∈ lw_tbl ∧ Cond.laysStatic "jdk/internal/util/Preconditions" "SIOOBE_FORMATTER" "Ljava/util/function/BiFunction;" ∈ lw_tbl ∧ Cond.laysStatic "java/lang/Integer" "DigitTens" "[B" ∈ lw_tbl ∧ Cond.laysStatic "java/lang/Integer" "DigitOnes" "[B" ∈ lw_tbl := by decide +kernel
set_option maxRecDepth 100000 in
theorem tb_i : Cond.initialized "ReplayBooth$Token" ∈ lw_tbl ∧ Cond.initialized "ReplayBooth" ∈ lw_tbl ∧ Cond.initialized "ReplayBooth$1" ∈ lw_tbl ∧ Cond.initialized "java/lang/String" ∈ lw_tbl ∧ Cond.initialized "jdk/internal/util/Preconditions" ∈ lw_tbl ∧ Cond.initialized "java/lang/Integer" ∈ lw_tbl := by decide +kernel
set_option maxRecDepth 100000 in
theorem tb_x : Cond.fieldLinkNest "ReplayBooth$Token" 116 "ReplayBooth" "TOKENS" "[LReplayBooth$Token;" "ReplayBooth" ∈ lw_tbl := by decide +kernel
theorem ev_ex {A : Array Value} {s : State} {t : Term} {nm : String} (h : (Cond.exactly t nm).before A s = true) : ∃ a, t.eval A s none [] s = some (.ref a) := by
  obtain ⟨a, c, cA, kA, q1, -⟩ := Cond.exactly_spec (args := A) (first := s) (o := none) (s := s) (idx := []) (t := t) (cls := nm) h
  exact ⟨a, q1⟩
theorem ch_ex {P : Nat → Nat → Prop} {N : Nat} (h : ∀ i, i < N → ∃ t, P i t) : ∃ f : Nat → Nat, ∀ i, i < N → P i (f i) := by
  have h0 : ∀ i, ∃ t, i < N → P i t := by
    intro i
    by_cases hi : i < N
    · obtain ⟨t, ht⟩ := h i hi
      exact ⟨t, fun _ => ht⟩
    · exact ⟨0, fun q => absurd q hi⟩
  exact ⟨fun i => Classical.choose (h0 i), fun i => Classical.choose_spec (h0 i)⟩
set_option maxHeartbeats 1000000 in
theorem start_A {A : Array Value} {s : State} (b : Addr) (hts : ∀ w ∈ lw_tbl, w.before A s = true) (hn : ∀ w ∈ nfl, w.before A s = true) : ∃ ad : Nat → Nat, ad 61 = b ∧ (∀ i, 0 < i → i < 26 → ad i < s.heap.size) ∧ (∀ i j, 0 < i → i < 26 → 0 < j → j < 26 → ad i = ad j → i = j) ∧
    ∀ (D : va_G) (Y : Nat → ClassId) (P : Bool), KTok (s, s.heap.size, D, Y, ad, P) := by
  have hA : ∀ a : Nat, a < s.heap.size → ¬ (fun q : Nat => s.heap.size ≤ q) a := fun a h => Nat.not_le.mpr h
  obtain ⟨tk, htk⟩ := ch_ex (N := 25) (P := fun j t => (tTk j).eval A s none [] s = some (.ref t)) (fun j hj => ev_ex (hn _ (nf_t1 j hj)))
  obtain ⟨tT, htT, vT⟩ := va_Tof (tm := tTS) (ty := .object "ReplayBooth$Token") (N := 25) (f := fun i => .ref (tk i)) (A := fun q : Nat => s.heap.size ≤ q) (by decide) (hn _ nf_T1.1) (va_eqt (hn _ nf_T1.2)) (fun j hj => va_eqv (hn _ (nf_T3 j hj)) (htk j hj)) hA
  obtain ⟨tS, htS, vS⟩ := va_Tof (tm := tSW) (ty := .int) (N := 25) (f := fun i => .int (swm i)) (A := fun q : Nat => s.heap.size ≤ q) (by decide) (hn _ nf_S1.1) (va_eqt (hn _ nf_S1.2)) (fun j hj => va_eqt (hn _ (nf_S3 j hj))) hA
  obtain ⟨sk, hsk⟩ := ch_ex (N := 26) (P := fun i t => (tSt i).eval A s none [] s = some (.ref t)) (fun i hi => ev_ex (hn _ (nf_s1 i hi).1))
  obtain ⟨sb, hsb⟩ := ch_ex (N := 26) (P := fun i t => (tSv i).eval A s none [] s = some (.ref t) ∧ va_T .byte t (lsL.getD i 0) (fun j => .int ((lsBy.getD i []).getD j 0)) (fun q : Nat => s.heap.size ≤ q) s s.heap) (fun i hi => by
    have hl : lsL.getD i 0 < 2 ^ 31 := (by decide : ∀ i, i < 26 → lsL.getD i 0 < 2 ^ 31) i hi
    exact va_Tof hl (hn _ (nf_s1 i hi).2.2.1) (va_eqt (hn _ (nf_s1 i hi).2.2.2)) (fun j hj => va_eqt (hn _ (nf_s3 i hi j hj))) hA)
  obtain ⟨fm, hfm⟩ : ∃ fm : Nat, va_Z "jdk/internal/util/Preconditions" "SIOOBE_FORMATTER" "Ljava/util/function/BiFunction;" (va_rf (if fm = 0 then none else some (fm - 1))) (fun q : Nat => s.heap.size ≤ q) s s.heap := by
    rcases va_Zqof (hts _ tb_l.2.2.2.1) (hts _ tb_i.2.2.2.2.1) (hn _ nf_o.2) hA with h | ⟨t, h⟩
    · exact ⟨0, h⟩
    · exact ⟨t + 1, h⟩
  obtain ⟨d0, hd0, vd0⟩ := va_Tof (tm := tDg 480) (ty := .byte) (N := 100) (f := fun j => .int (dgt 480 j)) (A := fun q : Nat => s.heap.size ≤ q) (by decide) (hn _ (nf_d1 480 (by omega) (by omega)).1) (va_eqt (hn _ (nf_d1 480 (by omega) (by omega)).2)) (fun j hj => va_eqt (hn _ (nf_d3 (Or.inl rfl) hj))) hA
  obtain ⟨d1, hd1, vd1⟩ := va_Tof (tm := tDg 481) (ty := .byte) (N := 100) (f := fun j => .int (dgt 481 j)) (A := fun q : Nat => s.heap.size ≤ q) (by decide) (hn _ (nf_d1 481 (by omega) (by omega)).1) (va_eqt (hn _ (nf_d1 481 (by omega) (by omega)).2)) (fun j hj => va_eqt (hn _ (nf_d3 (Or.inr rfl) hj))) hA
  obtain ⟨ad, e1, e26, e27, e28, e44, e60, e61, e480, e481⟩ : ∃ ad : Nat → Nat, (∀ j, j < 25 → ad (j + 1) = tk j) ∧ ad 26 = tT ∧ ad 27 = tS ∧ (∀ i, i < 26 → ad (400 + i) = sk i) ∧ (∀ i, i < 26 → ad (450 + i) = sb i) ∧ ad 60 = fm ∧ ad 61 = b ∧ ad 480 = d0 ∧ ad 481 = d1 := by
    refine ⟨fun n => if n < 26 then tk (n - 1) else if n = 26 then tT else if n = 27 then tS else if n = 60 then fm else if n < 400 then b else if n < 450 then sk (n - 400) else if n < 480 then sb (n - 450) else if n = 480 then d0 else d1, fun j hj => ?_, rfl, rfl, fun i hi => ?_, fun i hi => ?_, rfl, rfl, rfl, rfl⟩
    · show (if j + 1 < 26 then tk (j + 1 - 1) else _) = tk j
      rw [if_pos (by omega), Nat.add_sub_cancel]
    · show (if 400 + i < 26 then _ else if 400 + i = 26 then _ else if 400 + i = 27 then _ else if 400 + i = 60 then _ else if 400 + i < 400 then _ else if 400 + i < 450 then sk (400 + i - 400) else _) = sk i
      rw [if_neg (by omega), if_neg (by omega), if_neg (by omega), if_neg (by omega), if_neg (by omega), if_pos (by omega), Nat.add_sub_cancel_left]
    · show (if 450 + i < 26 then _ else if 450 + i = 26 then _ else if 450 + i = 27 then _ else if 450 + i = 60 then _ else if 450 + i < 400 then _ else if 450 + i < 450 then _ else if 450 + i < 480 then sb (450 + i - 450) else _) = sb i
      rw [if_neg (by omega), if_neg (by omega), if_neg (by omega), if_neg (by omega), if_neg (by omega), if_neg (by omega), if_pos (by omega), Nat.add_sub_cancel_left]
  have hO : ∀ j, j < 25 → va_O "ReplayBooth$Token" (tk j) (fun q : Nat => s.heap.size ≤ q) s s.heap := fun j hj => va_Oof (hn _ (nf_t1 j hj)) (htk j hj) hA
  have hf : ∀ j, j < 25 → s.fieldOf? (tk j) "java/lang/Enum" "ordinal" "I" = some (.int (Int32.ofNat j)) := fun j hj => (va_fe (htk j hj)).symm.trans (va_eqt (hn _ (nf_t2 j hj)))
  refine ⟨ad, e61, fun i h0 h1 => ?_, fun i j h0 h1 h2 h3 h => ?_, fun D Y P => ⟨fun j hj => ⟨?_, ?_, ?_, ?_⟩, ?_, ?_, ?_, ?_, fun i hi => ⟨?_, ?_, ?_, ?_, ?_⟩, ?_, ?_, ?_, fun n hn => ?_⟩⟩
  · obtain ⟨cell, q1, -⟩ := hO (i - 1) (by omega)
    have e := e1 (i - 1) (by omega)
    rw [show i - 1 + 1 = i by omega] at e
    rw [e]
    exact (Array.getElem?_eq_some_iff.mp q1).1
  · have ei := e1 (i - 1) (by omega)
    have ej := e1 (j - 1) (by omega)
    rw [show i - 1 + 1 = i by omega] at ei
    rw [show j - 1 + 1 = j by omega] at ej
    have hi := hf (i - 1) (by omega)
    have hj := hf (j - 1) (by omega)
    rw [← ei, h, ej] at hi
    have q := Value.int.inj (Option.some.inj (hi.symm.trans hj))
    have q2 := inj_nI (a := i - 1) (b := j - 1) (by omega) (by omega) q
    omega
  · show va_Z "ReplayBooth$Token" (tokNm.getD j "") "LReplayBooth$Token;" (.ref (ad (j + 1))) (fun q : Nat => s.heap.size ≤ q) s s.heap
    rw [e1 j hj]
    exact va_Zref (hts _ (tb_t j hj)) (hts _ tb_i.1) (htk j hj) hA
  · show va_O "ReplayBooth$Token" (ad (j + 1)) (fun q : Nat => s.heap.size ≤ q) s s.heap
    rw [e1 j hj]
    exact hO j hj
  · show va_OF "java/lang/Enum" "ordinal" "I" (.int (Int32.ofNat j)) (ad (j + 1)) (fun q : Nat => s.heap.size ≤ q) s s.heap
    rw [e1 j hj]
    exact vk_OFof (htk j hj) (va_eqt (hn _ (nf_t2 j hj))) hA
  · show va_OF "ReplayBooth$Token" "code" "I" (.int (tokCode (j + 1))) (ad (j + 1)) (fun q : Nat => s.heap.size ≤ q) s s.heap
    rw [e1 j hj]
    exact vk_OFof (htk j hj) (va_eqt (hn _ (nf_t3 j hj))) hA
  · show va_Z "ReplayBooth" "TOKENS" "[LReplayBooth$Token;" (.ref (ad 26)) (fun q : Nat => s.heap.size ≤ q) s s.heap
    rw [e26]
    exact va_Zref (hts _ tb_l.1) (hts _ tb_i.2.1) htT hA
  · show va_T (.object "ReplayBooth$Token") (ad 26) 25 (fun i => .ref (ad (i + 1))) (fun q : Nat => s.heap.size ≤ q) s s.heap
    rw [e26]
    obtain ⟨cell, q1, q2, q3, q4, q5, q6, q7⟩ := vT
    exact ⟨cell, q1, q2, q3, q4, q5, fun j hj => by
      rw [q6 j hj]
      show some (Value.ref (tk j)) = some (Value.ref (ad (j + 1)))
      rw [e1 j hj], q7⟩
  · show va_Z "ReplayBooth$1" "$SwitchMap$ReplayBooth$Token" "[I" (.ref (ad 27)) (fun q : Nat => s.heap.size ≤ q) s s.heap
    rw [e27]
    exact va_Zref (hts _ tb_l.2.1) (hts _ tb_i.2.2.1) htS hA
  · show va_T .int (ad 27) 25 (fun i => .int (swm i)) (fun q : Nat => s.heap.size ≤ q) s s.heap
    rw [e27]
    exact vS
  · show vk_R RL (lsIx.getD i 0) (lsNm.getD i "") (ad (400 + i)) s
    rw [e28 i hi]
    exact vk_R.of (hts _ (tb_s i hi)) (hsk i hi)
  · show va_O "java/lang/String" (ad (400 + i)) (fun q : Nat => s.heap.size ≤ q) s s.heap
    rw [e28 i hi]
    exact va_Oof (hn _ (nf_s1 i hi).1) (hsk i hi) hA
  · show va_OF "java/lang/String" "coder" "B" (.int 0) (ad (400 + i)) (fun q : Nat => s.heap.size ≤ q) s s.heap
    rw [e28 i hi]
    exact vk_OFof (hsk i hi) (va_eqt (hn _ (nf_s1 i hi).2.1)) hA
  · show va_OF "java/lang/String" "value" "[B" (.ref (ad (450 + i))) (ad (400 + i)) (fun q : Nat => s.heap.size ≤ q) s s.heap
    rw [e28 i hi, e44 i hi]
    exact vk_OFof (hsk i hi) (hsb i hi).1 hA
  · show va_T .byte (ad (450 + i)) (lsL.getD i 0) (fun j => .int ((lsBy.getD i []).getD j 0)) (fun q : Nat => s.heap.size ≤ q) s s.heap
    rw [e44 i hi]
    exact (hsb i hi).2
  · exact va_Zof (hts _ tb_l.2.2.1) (hts _ tb_i.2.2.2.1) (va_eqi (hn _ nf_o.1)) hA
  · show va_Z "jdk/internal/util/Preconditions" "SIOOBE_FORMATTER" "Ljava/util/function/BiFunction;" (va_rf (if ad 60 = 0 then none else some (ad 60 - 1))) (fun q : Nat => s.heap.size ≤ q) s s.heap
    rw [e60]
    exact hfm
  · exact va_Nw.of rfl (hts _ tb_x)
  · rcases hn with rfl | rfl
    · show va_Z "java/lang/Integer" (dgN 480) "[B" (.ref (ad 480)) (fun q : Nat => s.heap.size ≤ q) s s.heap ∧ va_T .byte (ad 480) 100 (fun j => .int (dgt 480 j)) (fun q : Nat => s.heap.size ≤ q) s s.heap
      rw [e480]
      exact ⟨va_Zref (hts _ tb_l.2.2.2.2.1) (hts _ tb_i.2.2.2.2.2) hd0 hA, vd0⟩
    · show va_Z "java/lang/Integer" (dgN 481) "[B" (.ref (ad 481)) (fun q : Nat => s.heap.size ≤ q) s s.heap ∧ va_T .byte (ad 481) 100 (fun j => .int (dgt 481 j)) (fun q : Nat => s.heap.size ≤ q) s s.heap
      rw [e481]
      exact ⟨va_Zref (hts _ tb_l.2.2.2.2.2) (hts _ tb_i.2.2.2.2.2) hd1 hA, vd1⟩
/-! the classes -/
theorem inG_J4 : ∀ w ∈ wsJ40, w ∈ tblG := fun w hw => List.mem_filter.mpr ⟨(by decide +kernel : ∀ w ∈ wsJ40, w ∈ lw_tbl) w hw, (by decide +kernel : ∀ w ∈ wsJ40, goodWord w = true) w hw⟩
theorem inG_J0 : ∀ w ∈ wsJ00, w ∈ tblG := fun w hw => List.mem_filter.mpr ⟨(by decide +kernel : ∀ w ∈ wsJ00, w ∈ lw_tbl) w hw, (by decide +kernel : ∀ w ∈ wsJ00, goodWord w = true) w hw⟩
theorem arr_prim {A : Array Value} {s : State} (ty : FieldType) (h : (Cond.arrayClass ty).before A s = true) : ∃ c, ArrOfT s c ty ∧ s.vm.findClass ("[" ++ ty.toString) = some c := by
  obtain ⟨c, k, comp, h1, h2, h3⟩ := Cond.arrayClass_spec (args := A) (first := s) (o := none) (s := s) (idx := []) h
  exact ⟨c, fun n z => ⟨fun k h => (by cases h), k, h2, comp, h3⟩, h1⟩
theorem arr_obj {A : Array Value} {s : State} (C : String) (h : (Cond.arrayOver (.object C)).before A s = true) : ∃ c, ArrOfT s c (.object C) ∧ va_RA s c (.object C) := by
  obtain ⟨comp, c, k, h1, -, h3, h4, h5⟩ := Cond.arrayOver_spec (args := A) (first := s) (o := none) (s := s) (idx := []) h
  exact ⟨c, fun n z => ⟨fun k h => (by cases h), k, h3, comp, h4⟩, k, comp, h3, h4, h1, h5⟩
set_option maxRecDepth 100000 in
theorem tb_ar : (Cond.arrayClass .int ∈ lw_tbl ∧ Cond.arrayClass .boolean ∈ lw_tbl ∧ Cond.arrayClass .byte ∈ lw_tbl) ∧ Cond.arrayOver (.object "ReplayBooth$Kind") ∈ lw_tbl ∧ Cond.arrayOver (.object "ReplayBooth$Board") ∈ lw_tbl ∧ Cond.arrayOver (.object "ReplayBooth$Play") ∈ lw_tbl ∧ Cond.arrayOver (.object "ReplayBooth$Day") ∈ lw_tbl ∧ Cond.arrayOver (.object "ReplayBooth$Token") ∈ lw_tbl := by decide +kernel
theorem start_Y {A : Array Value} {s : State} (hts : ∀ w ∈ lw_tbl, w.before A s = true) : ∃ Y : Nat → ClassId, ∀ (D : va_G) (ad : Nat → Nat) (P : Bool) (k : Nat) (q : ClassId × FieldType), (tysK (s, s.heap.size, D, Y, ad, P))[k]? = some q → ArrOfT s q.1 q.2 ∧ va_RA s q.1 q.2 := by
  obtain ⟨⟨a0, a1, a2⟩, a4, a5, a6, a7, a8⟩ := tb_ar
  obtain ⟨c0, h0⟩ := arr_prim .int (hts _ a0)
  obtain ⟨c1, h1⟩ := arr_prim .boolean (hts _ a1)
  obtain ⟨c2, h2⟩ := arr_prim .byte (hts _ a2)
  obtain ⟨c3, h3⟩ := arr_prim .int (hts _ a0)
  obtain ⟨c4, h4⟩ := arr_obj _ (hts _ a4)
  obtain ⟨c5, h5⟩ := arr_obj _ (hts _ a5)
  obtain ⟨c6, h6⟩ := arr_obj _ (hts _ a6)
  obtain ⟨c7, h7⟩ := arr_obj _ (hts _ a7)
  obtain ⟨c8, h8⟩ := arr_obj _ (hts _ a8)
  refine ⟨fun k => [c0, c1, c2, c3, c4, c5, c6, c7, c8].getD k c0, fun D ad P k q hq => ?_⟩
  rcases (show k = 0 ∨ k = 1 ∨ k = 2 ∨ k = 3 ∨ k = 4 ∨ k = 5 ∨ k = 6 ∨ k = 7 ∨ k = 8 ∨ 9 ≤ k by omega) with rfl | rfl | rfl | rfl | rfl | rfl | rfl | rfl | rfl | hk
  · cases hq; exact h0
  · cases hq; exact h1
  · cases hq; exact h2
  · cases hq; exact h3
  · cases hq; exact h4
  · cases hq; exact h5
  · cases hq; exact h6
  · cases hq; exact h7
  · cases hq; exact h8
  · have e : (tysK (s, s.heap.size, D, (fun k => [c0, c1, c2, c3, c4, c5, c6, c7, c8].getD k c0), ad, P)).length = 9 := rfl
    rw [List.getElem?_eq_none (by rw [e]; exact hk)] at hq
    cases hq
set_option maxRecDepth 100000 in
theorem tb_in : Cond.instantiable RX1 3 ∈ lw_tbl ∧ Cond.instantiable RX2 2 ∈ lw_tbl ∧ Cond.instantiable RX3 10 ∈ lw_tbl ∧ Cond.instantiable RX4 4 ∈ lw_tbl ∧ Cond.instantiable RX5 6 ∈ lw_tbl ∧ Cond.instantiable RX6 12 ∈ lw_tbl ∧ Cond.instantiable RX7 14 ∈ lw_tbl ∧ Cond.instantiable RX9 14 ∈ lw_tbl ∧ Cond.instantiable RX10 14 ∈ lw_tbl ∧ Cond.instantiable RJ0 4 ∈ lw_tbl ∧ Cond.instantiable RJ4 4 ∈ lw_tbl := by decide +kernel
theorem start_D {A : Array Value} {s : State} (hts : ∀ w ∈ lw_tbl, w.before A s = true) : ∃ D : va_G, ∀ (c : Nat) (q : vw_C), vcl[c]? = some q → u_Kn s q.1 q.2.1 q.2.2 (D.1 c) (D.2 c) := by
  obtain ⟨n1, n2, n3, n4, n5, n6, n7, n9, n10, n11, n12⟩ := tb_in
  have hg : ∀ w ∈ tblG, w.before A s = true := fun w hw => hts w (List.mem_filter.mp hw).1
  have h : ∀ c : Nat, ∃ cd : ClassId × (Nat → Nat), ∀ q : vw_C, vcl[c]? = some q → u_Kn s q.1 q.2.1 q.2.2 cd.1 cd.2 := by
    intro c
    rcases (show c = 0 ∨ c = 1 ∨ c = 2 ∨ c = 3 ∨ c = 4 ∨ c = 5 ∨ c = 6 ∨ c = 7 ∨ c = 8 ∨ c = 9 ∨ c = 10 ∨ 11 ≤ c by omega) with rfl | rfl | rfl | rfl | rfl | rfl | rfl | rfl | rfl | rfl | rfl | hc
    · obtain ⟨cC, iS, h⟩ := u_known (C := RX1) (T := TX1) (N := 3) hg inG_X1 (hts _ n1); exact ⟨(cC, iS), fun q hq => by cases hq; exact h⟩
    · obtain ⟨cC, iS, h⟩ := u_known (C := RX2) (T := TX2) (N := 2) hg inG_X2 (hts _ n2); exact ⟨(cC, iS), fun q hq => by cases hq; exact h⟩
    · obtain ⟨cC, iS, h⟩ := u_known (C := RX3) (T := TX3) (N := 10) hg inG_X3 (hts _ n3); exact ⟨(cC, iS), fun q hq => by cases hq; exact h⟩
    · obtain ⟨cC, iS, h⟩ := u_known (C := RX4) (T := TX4) (N := 4) hg inG_X4 (hts _ n4); exact ⟨(cC, iS), fun q hq => by cases hq; exact h⟩
    · obtain ⟨cC, iS, h⟩ := u_known (C := RX5) (T := TX5) (N := 6) hg inG_X5 (hts _ n5); exact ⟨(cC, iS), fun q hq => by cases hq; exact h⟩
    · obtain ⟨cC, iS, h⟩ := u_known (C := RX6) (T := TX6) (N := 12) hg inG_X6 (hts _ n6); exact ⟨(cC, iS), fun q hq => by cases hq; exact h⟩
    · obtain ⟨cC, iS, h⟩ := u_known (C := RX7) (T := TX7) (N := 14) hg inG_X7 (hts _ n7); exact ⟨(cC, iS), fun q hq => by cases hq; exact h⟩
    · obtain ⟨cC, iS, h⟩ := u_known (C := RX9) (T := TX9) (N := 14) hg inG_X9 (hts _ n9); exact ⟨(cC, iS), fun q hq => by cases hq; exact h⟩
    · obtain ⟨cC, iS, h⟩ := u_known (C := RX10) (T := TX10) (N := 14) hg inG_X10 (hts _ n10); exact ⟨(cC, iS), fun q hq => by cases hq; exact h⟩
    · obtain ⟨cC, iS, h⟩ := u_known (C := RJ0) (T := TJ0) (N := 4) hg inG_J0 (hts _ n11); exact ⟨(cC, iS), fun q hq => by cases hq; exact h⟩
    · obtain ⟨cC, iS, h⟩ := u_known (C := RJ4) (T := TJ4) (N := 4) hg inG_J4 (hts _ n12); exact ⟨(cC, iS), fun q hq => by cases hq; exact h⟩
    · obtain ⟨cC, iS, h⟩ := u_known (C := RX1) (T := TX1) (N := 3) hg inG_X1 (hts _ n1)
      refine ⟨(cC, iS), fun q hq => ?_⟩
      have e : vcl.length = 11 := rfl
      rw [List.getElem?_eq_none (by rw [e]; exact hc)] at hq
      cases hq
  exact ⟨(fun c => (Classical.choose (h c)).1, fun c => (Classical.choose (h c)).2), fun c q hq => Classical.choose_spec (h c) q hq⟩
