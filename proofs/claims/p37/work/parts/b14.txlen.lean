/-! THE LAW'S TEXT: how long it is, its bytes; what it tells (p37) -/
theorem pcBy_lt {p : Pce} (h : pcOk p) : ∀ b, b ∈ pcBy p → b < 128 := by
  have lt : ∀ b, ltr b = true → b < 128 := fun b h => by
    unfold ltr at h
    rw [Bool.and_eq_true, decide_eq_true_eq, decide_eq_true_eq] at h
    omega
  cases p with
  | inl l =>
    intro b hb
    obtain ⟨i, hi⟩ := List.getElem?_of_mem hb
    have hi2 : l[i]? = some b := hi
    have il := (List.getElem?_eq_some_iff.mp hi2).1
    have := h.1 i il
    rw [List.getD_eq_getElem?_getD, hi2] at this
    exact lt b this
  | inr q =>
   cases q with
   | inl v =>
    intro b hb
    have hb' : b ∈ dec v := hb
    have hv : v < 1000 := h
    unfold dec at hb'
    split at hb'
    · have : b = 48 + v := by simpa using hb'
      omega
    · split at hb'
      · have : b = 48 + v / 10 ∨ b = 48 + v % 10 := by simpa using hb'
        omega
      · have : b = 48 + v / 100 ∨ b = 48 + v / 10 % 10 ∨ b = 48 + v % 10 := by simpa using hb'
        omega
   | inr c =>
    intro b hb
    have : b = c := by simpa [pcBy] using hb
    rw [this]
    exact h.2.2.2
theorem byP_lt : ∀ l, okP l → ∀ b, b ∈ byP l → b < 128
  | [], _, b, h => absurd h (by simp [byP])
  | x :: r, h, b, hb => by
    have hb' : b ∈ (if x.1 then [32] else []) ++ (pcBy x.2 ++ byP r) := hb
    rcases List.mem_append.mp hb' with q | q
    · split at q
      · have : b = 32 := by simpa using q
        omega
      · exact absurd q (by simp)
    · rcases List.mem_append.mp q with q | q
      · exact pcBy_lt h.1 b q
      · exact byP_lt r h.2.2 b q
theorem ln_t (p : Pce) (r : List Pcb) : (byP ((true, p) :: r)).length = 1 + ((pcBy p).length + (byP r).length) := by
  show ([32] ++ (pcBy p ++ byP r)).length = _
  rw [List.length_append, List.length_append]
  rfl
theorem ln_f (p : Pce) (r : List Pcb) : (byP ((false, p) :: r)).length = (pcBy p).length + (byP r).length := by
  show ([] ++ (pcBy p ++ byP r)).length = _
  rw [List.nil_append, List.length_append]
theorem ln_a (a b : List Pcb) : (byP (a ++ b)).length = (byP a).length + (byP b).length := by rw [byP_app, List.length_append]
theorem ln_sc : (byP [scP]).length = 1 := rfl
theorem ln_n : (byP []).length = 0 := rfl
theorem dl1 {v : Nat} (h : v < 10) : (pcBy (dP v)).length = 1 := by
  show (dec v).length = 1
  unfold dec
  rw [if_pos h]
  rfl
theorem dl2 {v : Nat} (h : v < 100) : (pcBy (dP v)).length ≤ 2 := by
  show (dec v).length ≤ 2
  unfold dec
  split
  · exact Nat.le_succ 1
  · exact Nat.le_refl 2
theorem dl3 {v : Nat} : (pcBy (dP v)).length ≤ 3 := by
  show (dec v).length ≤ 3
  unfold dec
  split
  · show 1 ≤ 3; omega
  · split
    · show 2 ≤ 3; omega
    · show 3 ≤ 3; omega
section LEN
variable {sm : Nat → Nat → Nat}
theorem camP_ln (hs : SmO sm) (c : Nat) : (byP (camP sm c)).length ≤ 14 := by
  have h1 := hs c 3 (by omega)
  have h2 := hs (3 + c) 4 (by omega)
  have a := dl1 (v := sca sm c) (by unfold sca; omega)
  have b := dl1 (v := scb sm c) (by unfold scb; omega)
  unfold camP camQ
  rw [ln_a, ln_f, ln_t, ln_t, ln_t, ln_sc, ln_n, a, b]
  show 6 + (1 + (2 + _)) + 1 ≤ 14
  omega
theorem flaP_ln (hs : SmO sm) (k : Nat) : (byP (flaP sm k)).length ≤ 18 := by
  have h1 := hs (9 + k) 4 (by omega)
  have h2 := hs (13 + k) 4 (by omega)
  have a := dl2 (v := sfx sm k) (by unfold sfx; omega)
  have b := dl2 (v := sfy sm k) (by unfold sfy; omega)
  unfold flaP flaQ
  rw [ln_a, ln_f, ln_t, ln_t, ln_t, ln_t, ln_sc, ln_n]
  show 5 + (1 + (2 + (1 + (_ + (1 + (2 + (1 + (_ + 0)))))))) + 1 ≤ 18
  omega
theorem sidP_ln (hs : SmO sm) (k : Nat) : (byP (sidP sm k)).length ≤ 10 := by
  have h1 := hs (15 + k) 3 (by omega)
  have a := dl1 (v := ssv sm k) (by unfold ssv; omega)
  unfold sidP sidQ
  rw [ln_a, ln_f, ln_t, ln_t, ln_sc, ln_n, a]
  show 4 + (1 + (2 + (1 + (1 + 0)))) + 1 ≤ 10
  omega
theorem mayP_ln (b : Bool) (l : List Nat) : (byP (mayP b l)).length ≤ 1 + l.length := by
  cases b with
  | true => show (byP [(true, wP l)]).length ≤ _; rw [ln_t, ln_n]; exact Nat.le_refl _
  | false => exact Nat.zero_le _
theorem kinP_ln (hs : SmO sm) (k : Nat) : (byP (kinP sm k)).length ≤ 50 := by
  have h1 := hs (19 + k) 40 (by omega)
  obtain ⟨h2, h3, -, h4⟩ := s_kpr hs (k := k)
  have a := dl2 (v := sks sm k) (by unfold sks; omega)
  have b := dl1 (v := skf sm k) (by omega)
  have c := dl1 (v := skg sm k) (by omega)
  have d := dl1 (v := 1 + sm (29 + k) 2) (by omega)
  have e := mayP_ln (sfo sm k) [102, 111, 114, 99, 101, 100]
  have f := mayP_ln (sag sm k) [97, 103, 97, 105, 110]
  have e' : (byP (mayP (sfo sm k) [102, 111, 114, 99, 101, 100])).length ≤ 7 := e
  have f' : (byP (mayP (sag sm k) [97, 103, 97, 105, 110])).length ≤ 6 := f
  have g : (byP (kp3 sm k)).length ≤ 15 := by
    unfold kp3
    split
    · rw [ln_t, ln_t, ln_t, ln_t, ln_n, d]
      show 1 + (3 + (1 + (1 + (1 + (6 + (1 + (1 + 0))))))) ≤ 15
      omega
    · exact Nat.zero_le _
  have h : (byP (kp1 sm k)).length ≤ 10 := by
    unfold kp1
    rw [ln_f, ln_t, ln_t, ln_n]
    show 4 + (1 + (2 + (1 + (_ + 0)))) ≤ 10
    omega
  have i : (byP (kp2 sm k)).length ≤ 11 := by
    unfold kp2
    rw [ln_t, ln_t, ln_t, ln_n, b, c]
    show 1 + (1 + (1 + (6 + (1 + (1 + 0))))) ≤ 11
    omega
  unfold kinP kinQ
  rw [ln_a, ln_a, ln_a, ln_a, ln_a, ln_sc]
  omega
theorem boaP_ln (hs : SmO sm) {b : Nat} (hb : b < 2) : (byP (boaP sm b)).length ≤ 35 := by
  have h1 := hs 31 2 (by omega)
  have h2 := hs 32 3 (by omega)
  have a := dl1 (v := sbn sm b) (by unfold sbn; split <;> omega)
  unfold boaP boaQ
  rw [ln_a, ln_a, ln_f, ln_t, ln_t, ln_n, a, ln_sc]
  have e : (byP (if b = 0 then [(false, gP 40), (false, namP 0), (false, gP 41), (false, gP 40), (false, namP 1), (false, gP 41), (false, gP 40), (false, namP 2), (false, gP 41)] else
  [(false, gP 40), (false, namP 0), (true, namP 1), (false, gP 41), (false, gP 40), (false, namP 1), (true, namP 2), (false, gP 41), (false, gP 40), (false, namP 0), (true, namP 1), (true, namP 2), (false, gP 41)])).length ≤ 24 := by
    split
    · decide
    · decide
  show 5 + (1 + (2 + (1 + (1 + 0)))) + _ + 1 ≤ 35
  omega
theorem frmP_ln (hs : SmO sm) (p k : Nat) : (byP (frmP sm p k)).length ≤ 10 := by
  have h1 := hs (sat p k + 2) 9 (by omega)
  have h2 := hs (sat p k) 3 (by omega)
  have a := dl2 (v := 8 + sm (sat p k + 2) 9) (by omega)
  have b := dl1 (v := sm (sat p k) 3) (by omega)
  have c := dl1 (v := (sm (sat p k) 3 + 1) % 3) (by omega)
  have e : (byP (if sm (sat p k + 4) 2 = 0 then [(false, gP (sgn (sm (sat p k + 3) 3 == 0))), (false, dP ((sm (sat p k) 3 + 1) % 3))] else [])).length ≤ 2 := by
    split
    · rw [ln_f, ln_f, ln_n, c]; exact Nat.le_refl 2
    · exact Nat.zero_le _
  unfold frmP
  rw [ln_a, ln_t, ln_t, ln_f, ln_f, ln_n, b]
  show 1 + (2 + (1 + (_ + (1 + (1 + 0))))) + _ ≤ 10
  omega
theorem plyP_ln (hs : SmO sm) {p : Nat} (hp : p < snp sm) : (byP (plyP sm p)).length ≤ 62 := by
  obtain ⟨h1, h2, h3, h4, -⟩ := s_c9 hs p hp
  have m := smi_le hs (p + 1)
  have n := s_c7 hs
  have q := hs (52 + p) 8 (by omega)
  have r := hs (64 + p) 5 (by omega)
  have a := dl1 (v := spm sm p) (by unfold spm; omega)
  have b := dl1 (v := spp sm p) (by unfold spp; omega)
  have e := gpP_len (P := frmP sm p) (L := 10) (sfn sm p) 0 (fun j _ _ => frmP_ln hs p j)
  have f : sfn sm p ≤ 4 := by unfold sfn; omega
  have y : (pcBy (wP (if spy sm p then [121, 101, 115] else [110, 111]))).length ≤ 3 := by
    show (if spy sm p then [121, 101, 115] else [110, 111] : List Nat).length ≤ 3
    split <;> decide
  unfold plyP plyQ plyH
  rw [ln_a, ln_a, ln_f, ln_t, ln_t, ln_t, ln_t, ln_t, ln_t, ln_n, a, b, ln_sc]
  show 4 + (1 + (2 + (1 + (1 + (1 + (2 + (1 + (2 + (1 + (1 + (1 + (_ + 0)))))))))))) + _ + 1 ≤ 62
  omega
theorem rulP_ln (hs : SmO sm) (x : Nat) : (byP (rulP sm x)).length ≤ 11 := by
  have h1 := hs 180 100 (by omega)
  have h2 := hs 181 3 (by omega)
  have h3 := hs 182 12 (by omega)
  have h4 := hs 183 3 (by omega)
  unfold rulP rulQ
  rw [ln_a, ln_f, ln_t, ln_n, ln_sc]
  have a := dl3 (v := srv sm x)
  have w : (pcBy (wP (rulW x))).length ≤ 6 := by
    show (rulW x).length ≤ 6
    unfold rulW
    split
    · decide
    · split
      · decide
      · split <;> decide
  omega
theorem txt_ln (hs : SmO sm) : (txt sm).length ≤ 562 := by
  have n := s_c7 hs
  have f := hs 6 3 (by omega)
  have f' : snf sm ≤ 2 := by unfold snf; omega
  have h1 := gpP_len (P := camP sm) (L := 14) 3 0 (fun j _ _ => camP_ln hs j)
  have h2 := gpP_len (P := flaP sm) (L := 18) (snf sm) 0 (fun j _ _ => flaP_ln hs j)
  have h3 := gpP_len (P := sidP sm) (L := 10) 2 0 (fun j _ _ => sidP_ln hs j)
  have h4 := gpP_len (P := kinP sm) (L := 50) 2 0 (fun j _ _ => kinP_ln hs j)
  have h5 := gpP_len (P := boaP sm) (L := 35) 2 0 (fun j _ h => boaP_ln hs (by omega))
  have h6 := gpP_len (P := plyP sm) (L := 62) (snp sm) 0 (fun j _ h => plyP_ln hs (by omega))
  have h7 := gpP_len (P := rulP sm) (L := 11) 4 0 (fun j _ _ => rulP_ln hs j)
  unfold txt txP
  rw [ln_a, ln_a, ln_a, ln_a, ln_a, ln_a, ln_a, ln_n]
  omega
theorem txt_lt (hs : SmO sm) : ∀ i, (txt sm).getD i 0 < 128 := fun i => by
  rw [List.getD_eq_getElem?_getD]
  cases h : (txt sm)[i]? with
  | none => show 0 < 128; omega
  | some b => exact byP_lt _ (txP_ok hs) b (List.mem_of_getElem? h)
/-- what the script's data, told, are in the reference's rows -/
def TolS (sm : Nat → Nat → Nat) (M : Mem) : Prop := TolD (sca sm) (scb sm) (snf sm) (sfa sm) (sfx sm) (sfb sm) (sfy sm) (skf sm) (skg sm) (skl sm) (snp sm) (spk sm) (spf sm) M
theorem txt_told (hs : SmO sm) {M : Mem} {t : Nat} {B : Nat → Nat} (ht : t ≤ 600) (hn : (txt sm).length ≤ t) (h2 : M.1 311 2 = nI t) (hB : ∀ k, k < t → B k < 256 ∧ M.1 312 k = sb (B k)) (hb : ∀ k, k < (txt sm).length → B k = (txt sm).getD k 0) :
    ∃ M', f_X11_text (nI (txt sm).length) M = some (nI (snp sm), M') ∧ TolS sm M' ∧ M'.2.2 = M.2.2 ∧ (∀ a k, (a < 311 ∨ 346 < a) → M'.1 a k = M.1 a k) ∧ ∀ a k, (a < 311 ∨ 346 < a) → M'.2.1 a k = M.2.1 a k := by
  refine text_r (py := spy sm) (fo := sfo sm) (ag := sag sm) (s_c1 hs) (s_c2 hs) (s_c3 hs) (s_c4 hs) (s_c5 hs) (s_c6 hs) (s_c7 hs).1 (s_c8) (s_c9 hs) (s_c10 hs) ht hn h2 hB ?_
  have f : Sfx (txt sm).length B 0 (byP (txP sm)) := ⟨by rw [Nat.zero_add]; rfl, fun i hi => by rw [Nat.zero_add]; exact hb i hi⟩
  have := lexP _ (txP_ok hs) _ _ _ (nxt_sk f (skP (txP_ok hs)))
  rw [txP_tk] at this
  exact this
end LEN
