/-! THE LAW'S TEXT: its tokens, its length, what it tells (p37) -/
section TOKS
variable {sm : Nat → Nat → Nat}
theorem pk_28 : pkw [99, 97, 109, 101, 114, 97] = scd 28 ∧ pkw [102, 108, 97, 115, 104] = scd 29 ∧ pkw [115, 105, 100, 101] = scd 30 ∧ pkw [107, 105, 110, 100] = scd 31 ∧ pkw [98, 111, 97, 114, 100] = scd 32 ∧ pkw [112, 108, 97, 121] = scd 33 ∧ (∀ x, x < 4 → pkw (rulW x) = scd (34 + x)) := by decide
theorem pk_38 : pkw [102, 111, 114, 99, 101, 100] = scd 38 ∧ pkw [97, 103, 97, 105, 110] = scd 39 ∧ pkw [97, 110, 100] = scd 40 ∧ pkw [98, 101, 102, 111, 114, 101] = scd 41 ∧ (∀ b : Bool, pkw (if b then [121, 101, 115] else [110, 111]) = scd (if b then 42 else 43)) := by decide
theorem pk_c (j : Nat) : pkw [99, 97 + j] = nmv 0 j ∧ pkw [115, 97 + j] = nmv 1 j ∧ pkw [107, 97 + j] = nmv 2 j ∧ pkw [98, 97 + j] = nmv 3 j ∧ pkw [112, 97 + j] = nmv 4 j := ⟨pk_nm _ _, pk_nm _ _, pk_nm _ _, pk_nm _ _, pk_nm _ _⟩
theorem tk_w (b : Bool) (l : List Nat) (r : List Pcb) : tkP ((b, wP l) :: r) = ((1 : Int32), (0 : Nat), pkw l) :: tkP r := rfl
theorem tk_d (b : Bool) (v : Nat) (r : List Pcb) : tkP ((b, dP v) :: r) = num v :: tkP r := rfl
theorem tk_sc : tkP [scP] = [semi] := rfl
theorem camP_tk (c : Nat) : tkP (camP sm c) = camTk (sca sm) (scb sm) c := by
  show ((1 : Int32), (0 : Nat), pkw [99, 97, 109, 101, 114, 97]) :: ((1 : Int32), (0 : Nat), pkw [99, 97 + c]) :: num (sca sm c) :: num (scb sm c) :: semi :: [] = _
  rw [pk_28.1, (pk_c c).1]
  rfl
theorem flaP_tk (k : Nat) : tkP (flaP sm k) = flTk (sfa sm) (sfx sm) (sfb sm) (sfy sm) k := by
  show ((1 : Int32), (0 : Nat), pkw [102, 108, 97, 115, 104]) :: ((1 : Int32), (0 : Nat), pkw [99, 97 + sfa sm k]) :: num (sfx sm k) :: ((1 : Int32), (0 : Nat), pkw [99, 97 + sfb sm k]) :: num (sfy sm k) :: semi :: [] = _
  rw [pk_28.2.1, (pk_c (sfa sm k)).1, (pk_c (sfb sm k)).1]
  rfl
theorem sidP_tk (k : Nat) : tkP (sidP sm k) = sdTk (ssv sm) k := by
  show ((1 : Int32), (0 : Nat), pkw [115, 105, 100, 101]) :: ((1 : Int32), (0 : Nat), pkw [115, 97 + k]) :: num (ssv sm k) :: semi :: [] = _
  rw [pk_28.2.2.1, (pk_c k).2.1]
  rfl
theorem mayP_tk {b : Bool} {l : List Nat} {s : Nat} (h : pkw l = scd s) : tkP (mayP b l) = mayT b s := by
  cases b with
  | true => show [((1 : Int32), (0 : Nat), pkw l)] = [((1 : Int32), (0 : Nat), scd s)]; rw [h]
  | false => rfl
theorem kp3_tk (k : Nat) : tkP (kp3 sm k) = prsT (skl sm k) := by
  unfold kp3 skl
  by_cases q : sm (27 + k) 3 = 0
  · rw [if_pos q, if_pos q]
    show ((1 : Int32), (0 : Nat), pkw [97, 110, 100]) :: num 0 :: ((1 : Int32), (0 : Nat), pkw [98, 101, 102, 111, 114, 101]) :: num (1 + sm (29 + k) 2) :: [] = _
    rw [pk_38.2.2.1, pk_38.2.2.2.1]
    rfl
  · rw [if_neg q, if_neg q]
    rfl
theorem kinP_tk (k : Nat) : tkP (kinP sm k) = kdTk (sks sm) (sfo sm) (sag sm) (skf sm) (skg sm) (skl sm) k := by
  unfold kinP kinQ
  rw [tkP_app, tkP_app, tkP_app, tkP_app, tkP_app, mayP_tk pk_38.1, mayP_tk pk_38.2.1, kp3_tk, tk_sc]
  show (((1 : Int32), (0 : Nat), pkw [107, 105, 110, 100]) :: ((1 : Int32), (0 : Nat), pkw [107, 97 + k]) :: num (sks sm k) :: []) ++ (mayT (sfo sm k) 38 ++ (mayT (sag sm k) 39 ++ ((num (skf sm k) :: ((1 : Int32), (0 : Nat), pkw [98, 101, 102, 111, 114, 101]) :: num (skg sm k) :: []) ++ prsT (skl sm k)))) ++ [semi] = _
  rw [pk_28.2.2.2.1, (pk_c k).2.2.1, pk_38.2.2.2.1]
  rfl
theorem boaP_tk (b : Nat) : tkP (boaP sm b) = bdTk (sbn sm) sbm b := by
  unfold boaP boaQ
  rw [tkP_app, tkP_app, tk_sc]
  have e : tkP (if b = 0 then [(false, gP 40), (false, namP 0), (false, gP 41), (false, gP 40), (false, namP 1), (false, gP 41), (false, gP 40), (false, namP 2), (false, gP 41)] else
  [(false, gP 40), (false, namP 0), (true, namP 1), (false, gP 41), (false, gP 40), (false, namP 1), (true, namP 2), (false, gP 41), (false, gP 40), (false, namP 0), (true, namP 1), (true, namP 2), (false, gP 41)]) = memsT (sbm b) := by
    unfold sbm
    split
    · decide
    · decide
  rw [e]
  show (((1 : Int32), (0 : Nat), pkw [98, 111, 97, 114, 100]) :: ((1 : Int32), (0 : Nat), pkw [98, 97 + b]) :: num (sbn sm b) :: []) ++ memsT (sbm b) ++ [semi] = _
  rw [pk_28.2.2.2.2.1, (pk_c b).2.2.2.1]
  rfl
theorem sgn_tk (b : Bool) : sgR (sgn b) = if b then (33 : Int32) else 63 := by cases b <;> decide
theorem frmP_tk (p k : Nat) : tkP (frmP sm p k) = frT (sfd sm p k) := by
  unfold frmP
  rw [tkP_app]
  have e : tkP (if sm (sat p k + 4) 2 = 0 then [(false, gP (sgn (sm (sat p k + 3) 3 == 0))), (false, dP ((sm (sat p k) 3 + 1) % 3))] else []) = mkT (if sm (sat p k + 4) 2 = 0 then [(sm (sat p k + 3) 3 == 0, (sm (sat p k) 3 + 1) % 3)] else []) := by
    split
    · show [(sgR (sgn (sm (sat p k + 3) 3 == 0)), (0 : Nat), (0 : Nat)), ((2 : Int32), (sm (sat p k) 3 + 1) % 3, (0 : Nat))] = _
      rw [sgn_tk]
      rfl
    · rfl
  rw [e]
  show (((1 : Int32), (0 : Nat), pkw [99, 97 + sm (sat p k + 1) 3]) :: num (8 + sm (sat p k + 2) 9) :: (sgR (sgn (sm (sat p k + 3) 2 == 0)), (0 : Nat), (0 : Nat)) :: num (sm (sat p k) 3) :: []) ++ _ = _
  rw [(pk_c _).1, sgn_tk]
  rfl
theorem frms_tk (p : Nat) : ∀ m i, tkP (gpP (frmP sm p) i m) = frsT (((List.range' i m)).map (sfd sm p))
  | 0, _ => rfl
  | m + 1, i => by
    show tkP (frmP sm p i ++ gpP (frmP sm p) (i + 1) m) = _
    rw [tkP_app, frmP_tk, frms_tk p m (i + 1)]
    rfl
theorem plyP_tk (p : Nat) : tkP (plyP sm p) = pyTk (spm sm) (spk sm) (sps sm) (spp sm) (spy sm) (spf sm) p := by
  unfold plyP plyQ
  rw [tkP_app, tkP_app, frms_tk, tk_sc]
  show (((1 : Int32), (0 : Nat), pkw [112, 108, 97, 121]) :: ((1 : Int32), (0 : Nat), pkw [112, 97 + p]) :: num (spm sm p) :: ((1 : Int32), (0 : Nat), pkw [107, 97 + spk sm p]) :: ((1 : Int32), (0 : Nat), pkw [115, 97 + sps sm p]) :: num (spp sm p) :: ((1 : Int32), (0 : Nat), pkw (if spy sm p then [121, 101, 115] else [110, 111])) :: []) ++ frsT _ ++ [semi] = _
  rw [pk_28.2.2.2.2.2.1, (pk_c p).2.2.2.2, (pk_c _).2.2.1, (pk_c _).2.1, pk_38.2.2.2.2, ← List.range_eq_range']
  rfl
theorem rulP_tk (x : Nat) (hx : x < 4) : tkP (rulP sm x) = rlTk (srv sm) x := by
  show ((1 : Int32), (0 : Nat), pkw (rulW x)) :: num (srv sm x) :: semi :: [] = _
  rw [pk_28.2.2.2.2.2.2 x hx]
  rfl
theorem txP_tk : tkP (txP sm) = txTk sm := by
  unfold txP txTk allTk
  rw [tkP_app, tkP_app, tkP_app, tkP_app, tkP_app, tkP_app, tkP_app, gpP_tk 3 0 (fun j _ _ => camP_tk j), gpP_tk _ 0 (fun j _ _ => flaP_tk j), gpP_tk 2 0 (fun j _ _ => sidP_tk j), gpP_tk 2 0 (fun j _ _ => kinP_tk j), gpP_tk 2 0 (fun j _ _ => boaP_tk j), gpP_tk _ 0 (fun j _ _ => plyP_tk j), gpP_tk 4 0 (fun j _ h => rulP_tk j (by omega))]
  rfl
end TOKS
