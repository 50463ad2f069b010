/-! the line, by its word -/
def narK (r : Int32) (M : Mem) : Option (Int32 × Mem) := gd (vp_nar .boolean r = r) (some (r, M))
theorem LRP.nar {n : Nat} {B : Nat → Nat} {T st : Nat} {rc : Option (Int32 × Mem)} {rr : Option Mem} {Mc Mr : Mem} (h : LRP n B T rc rr Mc Mr st) : cl rc narK = rc := by
  have k0 : ∀ M, narK 0 M = some (0, M) := fun M => gd_t nar_b.1
  have k1 : ∀ M, narK 1 M = some (1, M) := fun M => gd_t nar_b.2
  rcases h with (⟨st', Mc1, Mr1, l1, e1, -⟩ | ⟨Mc1, Mr1, e1, -⟩) | ⟨st', Mc0, Mc1, Mr1, -, e1, -⟩
  · rw [e1, cl_s, k1]
  · rw [e1, cl_s, k0]
  · rw [e1, cl_s, k0]
theorem LR.up {n : Nat} {B : Nat → Nat} {T st st' : Nat} {rc : Option (Int32 × Mem)} {rr : Option Mem} {Mc Mr : Mem} (h : LR n B T rc rr Mc Mr st) (hs : st' ≤ st) : LR n B T rc rr Mc Mr st' := by
  rcases h with ⟨st1, Mc1, Mr1, l1, q⟩ | q
  · exact Or.inl ⟨st1, Mc1, Mr1, by omega, q⟩
  · exact Or.inr q
theorem LR.pre {n : Nat} {B : Nat → Nat} {T st : Nat} {rc : Option (Int32 × Mem)} {rr : Option Mem} {Mc Mr Mc0 Mr0 : Mem} (h : LR n B T rc rr Mc Mr st) (oc : FPC T Mc0 Mc) (or : FPR Mr0 Mr) : LR n B T rc rr Mc0 Mr0 st := by
  rcases h with ⟨st1, Mc1, Mr1, l1, e1, e2, P, c, r⟩ | ⟨Mc1, Mr1, e1, e2, f, c, r⟩
  · exact Or.inl ⟨st1, Mc1, Mr1, l1, e1, e2, P, oc.tr c, or.tr r⟩
  · exact Or.inr ⟨Mc1, Mr1, e1, e2, f, oc.tr c, or.tr r⟩
def lnC (c : Nat) (f : Mem → Option (Int32 × Mem)) (Mc : Mem) : Option (Int32 × Mem) := cl (f_X7_startLine c Mc) fun r1 M1 => if r1 = 0 then some (0, M1) else cl (f M1) narK
def lnR (s : Nat) (g : Mem → Option Mem) (Mr : Mem) : Option Mem := cl (f_X11_begins (nI s) (nI (mxS s)) Mr) fun r M => if r = 0 then f_X11_lineHere_b227 M else clv (g M) fun M2 => f_X11_lineHere_b227 M2
theorem sort_fin {n : Nat} {B : Nat → Nat} {T st s : Nat} {Mc Mr : Mem} {f : Mem → Option (Int32 × Mem)} {g : Mem → Option Mem} (hl : ∀ Mc Mr st, PP n B T st Mc Mr → rdN Mr s < mxS s → LRP n B T (f Mc) (g Mr) Mc Mr st) (h : PP n B T st Mc Mr) (lt : st < n) (hs : s < 6) : LR n B T (semC (lnC (ck s) f Mc)) (lnR s g Mr) Mc Mr (st + 1) := by
  have bf : (fun M2 => f_X11_lineHere_b227 M2) = fun M2 => f_X11_takes 59 M2 := funext b227_f
  unfold lnC lnR
  rw [bf]
  rcases sort_ls h lt hs with ⟨lm, Mc1, Mr1, e1, e2, P1, er, oc, or⟩ | ⟨Mc1, Mr1, e1, e2, f1, oc, or⟩
  · have b1 := (nx_le (B := B) h.1.1).2 lt
    rw [e1, cl_s, if_neg (show ¬ (1 : Int32) = 0 by decide), e2, cl_s, if_neg (show ¬ (1 : Int32) = 0 by decide)]
    have L := hl Mc1 Mr1 _ P1 (by rw [er]; exact lm)
    rw [L.nar]
    exact ((L.semi).up (by omega)).pre (oc.p T) or.p
  · rw [e1, cl_s, if_pos rfl, e2, cl_s, if_pos rfl, b227_f, takes_d f1.1]
    unfold semC
    rw [cl_s, if_pos rfl]
    exact Or.inr ⟨Mc1, Mr1, rfl, rfl, f1, oc.p T, or.p⟩
/-! the class's choice -/
theorem tell_0 {Mc : Mem} (c4 : Mc.2.2.1 208 4 = 10) : f_X7_tellLine Mc = lnC 10 f_X7_tellCamera Mc := by
  unfold f_X7_tellLine lnC
  rw [c4, bnd_e]
  refine congrArg (cl _) (funext fun r1 => funext fun M1 => ?_)
  by_cases z : r1 = 0
  · rw [if_pos z, if_pos z]
  · rw [if_neg z, if_neg z, gd_t (by decide), gd_t (by decide), if_pos (by decide)]
    rfl
theorem tell_1 {Mc : Mem} (c4 : Mc.2.2.1 208 4 = 11) : f_X7_tellLine Mc = lnC 11 f_X7_tellFlash Mc := by
  unfold f_X7_tellLine lnC
  rw [c4, bnd_e]
  refine congrArg (cl _) (funext fun r1 => funext fun M1 => ?_)
  by_cases z : r1 = 0
  · rw [if_pos z, if_pos z]
  · rw [if_neg z, if_neg z, gd_t (by decide), gd_t (by decide), if_neg (by decide), if_pos (by decide)]
    rfl
theorem tell_2 {Mc : Mem} (c4 : Mc.2.2.1 208 4 = 12) : f_X7_tellLine Mc = lnC 12 f_X7_tellSide Mc := by
  unfold f_X7_tellLine lnC
  rw [c4, bnd_e]
  refine congrArg (cl _) (funext fun r1 => funext fun M1 => ?_)
  by_cases z : r1 = 0
  · rw [if_pos z, if_pos z]
  · rw [if_neg z, if_neg z, gd_t (by decide), gd_t (by decide), if_neg (by decide), if_neg (by decide), if_pos (by decide)]
    rfl
theorem tell_3 {Mc : Mem} (c4 : Mc.2.2.1 208 4 = 13) : f_X7_tellLine Mc = lnC 13 f_X7_tellKind Mc := by
  unfold f_X7_tellLine lnC
  rw [c4, bnd_e]
  refine congrArg (cl _) (funext fun r1 => funext fun M1 => ?_)
  by_cases z : r1 = 0
  · rw [if_pos z, if_pos z]
  · rw [if_neg z, if_neg z, gd_t (by decide), gd_t (by decide), if_neg (by decide), if_neg (by decide), if_neg (by decide), if_pos (by decide)]
    rfl
theorem tell_4 {Mc : Mem} (c4 : Mc.2.2.1 208 4 = 14) : f_X7_tellLine Mc = lnC 14 f_X7_tellBoard Mc := by
  unfold f_X7_tellLine lnC
  rw [c4, bnd_e]
  refine congrArg (cl _) (funext fun r1 => funext fun M1 => ?_)
  by_cases z : r1 = 0
  · rw [if_pos z, if_pos z]
  · rw [if_neg z, if_neg z, gd_t (by decide), gd_t (by decide), if_neg (by decide), if_neg (by decide), if_neg (by decide), if_neg (by decide), if_pos (by decide)]
    rfl
theorem tell_5 {Mc : Mem} (c4 : Mc.2.2.1 208 4 = 15) : f_X7_tellLine Mc = lnC 15 f_X7_tellPlay Mc := by
  unfold f_X7_tellLine lnC
  rw [c4, bnd_e]
  refine congrArg (cl _) (funext fun r1 => funext fun M1 => ?_)
  by_cases z : r1 = 0
  · rw [if_pos z, if_pos z]
  · rw [if_neg z, if_neg z, gd_t (by decide), gd_t (by decide), if_neg (by decide), if_neg (by decide), if_neg (by decide), if_neg (by decide), if_neg (by decide), if_pos (by decide)]
    rfl
def setC (x : Nat) (Mc : Mem) : Option (Int32 × Mem) := cl (f_X7_startLine (16 + x) Mc) (fun r1 M1m => if r1 = 0 then some (0, M1m) else f_X7_tellSetting (nI x) (nI (hiR x)) M1m)
theorem set_nar {x : Nat} {Mc : Mem} : cl (setC x Mc) narK = cl (f_X7_startLine (16 + x) Mc) (fun r1 M1m => if r1 = 0 then some (0, M1m) else cl (f_X7_tellSetting (nI x) (nI (hiR x)) M1m) narK) := by
  unfold setC
  cases f_X7_startLine (16 + x) Mc with
  | none => rfl
  | some q =>
    obtain ⟨r, M⟩ := q
    rw [cl_s, cl_s]
    by_cases z : r = 0
    · rw [if_pos z, if_pos z, cl_s]
      exact gd_t nar_b.1
    · rw [if_neg z, if_neg z]
theorem tell_6 {Mc : Mem} {x : Nat} (hx : x < 4) (c4 : Mc.2.2.1 208 4 = 16 + x) : f_X7_tellLine Mc = cl (setC x Mc) narK := by
  rw [set_nar]
  unfold f_X7_tellLine
  rw [c4, bnd_e]
  refine congrArg (cl _) (funext fun r1 => funext fun M1 => ?_)
  by_cases z : r1 = 0
  · rw [if_pos z, if_pos z]
  · rw [if_neg z, if_neg z]
    have e : x = 0 ∨ x = 1 ∨ x = 2 ∨ x = 3 := by omega
    rcases e with rfl | rfl | rfl | rfl
    · rw [gd_t (by decide), gd_t (by decide), if_neg (by decide), if_neg (by decide), if_neg (by decide), if_neg (by decide), if_neg (by decide), if_neg (by decide), if_pos (by decide)]
      rfl
    · rw [gd_t (by decide), gd_t (by decide), if_neg (by decide), if_neg (by decide), if_neg (by decide), if_neg (by decide), if_neg (by decide), if_neg (by decide), if_neg (by decide), if_pos (by decide)]
      rfl
    · rw [gd_t (by decide), gd_t (by decide), if_neg (by decide), if_neg (by decide), if_neg (by decide), if_neg (by decide), if_neg (by decide), if_neg (by decide), if_neg (by decide), if_neg (by decide), if_pos (by decide)]
      rfl
    · rw [gd_t (by decide), gd_t (by decide), if_neg (by decide), if_neg (by decide), if_neg (by decide), if_neg (by decide), if_neg (by decide), if_neg (by decide), if_neg (by decide), if_neg (by decide), if_neg (by decide), if_pos (by decide)]
      rfl
theorem rule_fin {n : Nat} {B : Nat → Nat} {T st x : Nat} {Mc Mr : Mem} (h : PP n B T st Mc Mr) (lt : st < n) (hx : x < 4) : LR n B T (semC (cl (setC x Mc) narK)) (clv (f_X11_ruleLine (nI x) Mr) fun M2 => f_X11_lineHere_b227 M2) Mc Mr (st + 1) := by
  have bf : (fun M2 => f_X11_lineHere_b227 M2) = fun M2 => f_X11_takes 59 M2 := funext b227_f
  have L := rule_ls h hx lt
  have L' : LRP n B T (setC x Mc) (f_X11_ruleLine (nI x) Mr) Mc Mr st := Or.inl L
  rw [bf, L'.nar]
  exact L'.semi
theorem tell_ls {n : Nat} {B : Nat → Nat} {T st : Nat} {Mc Mr : Mem} (h : PP n B T st Mc Mr) (lt : st < n) : LR n B T (semC (f_X7_tellLine Mc)) (f_X11_lineHere Mr) Mc Mr (st + 1) := by
  have hl := h.1
  have c4 := hl.2.1.2.2.2.1
  have kw := (k_word (LPt.k hl)).2.2
  have N : ∀ j, j < 16 → ctN n B st ≠ stk (28 + j) → f_X11_is (28 + j) Mr = some (0, Mr) := fun j hj q => is_n hl (by omega) q
  have sk : ∀ j, j < 10 → stk (28 + j) = 10 + j := by decide
  have no : ∀ j, j < 10 → ctN n B st ≠ 10 + j → f_X11_is (28 + j) Mr = some (0, Mr) := fun j hj q => N j (by omega) (by rw [sk j hj]; exact q)
  have ye : ∀ j, j < 10 → ctN n B st = 10 + j → f_X11_is (28 + j) Mr = some (1, Mr) := fun j hj q => is_y hl (by omega) (by rw [sk j hj]; exact q)
  have n1 : ¬ (1 : Int32) = 0 := by decide
  have e : ctN n B st = 10 ∨ ctN n B st = 11 ∨ ctN n B st = 12 ∨ ctN n B st = 13 ∨ ctN n B st = 14 ∨ ctN n B st = 15 ∨ ctN n B st = 16 ∨ ctN n B st = 17 ∨ ctN n B st = 18 ∨ ctN n B st = 19 ∨ (ctN n B st < 10 ∨ 19 < ctN n B st) := by omega
  rcases e with e | e | e | e | e | e | e | e | e | e | e
  · rw [tell_0 (c4.trans e)]
    unfold f_X11_lineHere
    rw [ye 0 (by omega) e, cl_s, if_neg n1]
    exact sort_fin (s := 0) (fun Mc Mr st P l => Or.inl (cam_ls P l)) h lt (by omega)
  · rw [tell_1 (c4.trans e)]
    unfold f_X11_lineHere
    rw [no 0 (by omega) (by omega), cl_s, if_pos rfl, ye 1 (by omega) e, cl_s, if_neg n1]
    exact sort_fin (s := 5) (fun Mc Mr st P l => Or.inl (flash_ls P l)) h lt (by omega)
  · rw [tell_2 (c4.trans e)]
    unfold f_X11_lineHere
    rw [no 0 (by omega) (by omega), cl_s, if_pos rfl, no 1 (by omega) (by omega), cl_s, if_pos rfl, ye 2 (by omega) e, cl_s, if_neg n1]
    exact sort_fin (s := 1) (fun Mc Mr st P l => Or.inl (side_ls P l)) h lt (by omega)
  · rw [tell_3 (c4.trans e)]
    unfold f_X11_lineHere
    rw [no 0 (by omega) (by omega), cl_s, if_pos rfl, no 1 (by omega) (by omega), cl_s, if_pos rfl, no 2 (by omega) (by omega), cl_s, if_pos rfl, ye 3 (by omega) e, cl_s, if_neg n1]
    exact sort_fin (s := 2) (fun Mc Mr st P l => Or.inl (kind_ls P l)) h lt (by omega)
  · rw [tell_4 (c4.trans e)]
    unfold f_X11_lineHere
    rw [no 0 (by omega) (by omega), cl_s, if_pos rfl, no 1 (by omega) (by omega), cl_s, if_pos rfl, no 2 (by omega) (by omega), cl_s, if_pos rfl, no 3 (by omega) (by omega), cl_s, if_pos rfl, ye 4 (by omega) e, cl_s, if_neg n1]
    exact sort_fin (s := 3) (fun Mc Mr st P l => Or.inl (board_ls P l)) h lt (by omega)
  · rw [tell_5 (c4.trans e)]
    unfold f_X11_lineHere
    rw [no 0 (by omega) (by omega), cl_s, if_pos rfl, no 1 (by omega) (by omega), cl_s, if_pos rfl, no 2 (by omega) (by omega), cl_s, if_pos rfl, no 3 (by omega) (by omega), cl_s, if_pos rfl, no 4 (by omega) (by omega), cl_s, if_pos rfl, ye 5 (by omega) e, cl_s, if_neg n1]
    exact sort_fin (s := 4) (fun Mc Mr st P l => play_ls P l) h lt (by omega)
  · rw [tell_6 (x := 0) (by omega) (c4.trans e)]
    unfold f_X11_lineHere
    rw [no 0 (by omega) (by omega), cl_s, if_pos rfl, no 1 (by omega) (by omega), cl_s, if_pos rfl, no 2 (by omega) (by omega), cl_s, if_pos rfl, no 3 (by omega) (by omega), cl_s, if_pos rfl, no 4 (by omega) (by omega), cl_s, if_pos rfl, no 5 (by omega) (by omega), cl_s, if_pos rfl, ye 6 (by omega) e, cl_s, if_neg n1]
    exact rule_fin h lt (by omega)
  · rw [tell_6 (x := 1) (by omega) (c4.trans e)]
    unfold f_X11_lineHere
    rw [no 0 (by omega) (by omega), cl_s, if_pos rfl, no 1 (by omega) (by omega), cl_s, if_pos rfl, no 2 (by omega) (by omega), cl_s, if_pos rfl, no 3 (by omega) (by omega), cl_s, if_pos rfl, no 4 (by omega) (by omega), cl_s, if_pos rfl, no 5 (by omega) (by omega), cl_s, if_pos rfl, no 6 (by omega) (by omega), cl_s, if_pos rfl, ye 7 (by omega) e, cl_s, if_neg n1]
    exact rule_fin h lt (by omega)
  · rw [tell_6 (x := 2) (by omega) (c4.trans e)]
    unfold f_X11_lineHere
    rw [no 0 (by omega) (by omega), cl_s, if_pos rfl, no 1 (by omega) (by omega), cl_s, if_pos rfl, no 2 (by omega) (by omega), cl_s, if_pos rfl, no 3 (by omega) (by omega), cl_s, if_pos rfl, no 4 (by omega) (by omega), cl_s, if_pos rfl, no 5 (by omega) (by omega), cl_s, if_pos rfl, no 6 (by omega) (by omega), cl_s, if_pos rfl, no 7 (by omega) (by omega), cl_s, if_pos rfl, ye 8 (by omega) e, cl_s, if_neg n1]
    exact rule_fin h lt (by omega)
  · rw [tell_6 (x := 3) (by omega) (c4.trans e)]
    unfold f_X11_lineHere
    rw [no 0 (by omega) (by omega), cl_s, if_pos rfl, no 1 (by omega) (by omega), cl_s, if_pos rfl, no 2 (by omega) (by omega), cl_s, if_pos rfl, no 3 (by omega) (by omega), cl_s, if_pos rfl, no 4 (by omega) (by omega), cl_s, if_pos rfl, no 5 (by omega) (by omega), cl_s, if_pos rfl, no 6 (by omega) (by omega), cl_s, if_pos rfl, no 7 (by omega) (by omega), cl_s, if_pos rfl, no 8 (by omega) (by omega), cl_s, if_pos rfl, ye 9 (by omega) e, cl_s, if_neg n1]
    exact rule_fin h lt (by omega)
  · obtain ⟨Mc', Mr', f1, f2, f3, f4, f5⟩ := fault hl (k := 1) (by decide)
    have er : f_X11_lineHere Mr = some Mr' := by
      unfold f_X11_lineHere
      rw [no 0 (by omega) (by omega), cl_s, if_pos rfl, no 1 (by omega) (by omega), cl_s, if_pos rfl, no 2 (by omega) (by omega), cl_s, if_pos rfl, no 3 (by omega) (by omega), cl_s, if_pos rfl, no 4 (by omega) (by omega), cl_s, if_pos rfl, no 5 (by omega) (by omega), cl_s, if_pos rfl, no 6 (by omega) (by omega), cl_s, if_pos rfl, no 7 (by omega) (by omega), cl_s, if_pos rfl, no 8 (by omega) (by omega), cl_s, if_pos rfl, no 9 (by omega) (by omega), cl_s, if_pos rfl, f2, cl_s, b227_f, takes_d f3.1]
    have ec : f_X7_tellLine Mc = some (0, Mc') := by
      unfold f_X7_tellLine f_X7_startLine f_X7_startLine_b21
      rw [c4, bnd_e, room_no (by omega) (by omega) e, cl_s, if_neg (show ¬ (0 : Int32) < -1 by decide), if_pos rfl, f1, cl_s, gd_t nar_b.1, cl_s, if_pos rfl]
    rw [ec, er]
    unfold semC
    rw [cl_s, if_pos rfl]
    exact Or.inr ⟨Mc', Mr', rfl, rfl, f3, f4.p T, f5.p⟩
