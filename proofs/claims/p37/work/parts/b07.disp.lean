/-! THE LAW'S TEXT, line after line (p37) -/
def semi : Tok := ((59 : Int32), (0 : Nat), (0 : Nat))
def wd1 (s : Nat) : Tok := ((1 : Int32), (0 : Nat), scd s)
def nam (x j : Nat) : Tok := ((1 : Int32), (0 : Nat), nmv x j)
def num (v : Nat) : Tok := ((2 : Int32), v, (0 : Nat))
section DISP
variable {n : Nat} {B : Nat → Nat} {ts : List Tok} {t : Tok} {M M' : Mem} {cn : Nat → Nat}
theorem dis_0 (h : RP n B (wd1 28 :: ts) M) : f_X11_lineHere M = cl (f_X11_begins 0 5 M) (fun r M1 => if r = 0 then f_X11_lineHere_b227 M1 else clv (f_X11_cameraLine M1) (fun M2 => f_X11_lineHere_b227 M2)) := by
  unfold f_X11_lineHere
  rw [risY (s := 28) h (by omega) (by omega), cl_s, if_neg (show ¬ (1 : Int32) = 0 by decide)]
theorem dis_1 (h : RP n B (wd1 29 :: ts) M) : f_X11_lineHere M = cl (f_X11_begins 5 6 M) (fun r M1 => if r = 0 then f_X11_lineHere_b227 M1 else clv (f_X11_flashLine M1) (fun M2 => f_X11_lineHere_b227 M2)) := by
  have k : ∀ j, j < 16 → 1 ≠ j → f_X11_is (28 + j) M = some (0, M) := fun j hj hn => is_line (i := 1) h (by omega) hj hn
  unfold f_X11_lineHere
  rw [k 0 (by omega) (by omega), cl_s, if_pos rfl, risY (s := 29) h (by omega) (by omega), cl_s, if_neg (show ¬ (1 : Int32) = 0 by decide)]
theorem dis_2 (h : RP n B (wd1 30 :: ts) M) : f_X11_lineHere M = cl (f_X11_begins 1 4 M) (fun r M1 => if r = 0 then f_X11_lineHere_b227 M1 else clv (f_X11_sideLine M1) (fun M2 => f_X11_lineHere_b227 M2)) := by
  have k : ∀ j, j < 16 → 2 ≠ j → f_X11_is (28 + j) M = some (0, M) := fun j hj hn => is_line (i := 2) h (by omega) hj hn
  unfold f_X11_lineHere
  rw [k 0 (by omega) (by omega), cl_s, if_pos rfl, k 1 (by omega) (by omega), cl_s, if_pos rfl, risY (s := 30) h (by omega) (by omega), cl_s, if_neg (show ¬ (1 : Int32) = 0 by decide)]
theorem dis_3 (h : RP n B (wd1 31 :: ts) M) : f_X11_lineHere M = cl (f_X11_begins 2 5 M) (fun r M1 => if r = 0 then f_X11_lineHere_b227 M1 else clv (f_X11_kindLine M1) (fun M2 => f_X11_lineHere_b227 M2)) := by
  have k : ∀ j, j < 16 → 3 ≠ j → f_X11_is (28 + j) M = some (0, M) := fun j hj hn => is_line (i := 3) h (by omega) hj hn
  unfold f_X11_lineHere
  rw [k 0 (by omega) (by omega), cl_s, if_pos rfl, k 1 (by omega) (by omega), cl_s, if_pos rfl, k 2 (by omega) (by omega), cl_s, if_pos rfl, risY (s := 31) h (by omega) (by omega), cl_s, if_neg (show ¬ (1 : Int32) = 0 by decide)]
theorem dis_4 (h : RP n B (wd1 32 :: ts) M) : f_X11_lineHere M = cl (f_X11_begins 3 3 M) (fun r M1 => if r = 0 then f_X11_lineHere_b227 M1 else clv (f_X11_boardLine M1) (fun M2 => f_X11_lineHere_b227 M2)) := by
  have k : ∀ j, j < 16 → 4 ≠ j → f_X11_is (28 + j) M = some (0, M) := fun j hj hn => is_line (i := 4) h (by omega) hj hn
  unfold f_X11_lineHere
  rw [k 0 (by omega) (by omega), cl_s, if_pos rfl, k 1 (by omega) (by omega), cl_s, if_pos rfl, k 2 (by omega) (by omega), cl_s, if_pos rfl, k 3 (by omega) (by omega), cl_s, if_pos rfl, risY (s := 32) h (by omega) (by omega), cl_s, if_neg (show ¬ (1 : Int32) = 0 by decide)]
theorem dis_5 (h : RP n B (wd1 33 :: ts) M) : f_X11_lineHere M = cl (f_X11_begins 4 8 M) (fun r M1 => if r = 0 then f_X11_lineHere_b227 M1 else clv (f_X11_playLine M1) (fun M2 => f_X11_lineHere_b227 M2)) := by
  have k : ∀ j, j < 16 → 5 ≠ j → f_X11_is (28 + j) M = some (0, M) := fun j hj hn => is_line (i := 5) h (by omega) hj hn
  unfold f_X11_lineHere
  rw [k 0 (by omega) (by omega), cl_s, if_pos rfl, k 1 (by omega) (by omega), cl_s, if_pos rfl, k 2 (by omega) (by omega), cl_s, if_pos rfl, k 3 (by omega) (by omega), cl_s, if_pos rfl, k 4 (by omega) (by omega), cl_s, if_pos rfl, risY (s := 33) h (by omega) (by omega), cl_s, if_neg (show ¬ (1 : Int32) = 0 by decide)]
theorem dis_r (x : Nat) (hx : x < 4) (h : RP n B (wd1 (34 + x) :: ts) M) : f_X11_lineHere M = clv (f_X11_ruleLine (nI x) M) (fun M2 => f_X11_lineHere_b227 M2) := by
  have k : ∀ j, j < 16 → 6 + x ≠ j → f_X11_is (28 + j) M = some (0, M) := fun j hj hn => is_line (i := 6 + x) (by rw [show 28 + (6 + x) = 34 + x by omega]; exact h) (by omega) hj hn
  have y : f_X11_is (34 + x) M = some (1, M) := risY h (by omega) (by omega)
  unfold f_X11_lineHere
  rw [k 0 (by omega) (by omega), cl_s, if_pos rfl, k 1 (by omega) (by omega), cl_s, if_pos rfl, k 2 (by omega) (by omega), cl_s, if_pos rfl, k 3 (by omega) (by omega), cl_s, if_pos rfl, k 4 (by omega) (by omega), cl_s, if_pos rfl, k 5 (by omega) (by omega), cl_s, if_pos rfl]
  rcases (show x = 0 ∨ x = 1 ∨ x = 2 ∨ x = 3 by omega) with rfl | rfl | rfl | rfl
  · rw [y, cl_s, if_neg (show ¬ (1 : Int32) = 0 by decide)]
    rfl
  · rw [k 6 (by omega) (by omega), cl_s, if_pos rfl, y, cl_s, if_neg (show ¬ (1 : Int32) = 0 by decide)]
    rfl
  · rw [k 6 (by omega) (by omega), cl_s, if_pos rfl, k 7 (by omega) (by omega), cl_s, if_pos rfl, y, cl_s, if_neg (show ¬ (1 : Int32) = 0 by decide)]
    rfl
  · rw [k 6 (by omega) (by omega), cl_s, if_pos rfl, k 7 (by omega) (by omega), cl_s, if_pos rfl, k 8 (by omega) (by omega), cl_s, if_pos rfl, y, cl_s, if_neg (show ¬ (1 : Int32) = 0 by decide)]
    rfl
/-- a line, begun, read, ended -/
theorem line_go {x m : Nat} {LN : Mem → Option Mem} {P : Mem → Mem → Prop} {I L : Nat → Nat → Prop} {k : Tok} {r : List Tok} (hd : f_X11_lineHere M = cl (f_X11_begins (nI x) (nI m) M) (fun r M1 => if r = 0 then f_X11_lineHere_b227 M1 else clv (LN M1) (fun M2 => f_X11_lineHere_b227 M2)))
    (h : RP n B (k :: r) M) (N : NmS cn nmv M) (hx : x < 6) (hm : cn x < m) (hm2 : m < 2 ^ 30) (hl : ∀ M1, RP n B r M1 → NmS cn nmv M1 → FsR M M1 → ∃ M2, LN M1 = some M2 ∧ RP n B (semi :: ts) M2 ∧ NmS (cnU cn x) nmv M2 ∧ P M1 M2 ∧ Fr I L M1 M2) (hP : ∀ M1 M2 M3, FsR M M1 → P M1 M2 → FsR M2 M3 → P M M3) :
    ∃ M', f_X11_lineHere M = some M' ∧ RP n B ts M' ∧ NmS (cnU cn x) nmv M' ∧ P M M' ∧ Fr I L M M' := by
  obtain ⟨M1, e1, p1, f1⟩ := begins_r h N hx hm hm2
  obtain ⟨M2, e2, p2, N2, q2, f2⟩ := hl M1 p1 (N.fs f1) f1
  obtain ⟨M3, e3, p3, f3⟩ := semi_r p2
  refine ⟨M3, ?_, p3, N2.fs f3, hP M1 M2 M3 f1 q2 f3, f1.fr.tr (f2.tr f3.fr)⟩
  rw [hd, e1, cl_s, if_neg (show ¬ (1 : Int32) = 0 by decide), e2, clv_s, e3]
end DISP
/-! groups of lines -/
def grp (T : Nat → List Tok) : Nat → Nat → List Tok
  | _, 0 => []
  | i, m + 1 => T i ++ grp T (i + 1) m
theorem grp_r {n : Nat} {B : Nat → Nat} {T : Nat → List Tok} {P : Nat → Mem → Prop} {N : Nat} (hd : ∀ i, ∃ t r, T i = t :: r ∧ t.1 ≠ 0) (step : ∀ i M ts, i < N → P i M → RP n B (T i ++ ts) M → ∃ M', f_X11_lineHere M = some M' ∧ RP n B ts M' ∧ P (i + 1) M') {ts : List Tok} : ∀ m i M, i + m = N → P i M → RP n B (grp T i m ++ ts) M →
    ∃ M', (∀ k, f_X11_text_b50 (k + m) M = f_X11_text_b50 k M') ∧ RP n B ts M' ∧ P N M' := by
  intro m
  induction m with
  | zero =>
    intro i M hi hP h
    obtain rfl : i = N := by omega
    exact ⟨M, fun k => rfl, h, hP⟩
  | succ m ih =>
    intro i M hi hP h
    have h' : RP n B (T i ++ (grp T (i + 1) m ++ ts)) M := by
      have : grp T i (m + 1) ++ ts = T i ++ (grp T (i + 1) m ++ ts) := List.append_assoc _ _ _
      rw [this] at h
      exact h
    obtain ⟨M1, e1, p1, q1⟩ := step i M _ (by omega) hP h'
    obtain ⟨M2, e2, p2, q2⟩ := ih (i + 1) M1 (by omega) q1 p1
    refine ⟨M2, fun k => ?_, p2, q2⟩
    obtain ⟨t, r, et, t0⟩ := hd i
    have r6 : M.1 311 6 ≠ 0 := by
      rw [et] at h'
      have h2 : RP n B (t :: (r ++ (grp T (i + 1) m ++ ts))) M := h'
      rw [h2.rt.1]
      exact t0
    rw [← e2 k]
    show f_X11_text_b50_s (f_X11_text_b50 (k + m)) M = _
    unfold f_X11_text_b50_s
    rw [if_pos h.f9, if_neg r6, e1, clv_s]
