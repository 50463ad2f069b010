/-! THE LAW'S TEXT, group after group (p37) -/
def cnt (a b c d e f : Nat) : Nat → Nat := fun s => ([a, b, c, d, e, f] : List Nat).getD s 0
theorem cnU_c {a b c d e f x : Nat} {g : Nat → Nat} (hx : x < 6) (h : ∀ s, s < 6 → g s = if s = x then cnt a b c d e f s + 1 else cnt a b c d e f s) (h6 : ∀ s, 6 ≤ s → g s = 0) : cnU (cnt a b c d e f) x = g := by
  funext s
  unfold cnU
  rcases Nat.lt_or_ge s 6 with q | q
  · exact (h s q).symm
  · rw [if_neg (by omega), h6 s q]
    unfold cnt
    rw [List.getD_eq_getElem?_getD, List.getElem?_eq_none (by show 6 ≤ s; exact q)]
    rfl
theorem cnt_6 (a b c d e f : Nat) {s : Nat} (h : 6 ≤ s) : cnt a b c d e f s = 0 := by
  unfold cnt
  rw [List.getD_eq_getElem?_getD, List.getElem?_eq_none (by show 6 ≤ s; exact h)]
  rfl
theorem six {P : Nat → Prop} (h0 : P 0) (h1 : P 1) (h2 : P 2) (h3 : P 3) (h4 : P 4) (h5 : P 5) : ∀ s, s < 6 → P s := by
  intro s hs
  rcases (show s = 0 ∨ s = 1 ∨ s = 2 ∨ s = 3 ∨ s = 4 ∨ s = 5 by omega) with rfl | rfl | rfl | rfl | rfl | rfl <;> assumption
theorem cnU_0 (a b c d e f : Nat) : cnU (cnt a b c d e f) 0 = cnt (a + 1) b c d e f := cnU_c (by omega) (six rfl rfl rfl rfl rfl rfl) (fun _ h => cnt_6 _ _ _ _ _ _ h)
theorem cnU_1 (a b c d e f : Nat) : cnU (cnt a b c d e f) 1 = cnt a (b + 1) c d e f := cnU_c (by omega) (six rfl rfl rfl rfl rfl rfl) (fun _ h => cnt_6 _ _ _ _ _ _ h)
theorem cnU_2 (a b c d e f : Nat) : cnU (cnt a b c d e f) 2 = cnt a b (c + 1) d e f := cnU_c (by omega) (six rfl rfl rfl rfl rfl rfl) (fun _ h => cnt_6 _ _ _ _ _ _ h)
theorem cnU_3 (a b c d e f : Nat) : cnU (cnt a b c d e f) 3 = cnt a b c (d + 1) e f := cnU_c (by omega) (six rfl rfl rfl rfl rfl rfl) (fun _ h => cnt_6 _ _ _ _ _ _ h)
theorem cnU_4 (a b c d e f : Nat) : cnU (cnt a b c d e f) 4 = cnt a b c d (e + 1) f := cnU_c (by omega) (six rfl rfl rfl rfl rfl rfl) (fun _ h => cnt_6 _ _ _ _ _ _ h)
theorem cnU_5 (a b c d e f : Nat) : cnU (cnt a b c d e f) 5 = cnt a b c d e (f + 1) := cnU_c (by omega) (six rfl rfl rfl rfl rfl rfl) (fun _ h => cnt_6 _ _ _ _ _ _ h)
/-- rows that a group changes: its own, and the counts -/
def RoI (lo hi : Nat) : Nat → Nat → Prop := fun r k => (lo ≤ r ∧ r ≤ hi) ∨ (r = 313 ∧ 6 ≤ k)
def RoL : Nat → Nat → Prop := fun r _ => r = 316
section GROUPS
variable {n : Nat} {B : Nat → Nat} {ts : List Tok} {M : Mem}
def camTk (ca cb : Nat → Nat) (c : Nat) : List Tok := [wd1 28, nam 0 c, num (ca c), num (cb c), semi]
theorem g_cam {ca cb : Nat → Nat} {N : Nat} (hN : N ≤ 5) (hab : ∀ c, c < N → ca c ≤ cb c ∧ cb c ≤ 999) (h : RP n B (grp (camTk ca cb) 0 N ++ ts) M) (hn : NmS (cnt 0 0 0 0 0 0) nmv M) :
    ∃ M', (∀ k, f_X11_text_b50 (k + N) M = f_X11_text_b50 k M') ∧ RP n B ts M' ∧ NmS (cnt N 0 0 0 0 0) nmv M' ∧ (∀ c, c < N → M'.1 317 (5 + c) = nI (ca c) ∧ M'.1 318 (5 + c) = nI (cb c)) ∧ Fr (RoI 317 318) RoL M M' := by
  have key := grp_r (n := n) (B := B) (T := camTk ca cb) (P := fun i X => NmS (cnt i 0 0 0 0 0) nmv X ∧ (∀ c, c < i → X.1 317 (5 + c) = nI (ca c) ∧ X.1 318 (5 + c) = nI (cb c)) ∧ Fr (RoI 317 318) RoL M X) (N := N) (fun i => ⟨wd1 28, _, rfl, by show (1 : Int32) ≠ 0; decide⟩) (fun i X ts hi hP hX => by
    obtain ⟨p1, p2, p3⟩ := hP
    have hX' : RP n B (wd1 28 :: (nam 0 i :: num (ca i) :: num (cb i) :: semi :: ts)) X := hX
    obtain ⟨Y, e, q, qn, qd, qf⟩ := line_go (ts := ts) (x := 0) (m := 5) (P := fun _ Z => Z.1 317 (5 + i) = nI (ca i) ∧ Z.1 318 (5 + i) = nI (cb i)) (I := fun r k => (r = 317 ∧ k = 5 + i) ∨ (r = 318 ∧ k = 5 + i) ∨ (r = 313 ∧ k = 6)) (L := fun r k => r = 316 ∧ k = 40 + i) (dis_0 hX') hX' p1 (by omega) (show i < 5 by omega) (by omega) (fun M1 h1 n1 _ => by
      obtain ⟨M2, a1, a2, a3, a4, a5, a6⟩ := cameraLine_r (ts := semi :: ts) (a := ca i) (b := cb i) h1 n1 (show i < 5 by omega) (hab i hi).1 (hab i hi).2
      exact ⟨M2, a1, a2, a3, ⟨a4, a5⟩, a6⟩) (fun _ M2 M3 _ z f => by rw [f.2.2 _ _ (by omega), f.2.2 _ _ (by omega)]; exact z)
    rw [cnU_0] at qn
    refine ⟨Y, e, q, qn, fun c hc => ?_, p3.tr (qf.mono (fun r k z => by unfold RoI; omega) (fun r k z => z.1))⟩
    rcases Nat.lt_or_ge c i with z | z
    · rw [qf.2.2 _ _ (by omega) (by omega), qf.2.2 _ _ (by omega) (by omega)]
      exact p2 c z
    · rw [show c = i by omega]; exact qd) (ts := ts) N 0 M (by omega) ⟨hn, fun c hc => absurd hc (Nat.not_lt_zero c), Fr.refl _ _ M⟩ h
  obtain ⟨M', e, q, a, b, c⟩ := key
  exact ⟨M', e, q, a, b, c⟩
def flTk (fa fx fb fy : Nat → Nat) (f : Nat) : List Tok := [wd1 29, nam 0 (fa f), num (fx f), nam 0 (fb f), num (fy f), semi]
theorem g_fl {fa fx fb fy : Nat → Nat} {C N : Nat} (hN : N ≤ 6) (hok : ∀ f, f < N → fa f < C ∧ fb f < C ∧ fa f ≠ fb f ∧ fx f ≤ 999 ∧ fy f ≤ 999) (h : RP n B (grp (flTk fa fx fb fy) 0 N ++ ts) M) (hn : NmS (cnt C 0 0 0 0 0) nmv M) :
    ∃ M', (∀ k, f_X11_text_b50 (k + N) M = f_X11_text_b50 k M') ∧ RP n B ts M' ∧ NmS (cnt C 0 0 0 0 N) nmv M' ∧ (∀ f, f < N → M'.1 319 (24 + 4 * f) = nI (fa f) ∧ M'.1 319 (24 + 4 * f + 1) = nI (fx f) ∧ M'.1 319 (24 + 4 * f + 2) = nI (fb f) ∧ M'.1 319 (24 + 4 * f + 3) = nI (fy f)) ∧ Fr (RoI 319 319) RoL M M' := by
  have key := grp_r (n := n) (B := B) (T := flTk fa fx fb fy) (P := fun i X => NmS (cnt C 0 0 0 0 i) nmv X ∧ (∀ f, f < i → X.1 319 (24 + 4 * f) = nI (fa f) ∧ X.1 319 (24 + 4 * f + 1) = nI (fx f) ∧ X.1 319 (24 + 4 * f + 2) = nI (fb f) ∧ X.1 319 (24 + 4 * f + 3) = nI (fy f)) ∧ Fr (RoI 319 319) RoL M X) (N := N) (fun i => ⟨wd1 29, _, rfl, by show (1 : Int32) ≠ 0; decide⟩) (fun i X ts hi hP hX => by
    obtain ⟨p1, p2, p3⟩ := hP
    obtain ⟨o1, o2, o3, o4, o5⟩ := hok i hi
    have hX' : RP n B (wd1 29 :: (nam 0 (fa i) :: num (fx i) :: nam 0 (fb i) :: num (fy i) :: semi :: ts)) X := hX
    obtain ⟨Y, e, q, qn, qd, qf⟩ := line_go (ts := ts) (x := 5) (m := 6) (P := fun _ Z => Z.1 319 (24 + 4 * i) = nI (fa i) ∧ Z.1 319 (24 + 4 * i + 1) = nI (fx i) ∧ Z.1 319 (24 + 4 * i + 2) = nI (fb i) ∧ Z.1 319 (24 + 4 * i + 3) = nI (fy i)) (I := fun r k => (r = 319 ∧ 24 + 4 * i ≤ k ∧ k ≤ 24 + 4 * i + 3) ∨ (r = 313 ∧ k = 11)) (L := noC) (dis_1 hX') hX' p1 (by omega) (show i < 6 by omega) (by omega) (fun M1 h1 n1 _ => by
      obtain ⟨M2, a1, a2, a3, a4, a5⟩ := flashLine_r (ts := semi :: ts) (f := i) h1 n1 rfl (show i < 6 by omega) (show fa i < C from o1) (show fb i < C from o2) o3 o4 o5
      exact ⟨M2, a1, a2, a3, a4, a5⟩) (fun _ M2 M3 _ z f => by rw [f.2.2 _ _ (by omega), f.2.2 _ _ (by omega), f.2.2 _ _ (by omega), f.2.2 _ _ (by omega)]; exact z)
    rw [cnU_5] at qn
    refine ⟨Y, e, q, qn, fun f hf => ?_, p3.tr (qf.mono (fun r k z => by unfold RoI; omega) (fun r k z => z.elim))⟩
    rcases Nat.lt_or_ge f i with z | z
    · rw [qf.2.2 _ _ (by omega) (by omega), qf.2.2 _ _ (by omega) (by omega), qf.2.2 _ _ (by omega) (by omega), qf.2.2 _ _ (by omega) (by omega)]
      exact p2 f z
    · rw [show f = i by omega]; exact qd) (ts := ts) N 0 M (by omega) ⟨hn, fun c hc => absurd hc (Nat.not_lt_zero c), Fr.refl _ _ M⟩ h
  obtain ⟨M', e, q, a, b, c⟩ := key
  exact ⟨M', e, q, a, b, c⟩
def sdTk (sv : Nat → Nat) (k : Nat) : List Tok := [wd1 30, nam 1 k, num (sv k), semi]
theorem g_sd {sv : Nat → Nat} {C F N : Nat} (hN : N ≤ 4) (hok : ∀ k, k < N → sv k ≤ 9) (h : RP n B (grp (sdTk sv) 0 N ++ ts) M) (hn : NmS (cnt C 0 0 0 0 F) nmv M) :
    ∃ M', (∀ k, f_X11_text_b50 (k + N) M = f_X11_text_b50 k M') ∧ RP n B ts M' ∧ NmS (cnt C N 0 0 0 F) nmv M' ∧ Fr (RoI 320 320) RoL M M' := by
  have key := grp_r (n := n) (B := B) (T := sdTk sv) (P := fun i X => NmS (cnt C i 0 0 0 F) nmv X ∧ Fr (RoI 320 320) RoL M X) (N := N) (fun i => ⟨wd1 30, _, rfl, by show (1 : Int32) ≠ 0; decide⟩) (fun i X ts hi hP hX => by
    obtain ⟨p1, p3⟩ := hP
    have hX' : RP n B (wd1 30 :: (nam 1 i :: num (sv i) :: semi :: ts)) X := hX
    obtain ⟨Y, e, q, qn, qd, qf⟩ := line_go (ts := ts) (x := 1) (m := 4) (P := fun _ _ => True) (I := fun r k => (r = 320 ∧ k = 4 + i) ∨ (r = 313 ∧ k = 7)) (L := fun r k => r = 316 ∧ k = 48 + i) (dis_2 hX') hX' p1 (by omega) (show i < 4 by omega) (by omega) (fun M1 h1 n1 _ => by
      obtain ⟨M2, a1, a2, a3, a4⟩ := sideLine_r (ts := semi :: ts) (v := sv i) h1 n1 (show i < 4 by omega) (hok i hi)
      exact ⟨M2, a1, a2, a3, trivial, a4⟩) (fun _ _ _ _ _ _ => trivial)
    rw [cnU_1] at qn
    exact ⟨Y, e, q, qn, p3.tr (qf.mono (fun r k z => by unfold RoI; omega) (fun r k z => z.1))⟩) (ts := ts) N 0 M (by omega) ⟨hn, Fr.refl _ _ M⟩ h
  obtain ⟨M', e, q, a, b⟩ := key
  exact ⟨M', e, q, a, b⟩
def kdTk (ks : Nat → Nat) (fo ag : Nat → Bool) (kf kg : Nat → Nat) (kl : Nat → List (Nat × Nat)) (k : Nat) : List Tok := wd1 31 :: (kindT k (ks k) (fo k) (ag k) (kf k) (kg k) (kl k) ++ [semi])
theorem g_kd {ks kf kg : Nat → Nat} {fo ag : Nat → Bool} {kl : Nat → List (Nat × Nat)} {C S F N : Nat} (hN : N ≤ 5) (hok : ∀ k, k < N → (1 ≤ ks k ∧ ks k ≤ 60) ∧ (kl k).length ≤ 2 ∧ ∀ (j a b : Nat), ((kf k, kg k) :: kl k)[j]? = some (a, b) → a < 4 ∧ b < 4 ∧ a ≠ b) (h : RP n B (grp (kdTk ks fo ag kf kg kl) 0 N ++ ts) M) (hn : NmS (cnt C S 0 0 0 F) nmv M) :
    ∃ M', (∀ k, f_X11_text_b50 (k + N) M = f_X11_text_b50 k M') ∧ RP n B ts M' ∧ NmS (cnt C S N 0 0 F) nmv M' ∧ (∀ k, k < N → M'.1 324 (5 + k) = nI (1 + (kl k).length) ∧ ∀ (j a b : Nat), ((kf k, kg k) :: kl k)[j]? = some (a, b) → M'.1 325 (3 * (5 + k) + j) = nI a ∧ M'.1 326 (3 * (5 + k) + j) = nI b) ∧ Fr (RoI 321 326) RoL M M' := by
  have len2 : ∀ k, k < N → ∀ (j : Nat) (q : Nat × Nat), ((kf k, kg k) :: kl k)[j]? = some q → j < 3 := fun k hk j q z => by
    have l := (hok k hk).2.1
    have := (List.getElem?_eq_some_iff.mp z).1
    rw [List.length_cons] at this
    omega
  have key := grp_r (n := n) (B := B) (T := kdTk ks fo ag kf kg kl) (P := fun i X => NmS (cnt C S i 0 0 F) nmv X ∧ (∀ k, k < i → X.1 324 (5 + k) = nI (1 + (kl k).length) ∧ ∀ (j a b : Nat), ((kf k, kg k) :: kl k)[j]? = some (a, b) → X.1 325 (3 * (5 + k) + j) = nI a ∧ X.1 326 (3 * (5 + k) + j) = nI b) ∧ Fr (RoI 321 326) RoL M X) (N := N) (fun i => ⟨wd1 31, _, rfl, by show (1 : Int32) ≠ 0; decide⟩) (fun i X ts hi hP hX => by
    obtain ⟨p1, p2, p3⟩ := hP
    obtain ⟨⟨o1, o2⟩, o3, o4⟩ := hok i hi
    have hX' : RP n B (wd1 31 :: (kindT i (ks i) (fo i) (ag i) (kf i) (kg i) (kl i) ++ semi :: ts)) X := by
      have : kdTk ks fo ag kf kg kl i ++ ts = wd1 31 :: (kindT i (ks i) (fo i) (ag i) (kf i) (kg i) (kl i) ++ semi :: ts) := by
        unfold kdTk
        rw [List.cons_append, List.append_assoc]
        rfl
      rw [this] at hX
      exact hX
    obtain ⟨a0, b0, c0⟩ := o4 0 (kf i) (kg i) rfl
    obtain ⟨Y, e, q, qn, qd, qf⟩ := line_go (ts := ts) (x := 2) (m := 5) (P := fun _ Z => Z.1 324 (5 + i) = nI (1 + (kl i).length) ∧ ∀ (j a b : Nat), ((kf i, kg i) :: kl i)[j]? = some (a, b) → Z.1 325 (3 * (5 + i) + j) = nI a ∧ Z.1 326 (3 * (5 + i) + j) = nI b) (I := KdI i) (L := fun r k => r = 316 ∧ k = 56 + i) (dis_3 hX') hX' p1 (by omega) (show i < 5 by omega) (by omega) (fun M1 h1 n1 _ => by
      obtain ⟨M2, a1, a2, a3, a4, a5, a6⟩ := kindLine_r (ts := ts) (c := i) h1 n1 rfl (show i < 5 by omega) o1 o2 o3 a0 b0 c0 (fun j f g z => o4 (j + 1) f g z)
      exact ⟨M2, a1, a2, a3, ⟨a4, a5⟩, a6⟩) (fun _ M2 M3 _ z f => ⟨by rw [f.2.2 _ _ (by omega)]; exact z.1, fun j a b y => by rw [f.2.2 _ _ (by omega), f.2.2 _ _ (by omega)]; exact z.2 j a b y⟩)
    rw [cnU_2] at qn
    refine ⟨Y, e, q, qn, fun k hk => ?_, p3.tr (qf.mono (fun r k z => by unfold KdI PrL at z; unfold RoI; omega) (fun r k z => z.1))⟩
    rcases Nat.lt_or_ge k i with z | z
    · obtain ⟨u, v⟩ := p2 k z
      refine ⟨by rw [qf.2.2 _ _ (by omega) (fun y => by unfold KdI PrL at y; omega)]; exact u, fun j a b y => ?_⟩
      have j3 := len2 k (by omega) j _ y
      rw [qf.2.2 _ _ (by omega) (fun y => by unfold KdI PrL at y; omega), qf.2.2 _ _ (by omega) (fun y => by unfold KdI PrL at y; omega)]
      exact v j a b y
    · rw [show k = i by omega]; exact qd) (ts := ts) N 0 M (by omega) ⟨hn, fun c hc => absurd hc (Nat.not_lt_zero c), Fr.refl _ _ M⟩ h
  obtain ⟨M', e, q, a, b, c⟩ := key
  exact ⟨M', e, q, a, b, c⟩
def bdTk (bn : Nat → Nat) (bm : Nat → List (List Nat)) (b : Nat) : List Tok := wd1 32 :: nam 3 b :: num (bn b) :: (memsT (bm b) ++ [semi])
theorem g_bd {bn : Nat → Nat} {bm : Nat → List (List Nat)} {C S K F N : Nat} (hN : N ≤ 3) (hok : ∀ b, b < N → (1 ≤ bn b ∧ bn b ≤ 9) ∧ 0 < (bm b).length ∧ (bm b).length ≤ 7 ∧ ∀ m, m ∈ bm b → ∃ c l, m = c :: l ∧ l.length < 100 ∧ ∀ d, d ∈ m → d < C) (h : RP n B (grp (bdTk bn bm) 0 N ++ ts) M) (hn : NmS (cnt C S K 0 0 F) nmv M) :
    ∃ M', (∀ k, f_X11_text_b50 (k + N) M = f_X11_text_b50 k M') ∧ RP n B ts M' ∧ NmS (cnt C S K N 0 F) nmv M' ∧ Fr (RoI 327 329) RoL M M' := by
  have key := grp_r (n := n) (B := B) (T := bdTk bn bm) (P := fun i X => NmS (cnt C S K i 0 F) nmv X ∧ Fr (RoI 327 329) RoL M X) (N := N) (fun i => ⟨wd1 32, _, rfl, by show (1 : Int32) ≠ 0; decide⟩) (fun i X ts hi hP hX => by
    obtain ⟨p1, p3⟩ := hP
    obtain ⟨⟨o1, o2⟩, o3, o4, o5⟩ := hok i hi
    have hX' : RP n B (wd1 32 :: (nam 3 i :: num (bn i) :: (memsT (bm i) ++ semi :: ts))) X := by
      have : bdTk bn bm i ++ ts = wd1 32 :: (nam 3 i :: num (bn i) :: (memsT (bm i) ++ semi :: ts)) := by
        unfold bdTk
        rw [List.cons_append, List.cons_append, List.cons_append, List.append_assoc]
        rfl
      rw [this] at hX
      exact hX
    obtain ⟨Y, e, q, qn, qd, qf⟩ := line_go (ts := ts) (x := 3) (m := 3) (P := fun _ _ => True) (I := BdI (3 + i)) (L := fun r k => r = 316 ∧ k = 64 + i) (dis_4 hX') hX' p1 (by omega) (show i < 3 by omega) (by omega) (fun M1 h1 n1 _ => by
      obtain ⟨M2, a1, a2, a3, a4⟩ := boardLine_r (ts := ts) (v := bn i) (ms := bm i) h1 n1 (show i < 3 by omega) o1 o2 o3 o4 o5
      exact ⟨M2, a1, a2, a3, trivial, a4⟩) (fun _ _ _ _ _ _ => trivial)
    rw [cnU_3] at qn
    exact ⟨Y, e, q, qn, p3.tr (qf.mono (fun r k z => by unfold BdI at z; unfold RoI; omega) (fun r k z => z.1))⟩) (ts := ts) N 0 M (by omega) ⟨hn, Fr.refl _ _ M⟩ h
  obtain ⟨M', e, q, a, b⟩ := key
  exact ⟨M', e, q, a, b⟩
def pyTk (pm pk pS pp : Nat → Nat) (py : Nat → Bool) (pf : Nat → List FrD) (p : Nat) : List Tok := wd1 33 :: (playT p (pm p) (pk p) (pS p) (pp p) (py p) (pf p) ++ [semi])
theorem g_py {pm pk pS pp : Nat → Nat} {py : Nat → Bool} {pf : Nat → List FrD} {C S K D F N : Nat} (hN : N ≤ 8) (hmo : ∀ p, p + 1 < N → pm p ≤ pm (p + 1)) (hok : ∀ p, p < N → pm p ≤ 999 ∧ pk p < K ∧ pS p < S ∧ pp p ≤ 99 ∧ (pf p).length ≤ 10 ∧ ∀ f, f ∈ pf p → f.1 < C ∧ f.2.1 ≤ 999 ∧ mkOk 0 f.2.2 ∧ f.2.2.length < 100) (h : RP n B (grp (pyTk pm pk pS pp py pf) 0 N ++ ts) M) (hn : NmS (cnt C S K D 0 F) nmv M) :
    ∃ M', (∀ k, f_X11_text_b50 (k + N) M = f_X11_text_b50 k M') ∧ RP n B ts M' ∧ NmS (cnt C S K D N F) nmv M' ∧ (∀ p, p < N → M'.1 331 (8 + p) = nI (pk p) ∧ M'.1 335 (8 + p) = nI (pf p).length ∧ ∀ (i : Nat) (f : FrD), (pf p)[i]? = some f → FdC M' (10 * (8 + p) + i) f) ∧ Fr (RoI 330 339) RoL M M' := by
  have key := grp_r (n := n) (B := B) (T := pyTk pm pk pS pp py pf) (P := fun i X => NmS (cnt C S K D i F) nmv X ∧ (∀ p, p < i → X.1 330 (8 + p) = nI (pm p) ∧ X.1 331 (8 + p) = nI (pk p) ∧ X.1 335 (8 + p) = nI (pf p).length ∧ ∀ (j : Nat) (f : FrD), (pf p)[j]? = some f → FdC X (10 * (8 + p) + j) f) ∧ Fr (RoI 330 339) RoL M X) (N := N) (fun i => ⟨wd1 33, _, rfl, by show (1 : Int32) ≠ 0; decide⟩) (fun i X ts hi hP hX => by
    obtain ⟨p1, p2, p3⟩ := hP
    obtain ⟨o1, o2, o3, o4, o5, o6⟩ := hok i hi
    have hX' : RP n B (wd1 33 :: (playT i (pm i) (pk i) (pS i) (pp i) (py i) (pf i) ++ semi :: ts)) X := by
      have : pyTk pm pk pS pp py pf i ++ ts = wd1 33 :: (playT i (pm i) (pk i) (pS i) (pp i) (py i) (pf i) ++ semi :: ts) := by
        unfold pyTk
        rw [List.cons_append, List.append_assoc]
        rfl
      rw [this] at hX
      exact hX
    obtain ⟨Y, e, q, qn, qd, qf⟩ := line_go (ts := ts) (x := 4) (m := 8) (P := fun _ Z => Z.1 330 (8 + i) = nI (pm i) ∧ Z.1 331 (8 + i) = nI (pk i) ∧ Z.1 335 (8 + i) = nI (pf i).length ∧ ∀ (j : Nat) (f : FrD), (pf i)[j]? = some f → FdC Z (10 * (8 + i) + j) f) (I := PyI i) (L := fun r k => r = 316 ∧ k = 72 + i) (dis_5 hX') hX' p1 (by omega) (show i < 8 by omega) (by omega) (fun M1 h1 n1 f1 => by
      have lo3 : i ≠ 0 → M1.1 330 (8 + i - 1) = nI (if i = 0 then 0 else pm (i - 1)) := fun z => by
        have := (p2 (i - 1) (by omega)).1
        rw [f1.2.2 _ _ (by omega), if_neg z, show 8 + i - 1 = 8 + (i - 1) by omega]
        exact this
      obtain ⟨M2, a1, a2, a3, a4, a5, a6, a7, a8⟩ := playLine_r (ts := ts) (p := i) (lo := if i = 0 then 0 else pm (i - 1)) h1 n1 rfl (show i < 8 by omega) (show pk i < K from o2) (show pS i < S from o3) (by
        by_cases z : i = 0
        · exact Or.inl (if_pos z)
        · exact Or.inr (lo3 z)) (fun z => if_pos z) lo3 (by
        by_cases z : i = 0
        · rw [if_pos z]; exact Nat.zero_le _
        · rw [if_neg z]
          have := hmo (i - 1) (by omega)
          rw [show i - 1 + 1 = i by omega] at this
          exact this) o1 o4 o5 (fun f hf => o6 f hf)
      exact ⟨M2, a1, a2, a3, ⟨a4, a5, a6, a7⟩, a8⟩) (fun _ M2 M3 _ z f => ⟨by rw [f.2.2 _ _ (by omega)]; exact z.1, by rw [f.2.2 _ _ (by omega)]; exact z.2.1, by rw [f.2.2 _ _ (by omega)]; exact z.2.2.1, fun j g y => (z.2.2.2 j g y).fr (I := noC) f.fr (fun _ _ u => u)⟩)
    rw [cnU_4] at qn
    refine ⟨Y, e, q, qn, fun p hp => ?_, p3.tr (qf.mono (fun r k z => by unfold PyI FsI at z; unfold RoI; omega) (fun r k z => z.1))⟩
    rcases Nat.lt_or_ge p i with z | z
    · obtain ⟨u1, u2, u3, u4⟩ := p2 p z
      refine ⟨by rw [qf.2.2 _ _ (by omega) (fun y => by unfold PyI FsI at y; omega)]; exact u1, by rw [qf.2.2 _ _ (by omega) (fun y => by unfold PyI FsI at y; omega)]; exact u2, by rw [qf.2.2 _ _ (by omega) (fun y => by unfold PyI FsI at y; omega)]; exact u3, fun j f y => ?_⟩
      have l := (hok p (by omega)).2.2.2.2.1
      have jl := (List.getElem?_eq_some_iff.mp y).1
      obtain ⟨v1, v2, v3, v4⟩ := u4 j f y
      have no : ∀ r, r = 336 ∨ r = 337 ∨ r = 338 ∨ r = 339 → ¬ PyI i r (10 * (8 + p) + j) := fun r hr y => by unfold PyI FsI at y; omega
      exact ⟨by rw [qf.2.2 _ _ (by omega) (no _ (by omega)), v1], by rw [qf.2.2 _ _ (by omega) (no _ (by omega)), v2], by rw [qf.2.2 _ _ (by omega) (no _ (by omega)), v3], by rw [qf.2.2 _ _ (by omega) (no _ (by omega)), v4]⟩
    · rw [show p = i by omega]; exact qd) (ts := ts) N 0 M (by omega) ⟨hn, fun c hc => absurd hc (Nat.not_lt_zero c), Fr.refl _ _ M⟩ h
  obtain ⟨M', e, q, a, b, c⟩ := key
  exact ⟨M', e, q, a, fun p hp => (b p hp).2, c⟩
def rlTk (rv : Nat → Nat) (x : Nat) : List Tok := [wd1 (34 + x), num (rv x), semi]
theorem g_rl {rv : Nat → Nat} (hok : ∀ x, x < 4 → rv x ≤ (if x = 0 ∨ x = 2 then 999 else 9)) (h0 : ∀ x, x < 4 → M.1 315 x = 0) (h : RP n B (grp (rlTk rv) 0 4 ++ ts) M) :
    ∃ M', (∀ k, f_X11_text_b50 (k + 4) M = f_X11_text_b50 k M') ∧ RP n B ts M' ∧ Fr (fun r _ => r = 314 ∨ r = 315) noC M M' := by
  have key := grp_r (n := n) (B := B) (T := rlTk rv) (P := fun i X => (∀ x, i ≤ x → x < 4 → X.1 315 x = 0) ∧ Fr (fun r _ => r = 314 ∨ r = 315) noC M X) (N := 4) (fun i => ⟨wd1 (34 + i), _, rfl, by show (1 : Int32) ≠ 0; decide⟩) (fun i X ts hi hP hX => by
    obtain ⟨p1, p3⟩ := hP
    have hX' : RP n B (wd1 (34 + i) :: num (rv i) :: semi :: ts) X := hX
    obtain ⟨Y, e, q, qf⟩ := ruleLine_r (ts := semi :: ts) (v := rv i) hX' hi (p1 i (Nat.le_refl _) hi) (hok i hi)
    obtain ⟨Z, e2, q2, f2⟩ := semi_r q
    refine ⟨Z, ?_, q2, fun x hx hx4 => ?_, p3.tr ((qf.mono (fun r k z => by omega) (fun _ _ z => z)).tr f2.fr)⟩
    · rw [dis_r i hi hX', e, clv_s, e2]
    · rw [f2.2.2 _ _ (by omega), qf.2.2 _ _ (by omega) (by omega)]
      exact p1 x (by omega) hx4) (ts := ts) 4 0 M (by omega) ⟨fun x _ hx => h0 x hx, Fr.refl _ _ M⟩ h
  obtain ⟨M', e, q, a, b⟩ := key
  exact ⟨M', e, q, b⟩
end GROUPS
