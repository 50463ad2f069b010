/-! A BOARD's line (p37) -/
section BOARD
variable {n : Nat} {B : Nat → Nat} {ts : List Tok} {t : Tok} {M M' : Mem} {cn : Nat → Nat}
/-- a member: cameras in brackets; what is behind the bracket -/
def camsT (l : List Nat) : List Tok := l.map (fun c => ((1 : Int32), (0 : Nat), nmv 0 c))
theorem known0_r {i : Nat} (h : RP n B (((1 : Int32), (0 : Nat), nmv 0 i) :: ts) M) (N : NmS cn nmv M) (hi : i < cn 0) : ∃ M', f_X11_known 0 M = some (nI i, M') ∧ RP n B ts M' ∧ FsR M M' := by
  have c0 := (N.1 0 (by omega)).2
  obtain ⟨M1, e1, p1, f1⟩ := known_r h (noOwn_nmv (by omega) (by omega)) N (x := 0) (by omega) hi rfl (fun a ha z => (nmv_inj 0 (by omega) 0 (by omega) a (by omega) i (by omega) z).2)
  exact ⟨M1, e1, p1, f1⟩
theorem mem6_r (l : List Nat) : ∀ (c : Nat) (x : Int32) (M : Mem), RP n B (camsT (c :: l) ++ ((41 : Int32), (0 : Nat), (0 : Nat)) :: ts) M → NmS cn nmv M → (∀ d, d ∈ c :: l → d < cn 0) → ∀ k, l.length < k → ∃ y M', f_X11_member_b6 k x M = some (y, M') ∧ RP n B ts M' ∧ FsR M M' := by
  induction l with
  | nil =>
    intro c x M h N hd k hk
    obtain ⟨k, rfl⟩ : ∃ k', k = k' + 1 := ⟨k - 1, by have : 0 < k := hk; omega⟩
    have h' : RP n B (((1 : Int32), (0 : Nat), nmv 0 c) :: (((41 : Int32), (0 : Nat), (0 : Nat)) :: ts)) M := h
    obtain ⟨M1, e1, p1, f1⟩ := known0_r h' N (hd c (List.mem_cons_self))
    obtain ⟨M2, e2, p2, f2⟩ := p1.adv
    refine ⟨x ||| ((1 : Int32) <<< (nI c &&& 31)), M2, ?_, p2, f1.tr f2⟩
    show f_X11_member_b6_s (f_X11_member_b6 k) x M = _
    unfold f_X11_member_b6_s f_X11_member_b32
    simp only [bnd_e]
    rw [e1, cl_s, if_pos p1.f9, if_pos (show M1.1 311 6 = 41 from p1.rt.1), if_pos p1.f9, e2, clv_s]
  | cons d l ih =>
    intro c x M h N hd k hk
    obtain ⟨k, rfl⟩ : ∃ k', k = k' + 1 := ⟨k - 1, by have : 0 < k := Nat.lt_of_le_of_lt (Nat.zero_le _) hk; omega⟩
    rw [List.length_cons] at hk
    have h' : RP n B (((1 : Int32), (0 : Nat), nmv 0 c) :: (camsT (d :: l) ++ ((41 : Int32), (0 : Nat), (0 : Nat)) :: ts)) M := h
    obtain ⟨M1, e1, p1, f1⟩ := known0_r h' N (hd c (List.mem_cons_self))
    have p1' : RP n B (((1 : Int32), (0 : Nat), nmv 0 d) :: (camsT l ++ ((41 : Int32), (0 : Nat), (0 : Nat)) :: ts)) M1 := p1
    obtain ⟨y, M2, e2, p2, f2⟩ := ih d (x ||| ((1 : Int32) <<< (nI c &&& 31))) M1 p1 (N.fs f1) (fun a ha => hd a (List.mem_cons_of_mem _ ha)) k (by omega)
    refine ⟨y, M2, ?_, p2, f1.tr f2⟩
    show f_X11_member_b6_s (f_X11_member_b6 k) x M = _
    unfold f_X11_member_b6_s
    simp only [bnd_e]
    rw [e1, cl_s, if_pos p1.f9, if_neg (by rw [show M1.1 311 6 = 1 from p1'.rt.1]; decide), e2]
def memT (l : List Nat) : List Tok := ((40 : Int32), (0 : Nat), (0 : Nat)) :: (camsT l ++ [((41 : Int32), (0 : Nat), (0 : Nat))])
theorem member_r {c : Nat} {l : List Nat} (h : RP n B (memT (c :: l) ++ ts) M) (N : NmS cn nmv M) (hd : ∀ d, d ∈ c :: l → d < cn 0) (hl : l.length < 100) : ∃ y M', f_X11_member M = some (y, M') ∧ RP n B ts M' ∧ FsR M M' := by
  have h' : RP n B (((40 : Int32), (0 : Nat), (0 : Nat)) :: (camsT (c :: l) ++ ((41 : Int32), (0 : Nat), (0 : Nat)) :: ts)) M := by
    have : memT (c :: l) ++ ts = ((40 : Int32), (0 : Nat), (0 : Nat)) :: (camsT (c :: l) ++ ((41 : Int32), (0 : Nat), (0 : Nat)) :: ts) := by
      unfold memT
      simp only [List.cons_append, List.append_assoc, List.nil_append]
    rw [this] at h
    exact h
  obtain ⟨M1, e1, p1, f1⟩ := h'.adv
  obtain ⟨y, M2, e2, p2, f2⟩ := mem6_r l c 0 M1 p1 (N.fs f1) hd fuel (by unfold fuel; omega)
  refine ⟨y, M2, ?_, p2, f1.tr f2⟩
  unfold f_X11_member
  rw [e1, clv_s, e2]
def BdI (q : Nat) : Nat → Nat → Prop := fun r k => (r = 327 ∧ k = q) ∨ (r = 328 ∧ k = q) ∨ (r = 329 ∧ 7 * q ≤ k ∧ k < 7 * q + 7) ∨ (r = 313 ∧ k = 9)
def memsT (ms : List (List Nat)) : List Tok := ms.flatMap memT
theorem mems_r {q : Nat} (hq : q < 6) (ms : List (List Nat)) : ∀ (i : Nat) (M : Mem), ms.length + i ≤ 7 → RP n B (memsT ms ++ ((59 : Int32), (0 : Nat), (0 : Nat)) :: ts) M → NmS cn nmv M → cn 3 < 8 → (∀ m, m ∈ ms → ∃ c l, m = c :: l ∧ l.length < 100 ∧ ∀ d, d ∈ m → d < cn 0) → M.1 328 q = nI i → ∀ k, ms.length < k →
    ∃ M', f_X11_boardLine_b56 k (nI q) M = some M' ∧ RP n B (((59 : Int32), (0 : Nat), (0 : Nat)) :: ts) M' ∧ M'.1 313 9 = nI (cn 3 + 1) ∧ Fr (BdI q) noC M M' := by
  induction ms with
  | nil =>
    intro i M hl h N hc hm e k hk
    obtain ⟨k, rfl⟩ : ∃ k', k = k' + 1 := ⟨k - 1, by have : 0 < k := hk; omega⟩
    have h' : RP n B (((59 : Int32), (0 : Nat), (0 : Nat)) :: ts) M := h
    refine ⟨setI M 313 9 (nI (cn 3 + 1)), ?_, h'.I (by omega), setI_s, fr_I M (Or.inr (Or.inr (Or.inr ⟨rfl, rfl⟩)))⟩
    show f_X11_boardLine_b56_s (f_X11_boardLine_b56 k) (nI q) M = _
    unfold f_X11_boardLine_b56_s f_X11_boardLine_b130
    simp only [bnd_e]
    rw [if_pos h'.f9, if_neg (by rw [show M.1 311 6 = 59 from h'.rt.1]; decide), if_pos h'.f9, show M.1 313 9 = nI (cn 3) from (N.1 3 (by omega)).1, nI_1]
  | cons m ms ih =>
    intro i M hl h N hc hm e k hk
    obtain ⟨k, rfl⟩ : ∃ k', k = k' + 1 := ⟨k - 1, by have : 0 < k := Nat.lt_of_le_of_lt (Nat.zero_le _) hk; omega⟩
    rw [List.length_cons] at hl hk
    obtain ⟨c, l, rfl, hl2, hd⟩ := hm m (List.mem_cons_self)
    have h' : RP n B (memT (c :: l) ++ (memsT ms ++ ((59 : Int32), (0 : Nat), (0 : Nat)) :: ts)) M := by
      have : memsT ((c :: l) :: ms) ++ ((59 : Int32), (0 : Nat), (0 : Nat)) :: ts = memT (c :: l) ++ (memsT ms ++ ((59 : Int32), (0 : Nat), (0 : Nat)) :: ts) := by
        unfold memsT
        rw [List.flatMap_cons, List.append_assoc]
      rw [this] at h
      exact h
    have h40 : M.1 311 6 = 40 := by
      have h2 : RP n B (((40 : Int32), (0 : Nat), (0 : Nat)) :: (camsT (c :: l) ++ [((41 : Int32), (0 : Nat), (0 : Nat))] ++ (memsT ms ++ ((59 : Int32), (0 : Nat), (0 : Nat)) :: ts))) M := h'
      exact h2.rt.1
    obtain ⟨y, M1, e1, p1, f1⟩ := member_r h' N hd hl2
    have N1 := N.fs f1
    obtain ⟨M2, h2⟩ : ∃ X, X = setI M1 329 (7 * q + i) y := ⟨_, rfl⟩
    obtain ⟨M3, h3⟩ : ∃ X, X = setI M2 328 q (nI (i + 1)) := ⟨_, rfl⟩
    have d2 : M2.1 328 q = nI i := by rw [h2, setI_n (by omega), f1.2.2 _ _ (by omega), e]
    have p3 := (p1.I' h2 (by omega)).I' h3 (by omega)
    have N3 : NmS cn nmv M3 := by rw [h3, h2]; exact (N1.I (by omega)).I (by omega)
    obtain ⟨M4, e4, p4, c4, f4⟩ := ih (i + 1) M3 (by omega) p3 N3 hc (fun m hm' => hm m (List.mem_cons_of_mem _ hm')) (by rw [h3, setI_s]) k (by omega)
    have q2 : Fr (BdI q) noC M1 M2 := by rw [h2]; exact fr_I M1 (Or.inr (Or.inr (Or.inl ⟨rfl, by omega, by omega⟩)))
    have q3 : Fr (BdI q) noC M2 M3 := by rw [h3]; exact fr_I M2 (Or.inr (Or.inl ⟨rfl, rfl⟩))
    refine ⟨M4, ?_, p4, c4, f1.fr.tr (q2.tr (q3.tr f4))⟩
    have ix : 7 * nI q + nI i = nI (7 * q + i) := by rw [show (7 : Int32) = nI 7 from rfl, nI_mul', nI_add]
    show f_X11_boardLine_b56_s (f_X11_boardLine_b56 k) (nI q) M = _
    unfold f_X11_boardLine_b56_s f_X11_boardLine_b89
    simp only [bnd_e]
    have cq : (nI q).toNatClampNeg = q := nI_clamp (by omega)
    have ck : (nI (7 * q + i)).toNatClampNeg = 7 * q + i := nI_clamp (by omega)
    have e' : M.1 328 (nI q).toNatClampNeg = nI i := by rw [cq]; exact e
    have h2' : setI M1 329 (nI (7 * q + i)).toNatClampNeg y = M2 := by rw [ck, h2]
    have d2' : M2.1 328 (nI q).toNatClampNeg = nI i := by rw [cq]; exact d2
    have h3' : setI M2 328 (nI q).toNatClampNeg (nI (i + 1)) = M3 := by rw [cq, h3]
    rw [if_pos h.f9, if_pos h40, gd_t (inb_nI (by omega) (by omega)), e', if_neg (show ¬ (7 : Int32) ≤ nI i by rw [show (7 : Int32) = nI 7 from rfl]; exact nI_ge (by omega) (by omega)), must_t h.f9 (by decide), cl_s, if_neg (show ¬ (1 : Int32) = 0 by decide), gd_t (inb_nI (by omega) (by omega)), e1, cl_s, e', ix, gd_t (inb_nI (by omega) (by omega)), h2', d2', show nI i + 1 = nI (i + 1) from nI_1 i, h3', e4]
theorem boardLine_r {v : Nat} {ms : List (List Nat)} (h : RP n B (((1 : Int32), (0 : Nat), nmv 3 (cn 3)) :: ((2 : Int32), v, (0 : Nat)) :: (memsT ms ++ ((59 : Int32), (0 : Nat), (0 : Nat)) :: ts)) M) (N : NmS cn nmv M) (hc : cn 3 < 3) (h1 : 1 ≤ v) (h9 : v ≤ 9) (h0 : 0 < ms.length) (h7 : ms.length ≤ 7) (hm : ∀ m, m ∈ ms → ∃ c l, m = c :: l ∧ l.length < 100 ∧ ∀ d, d ∈ m → d < cn 0) :
    ∃ M', f_X11_boardLine M = some M' ∧ RP n B (((59 : Int32), (0 : Nat), (0 : Nat)) :: ts) M' ∧ NmS (cnU cn 3) nmv M' ∧ Fr (BdI (3 + cn 3)) (fun r k => r = 316 ∧ k = 64 + cn 3) M M' := by
  obtain ⟨M1, e1, p1, w1, f1⟩ := newName_r h (noOwn_nmv (by omega) (by omega)) N (x := 3) (by omega) (by omega) (N.no (by omega) (by omega))
  have e1' : f_X11_newName 3 M = some M1 := e1
  have N1 : NmS cn nmv M1 := N.fr f1 (fun _ _ z => z) (fun s k hs hk z => by
    have := (N.1 s (by omega)).2
    rcases (show s = 0 ∨ s = 1 ∨ s = 2 ∨ s = 3 ∨ s = 4 by omega) with q | q | q | q | q <;> subst q <;> omega)
  obtain ⟨M2, e2, p2, f2⟩ := number_r p1 (lo := 1) (hi := 9) h1 h9 (by omega)
  have e2' : f_X11_number 1 9 M1 = some (nI v, M2) := e2
  have N2 := N1.fs f2
  obtain ⟨M3, h3⟩ : ∃ X, X = setI M2 327 (3 + cn 3) (nI v) := ⟨_, rfl⟩
  obtain ⟨M4, h4⟩ : ∃ X, X = setI M3 328 (3 + cn 3) 0 := ⟨_, rfl⟩
  have p4 := (p2.I' h3 (by omega)).I' h4 (by omega)
  have N4 : NmS cn nmv M4 := by rw [h4, h3]; exact (N2.I (by omega)).I (by omega)
  have h40 : M4.1 311 6 = 40 := by
    cases ms with
    | nil => exact absurd h0 (Nat.lt_irrefl 0)
    | cons m ms =>
      obtain ⟨c, l, rfl, -⟩ := hm m (List.mem_cons_self)
      have h2 : RP n B (((40 : Int32), (0 : Nat), (0 : Nat)) :: (camsT (c :: l) ++ [((41 : Int32), (0 : Nat), (0 : Nat))] ++ ms.flatMap memT ++ (((59 : Int32), (0 : Nat), (0 : Nat)) :: ts))) M4 := p4
      exact h2.rt.1
  obtain ⟨M5, e5, p5, c5, f5⟩ := mems_r (q := 3 + cn 3) (by omega) ms 0 M4 (by omega) p4 N4 (by omega) hm (by rw [h4, setI_s]; rfl) fuel (by unfold fuel; omega)
  have w4 : M4.2.1 316 (40 + 8 * 3 + cn 3) = lN (nmv 3 (cn 3)) := by
    rw [h4, h3]
    show M2.2.1 _ _ = _
    rw [f2.2.1 _ _ (by omega)]
    exact w1
  refine ⟨M5, ?_, p5, ?_, ?_⟩
  · unfold f_X11_boardLine f_X11_boardLine_b48
    simp only [bnd_e]
    rw [e1', clv_s, (show f_X11_read 3 M1 = some (nI (cn 3), M1) from read_r N1 (x := 3) (by omega)), cl_s, e2', cl_s, show (3 : Int32) + nI (cn 3) = nI (3 + cn 3) from nI_add _ _, gd_t (inb_nI (by omega) (by omega)), nI_clamp (by omega), ← h3, ← h4, if_pos h40, must_t p4.f9 (by decide), cl_s, if_neg (show ¬ (1 : Int32) = 0 by decide), e5]
  · refine ⟨fun s hs => ?_, fun s k hs hk => ?_⟩
    · unfold cnU
      by_cases cs : s = 3
      · subst cs
        rw [if_pos rfl]
        exact ⟨c5, by omega⟩
      · rw [if_neg cs, f5.2.2 _ _ (by omega) (fun z => by unfold BdI at z; omega)]
        exact N4.1 s hs
    · rw [f5.2.1 _ _ (by omega) (fun z => z)]
      unfold cnU at hk
      by_cases cs : s = 3
      · subst cs
        rw [if_pos rfl] at hk
        rcases Nat.lt_or_ge k (cn 3) with q | q
        · exact N4.2 3 k hs q
        · rw [show k = cn 3 by omega]
          exact ⟨w4, (nmv_own 3 (by omega) (cn 3) (by omega)).1⟩
      · rw [if_neg cs] at hk
        exact N4.2 s k hs hk
  · have m3 : Fr (BdI (3 + cn 3)) (fun r k => r = 316 ∧ k = 64 + cn 3) M2 M3 := by rw [h3]; exact fr_I M2 (Or.inl ⟨rfl, rfl⟩)
    have m4 : Fr (BdI (3 + cn 3)) (fun r k => r = 316 ∧ k = 64 + cn 3) M3 M4 := by rw [h4]; exact fr_I M3 (Or.inr (Or.inl ⟨rfl, rfl⟩))
    exact (f1.mono (fun _ _ z => z.elim) (fun _ _ z => by omega)).tr (f2.fr.tr (m3.tr (m4.tr (f5.mono (fun _ _ z => z) (fun _ _ z => z.elim)))))
end BOARD
