/-! WHAT A PLAY IS, told by both alike -/
/-- the data that the verdicts rest on is the same -/
def Dat (M M' : Mem) : Prop := ∀ a, 313 ≤ a → a ≤ 339 → a ≠ 316 → M'.1 a = M.1 a
theorem Dat.refl (M : Mem) : Dat M M := fun _ _ _ _ => rfl
theorem Dat.tr {M M' M'' : Mem} (h : Dat M M') (h' : Dat M' M'') : Dat M M'' := fun a h1 h2 h3 => (h' a h1 h2 h3).trans (h a h1 h2 h3)
theorem MOk.dat {M M' : Mem} (O : MOk M) (h : Dat M M') : MOk M' := by
  have h0 := h 313 (by omega) (by omega) (by omega)
  have h1 := h 314 (by omega) (by omega) (by omega)
  have h2 := h 317 (by omega) (by omega) (by omega)
  have h3 := h 318 (by omega) (by omega) (by omega)
  have h4 := h 319 (by omega) (by omega) (by omega)
  have h5 := h 320 (by omega) (by omega) (by omega)
  have h6 := h 321 (by omega) (by omega) (by omega)
  have h7 := h 322 (by omega) (by omega) (by omega)
  have h8 := h 323 (by omega) (by omega) (by omega)
  have h9 := h 324 (by omega) (by omega) (by omega)
  have h10 := h 325 (by omega) (by omega) (by omega)
  have h11 := h 326 (by omega) (by omega) (by omega)
  have h12 := h 327 (by omega) (by omega) (by omega)
  have h13 := h 328 (by omega) (by omega) (by omega)
  have h14 := h 329 (by omega) (by omega) (by omega)
  have h15 := h 330 (by omega) (by omega) (by omega)
  have h16 := h 331 (by omega) (by omega) (by omega)
  have h17 := h 332 (by omega) (by omega) (by omega)
  have h18 := h 333 (by omega) (by omega) (by omega)
  have h19 := h 334 (by omega) (by omega) (by omega)
  have h20 := h 335 (by omega) (by omega) (by omega)
  have h21 := h 336 (by omega) (by omega) (by omega)
  have h22 := h 337 (by omega) (by omega) (by omega)
  have h23 := h 338 (by omega) (by omega) (by omega)
  have h24 := h 339 (by omega) (by omega) (by omega)
  unfold MOk Cn Fn Pn Bn at O ⊢
  rw [h0, h1, h2, h3, h4, h5, h6, h7, h8, h9, h10, h11, h12, h13, h14, h15, h16, h17, h18, h19, h20, h21, h22, h23, h24]
  exact O
theorem CK_dat {M M' : Mem} (h : Dat M M') (p s : Nat) : CK M' p s = CK M p s := by
  have h0 := h 313 (by omega) (by omega) (by omega)
  have h2 := h 317 (by omega) (by omega) (by omega)
  have h3 := h 318 (by omega) (by omega) (by omega)
  have h4 := h 319 (by omega) (by omega) (by omega)
  have h20 := h 335 (by omega) (by omega) (by omega)
  have h21 := h 336 (by omega) (by omega) (by omega)
  have h22 := h 337 (by omega) (by omega) (by omega)
  have h23 := h 338 (by omega) (by omega) (by omega)
  have h24 := h 339 (by omega) (by omega) (by omega)
  unfold CK CC NM NC NF Cn Fn qc qs qn fi fj fby
  rw [h0, h2, h3, h4, h20, h21, h22, h23, h24]
theorem CC_dat {M M' : Mem} (h : Dat M M') : CC M' = CC M := by
  have h0 := h 313 (by omega) (by omega) (by omega)
  have h2 := h 317 (by omega) (by omega) (by omega)
  have h3 := h 318 (by omega) (by omega) (by omega)
  have h4 := h 319 (by omega) (by omega) (by omega)
  unfold CC NC NF Cn fi fj fby
  rw [h0, h2, h3, h4]
theorem PR_dat {M M' : Mem} (h : Dat M M') (p : Nat) : PR M' (kp M' p) = PR M (kp M p) := by
  have h9 := h 324 (by omega) (by omega) (by omega)
  have h10 := h 325 (by omega) (by omega) (by omega)
  have h11 := h 326 (by omega) (by omega) (by omega)
  have h16 := h 331 (by omega) (by omega) (by omega)
  unfold PR kp Pn pf ps
  rw [h9, h10, h11, h16]
def vq (M : Mem) (p s : Nat) : Int32 := match f_X11_verdictOf (nI p) (nI s) M with
  | some (r, _) => r
  | none => 0
theorem vq_ref {M : Mem} (O : MOk M) {p s : Nat} (hp : p < Cn M 4) (hs : s < 1024) : ∃ d', f_X11_verdictOf (nI p) (nI s) M = some (vq M p s, sA M 344 d') ∧ IsV (CK M p s) (PR M (kp M p)) (vq M p s) := by
  obtain ⟨r, d', e, h⟩ := verdict_f O hp hs (M.1 344)
  rw [sA_self] at e
  have : vq M p s = r := by unfold vq; rw [e]
  rw [this]
  exact ⟨d', e, h⟩
theorem vq_cls {M : Mem} (O : MOk M) {T p s : Nat} (hT : TT T) (R : RTold M T) (B : BB (CC M) M (T + 3)) (hp : p < Cn M 4) (hs : s < 1024) :
    ∃ M', f_X4_byFrames T (T + 31 + 5 * p) (nI s) M = some (vq M p s, M') ∧ OffJ M M' := by
  obtain ⟨r, M', e, h, o⟩ := byFrames_f O hT R B hp hs
  obtain ⟨d', -, h2⟩ := vq_ref O hp hs
  rw [h2.uniq h]
  exact ⟨M', e, o⟩
theorem vq_dat {M M' : Mem} (O : MOk M) (h : Dat M M') {p s : Nat} (hp : p < Cn M 4) (hs : s < 1024) : vq M' p s = vq M p s := by
  have hp' : p < Cn M' 4 := by
    unfold Cn
    rw [h 313 (by omega) (by omega) (by omega)]; exact hp
  obtain ⟨d1, -, h1⟩ := vq_ref O hp hs
  obtain ⟨d2, -, h2⟩ := vq_ref (O.dat h) hp' hs
  rw [CK_dat h, PR_dat h] at h2
  exact h2.uniq h1
theorem Cn_dat {M M' : Mem} (h : Dat M M') (i : Nat) : Cn M' i = Cn M i := by
  unfold Cn
  rw [h 313 (by omega) (by omega) (by omega)]
theorem Fn_dat {M M' : Mem} (h : Dat M M') (i : Nat) : Fn M' i = Fn M i := by
  unfold Fn
  rw [h 335 (by omega) (by omega) (by omega)]
theorem OffJ.dat {M M' : Mem} (h : OffJ M M') : Dat M M' := fun a h1 _ _ => h.2 a (by omega)
theorem sA_dat (M : Mem) (d : Nat → Int32) : Dat M (sA M 344 d) := fun a _ h2 _ => funext (fun k => sA_n M d k (by omega))
/-! sets of frames -/
theorem all_nI : ∀ n, n ≤ 10 → ((1 : Int32) <<< (nI n &&& 31)) - 1 = nI (2 ^ n - 1) := by decide +kernel
theorem one_nI : ∀ n, n ≤ 10 → (1 : Int32) <<< (nI n &&& 31) = nI (2 ^ n) := by decide +kernel
def pc (m : Nat) : Nat := m % 2 + m / 2 % 2 + m / 4 % 2 + m / 8 % 2 + m / 16 % 2 + m / 32 % 2 + m / 64 % 2 + m / 128 % 2 + m / 256 % 2 + m / 512 % 2
theorem pc_cls : ∀ m, m < 1024 → (let a1 := nI m - (((nI m).toUInt32 >>> ((1 : Int32).toUInt32 &&& Int32.toUInt32 31)).toInt32 &&& 1431655765)
  let a2 := (a1 &&& 858993459) + (((a1.toUInt32 >>> ((2 : Int32).toUInt32 &&& Int32.toUInt32 31)).toInt32) &&& 858993459)
  let a3 := (a2 + ((a2.toUInt32 >>> ((4 : Int32).toUInt32 &&& Int32.toUInt32 31)).toInt32)) &&& 252645135
  let a4 := a3 + ((a3.toUInt32 >>> ((8 : Int32).toUInt32 &&& Int32.toUInt32 31)).toInt32)
  let a5 := a4 + ((a4.toUInt32 >>> ((16 : Int32).toUInt32 &&& Int32.toUInt32 31)).toInt32)
  a5 &&& 63) = nI (pc m) := by decide +kernel
theorem bitCount_f {m : Nat} (hm : m < 1024) (M : Mem) : f_J6_bitCount_0f7a4 (nI m) M = some (nI (pc m), M) := by
  rw [← pc_cls m hm]
  rfl
theorem kern : ∀ m, m < 1024 → m = 0 ∨ (nI m ≠ 0 ∧ nI m &&& (nI m - 1) = nI (m &&& (m - 1)) ∧ (m &&& (m - 1)) < 1024 ∧ pc (m &&& (m - 1)) + 1 = pc m) := by decide +kernel
theorem pc_lt : ∀ m, m < 1024 → pc m ≤ 10 := by decide +kernel
theorem bits_f {m : Nat} (hm : m < 1024) (M : Mem) : f_X11_bits (nI m) M = some (nI (pc m), M) := by
  have hl := lp_inv (z := fun _ _ _ => none) (s := f_X11_bits_b4_s) (fun j (x : Nat) (f : Int32 → Int32 → Mem → Option (Int32 × Mem)) => f (nI j) (nI x) M) (fun j x => x < 1024 ∧ j + pc x = pc m) (fun r => r = some (nI (pc m), M)) (pc m) (fun j hj x hx f => by
    rcases kern x hx.1 with z | ⟨k1, k2, k3, k4⟩
    · have : pc x = 0 := by rw [z]; rfl
      omega
    · refine Or.inr ⟨x &&& (x - 1), ⟨k3, by omega⟩, ?_⟩
      show f_X11_bits_b4_s f (nI j) (nI x) M = f (nI (j + 1)) (nI (x &&& (x - 1))) M
      unfold f_X11_bits_b4_s
      rw [if_neg k1, bnd_e, bnd_e, k2, nI_1]) (fun x hx f => by
    rcases kern x hx.1 with z | ⟨k1, k2, k3, k4⟩
    · show f_X11_bits_b4_s f (nI (pc m)) (nI x) M = _
      unfold f_X11_bits_b4_s
      rw [z, nI_0, if_pos rfl]
    · omega) fuel (by have := pc_lt m hm; unfold fuel; omega) m ⟨hm, by omega⟩
  exact hl
/-- the first of the sets with the fewest members -/
def Best (N : Nat) (P : Nat → Prop) (m : Nat) : Prop := m < N ∧ P m ∧ ∀ k, k < N → P k → pc m < pc k ∨ (pc m = pc k ∧ m ≤ k)
theorem Best.uniq {N : Nat} {P : Nat → Prop} {m k : Nat} (h : Best N P m) (h' : Best N P k) : m = k := by
  have a := h.2.2 k h'.1 h'.2.1
  have b := h'.2.2 m h.1 h.2.1
  omega
