/-! THE LAW'S TEXT, its bytes (p37) -/
def wP (l : List Nat) : Pce := .inl l
def dP (v : Nat) : Pce := .inr (.inl v)
def gP (b : Nat) : Pce := .inr (.inr b)
section LINES
variable (sm : Nat → Nat → Nat)
def camQ (c : Nat) : List Pcb := [(false, wP [99, 97, 109, 101, 114, 97]), (true, wP [99, 97 + c]), (true, dP (sca sm c)), (true, dP (scb sm c))]
def camP (c : Nat) : List Pcb := camQ sm c ++ [scP]
def flaQ (k : Nat) : List Pcb := [(false, wP [102, 108, 97, 115, 104]), (true, wP [99, 97 + sfa sm k]), (true, dP (sfx sm k)), (true, wP [99, 97 + sfb sm k]), (true, dP (sfy sm k))]
def flaP (k : Nat) : List Pcb := flaQ sm k ++ [scP]
def sidQ (k : Nat) : List Pcb := [(false, wP [115, 105, 100, 101]), (true, wP [115, 97 + k]), (true, dP (ssv sm k))]
def sidP (k : Nat) : List Pcb := sidQ sm k ++ [scP]
def mayP (b : Bool) (l : List Nat) : List Pcb := if b then [(true, wP l)] else []
def kp1 (k : Nat) : List Pcb := [(false, wP [107, 105, 110, 100]), (true, wP [107, 97 + k]), (true, dP (sks sm k))]
def kp2 (k : Nat) : List Pcb := [(true, dP (skf sm k)), (true, wP [98, 101, 102, 111, 114, 101]), (true, dP (skg sm k))]
def kp3 (k : Nat) : List Pcb := if sm (27 + k) 3 = 0 then [(true, wP [97, 110, 100]), (true, dP 0), (true, wP [98, 101, 102, 111, 114, 101]), (true, dP (1 + sm (29 + k) 2))] else []
def kinQ (k : Nat) : List Pcb := kp1 sm k ++ (mayP (sfo sm k) [102, 111, 114, 99, 101, 100] ++ (mayP (sag sm k) [97, 103, 97, 105, 110] ++ (kp2 sm k ++ kp3 sm k)))
def kinP (k : Nat) : List Pcb := kinQ sm k ++ [scP]
def namP (c : Nat) : Pce := wP [99, 97 + c]
def boaQ (b : Nat) : List Pcb := [(false, wP [98, 111, 97, 114, 100]), (true, wP [98, 97 + b]), (true, dP (sbn sm b))] ++ (if b = 0 then [(false, gP 40), (false, namP 0), (false, gP 41), (false, gP 40), (false, namP 1), (false, gP 41), (false, gP 40), (false, namP 2), (false, gP 41)] else
  [(false, gP 40), (false, namP 0), (true, namP 1), (false, gP 41), (false, gP 40), (false, namP 1), (true, namP 2), (false, gP 41), (false, gP 40), (false, namP 0), (true, namP 1), (true, namP 2), (false, gP 41)])
def boaP (b : Nat) : List Pcb := boaQ sm b ++ [scP]
def sgn (b : Bool) : Nat := if b then 33 else 63
def frmP (p k : Nat) : List Pcb := [(true, wP [99, 97 + sm (sat p k + 1) 3]), (true, dP (8 + sm (sat p k + 2) 9)), (false, gP (sgn (sm (sat p k + 3) 2 == 0))), (false, dP (sm (sat p k) 3))] ++ (if sm (sat p k + 4) 2 = 0 then [(false, gP (sgn (sm (sat p k + 3) 3 == 0))), (false, dP ((sm (sat p k) 3 + 1) % 3))] else [])
def plyH (p : Nat) : List Pcb := [(false, wP [112, 108, 97, 121]), (true, wP [112, 97 + p]), (true, dP (spm sm p)), (true, wP [107, 97 + spk sm p]), (true, wP [115, 97 + sps sm p]), (true, dP (spp sm p)), (true, wP (if spy sm p then [121, 101, 115] else [110, 111]))]
def plyQ (p : Nat) : List Pcb := plyH sm p ++ gpP (frmP sm p) 0 (sfn sm p)
def plyP (p : Nat) : List Pcb := plyQ sm p ++ [scP]
def rulW (x : Nat) : List Nat := if x = 0 then [108, 105, 109, 105, 116] else if x = 1 then [98, 111, 110, 117, 115] else if x = 2 then [108, 97, 115, 116] else [119, 105, 110, 100, 111, 119]
def rulQ (x : Nat) : List Pcb := [(false, wP (rulW x)), (true, dP (srv sm x))]
def rulP (x : Nat) : List Pcb := rulQ sm x ++ [scP]
def txP : List Pcb := gpP (camP sm) 0 3 ++ (gpP (flaP sm) 0 (snf sm) ++ (gpP (sidP sm) 0 2 ++ (gpP (kinP sm) 0 2 ++ (gpP (boaP sm) 0 2 ++ (gpP (plyP sm) 0 (snp sm) ++ (gpP (rulP sm) 0 4 ++ []))))))
/-- the text -/
def txt : List Nat := byP (txP sm)
def txTk : List Tok := allTk (sca sm) (scb sm) (snf sm) (sfa sm) (sfx sm) (sfb sm) (sfy sm) (ssv sm) (sks sm) (sfo sm) (sag sm) (skf sm) (skg sm) (skl sm) (sbn sm) sbm (snp sm) (spm sm) (spk sm) (sps sm) (spp sm) (spy sm) (spf sm) (srv sm)
end LINES
theorem pk_nm (x y : Nat) : pkw [x, 97 + y] = (x - 96) * 32 + (y + 1) := by
  show ((0 * 32 + (x - 96)) * 32 + (97 + y - 96)) = _
  omega
theorem nm_ok {x y : Nat} (hx : ltr x = true) (hy : y < 26) : pcOk (wP [x, 97 + y]) := by
  refine ⟨fun i hi => ?_, by show 0 < 2; omega, by show 2 ≤ 6; omega⟩
  have hi' : i < 2 := hi
  rcases (show i = 0 ∨ i = 1 by omega) with rfl | rfl
  · exact hx
  · show ltr (97 + y) = true
    unfold ltr
    rw [Bool.and_eq_true, decide_eq_true_eq, decide_eq_true_eq]
    omega
theorem okP_c {x : Pcb} {r : List Pcb} (h : pcOk x.2) (h2 : ∀ y, r.head? = some y → adjP x y) (h3 : okP r) : okP (x :: r) := ⟨h, h2, h3⟩
theorem okP_t {x : Pcb} {p : Pce} {r : List Pcb} (h : pcOk x.2) (h3 : okP ((true, p) :: r)) : okP (x :: (true, p) :: r) := ⟨h, fun y hy => by
  have : ((true, p) : Pcb) = y := by simpa using hy
  exact Or.inl (by rw [← this]), h3⟩
theorem okP_f {x : Pcb} {p : Pce} {r : List Pcb} (h : pcOk x.2) (h2 : pcCls x.2 = 0 ∨ pcCls x.2 ≠ pcCls p) (h3 : okP ((false, p) :: r)) : okP (x :: (false, p) :: r) := ⟨h, fun y hy => by
  have : ((false, p) : Pcb) = y := by simpa using hy
  exact Or.inr (by rw [← this]; exact h2), h3⟩
theorem okP_1 {x : Pcb} (h : pcOk x.2) : okP [x] := ⟨h, fun _ z => absurd z (by simp), trivial⟩
theorem d_g (v b : Nat) : pcCls (dP v) ≠ pcCls (gP b) := by show (2 : Nat) ≠ 0; omega
theorem wk_ok : (∀ x, x < 4 → pcOk (wP (rulW x))) ∧ pcOk (wP [99, 97, 109, 101, 114, 97]) ∧ pcOk (wP [102, 108, 97, 115, 104]) ∧ pcOk (wP [115, 105, 100, 101]) ∧ pcOk (wP [107, 105, 110, 100]) ∧ pcOk (wP [98, 101, 102, 111, 114, 101]) ∧ pcOk (wP [97, 110, 100]) ∧ pcOk (wP [102, 111, 114, 99, 101, 100]) ∧ pcOk (wP [97, 103, 97, 105, 110]) ∧ pcOk (wP [98, 111, 97, 114, 100]) ∧ pcOk (wP [112, 108, 97, 121]) ∧ (∀ b : Bool, pcOk (wP (if b then [121, 101, 115] else [110, 111]))) := by
  unfold pcOk wP rulW
  decide
theorem sg_ok : pcOk (gP 40) ∧ pcOk (gP 41) ∧ pcOk (gP 33) ∧ pcOk (gP 63) := by
  unfold pcOk gP
  decide
theorem sgn_ok (b : Bool) : pcOk (gP (sgn b)) := by cases b; exact sg_ok.2.2.2; exact sg_ok.2.2.1
section OKS
variable {sm : Nat → Nat → Nat}
theorem camQ_ok (hs : SmO sm) {c : Nat} (hc : c < 3) : okP (camQ sm c) := by
  have h := s_c1 hs c hc
  have a : sca sm c < 1000 := by omega
  have b : scb sm c < 1000 := by omega
  exact okP_t wk_ok.2.1 (okP_t (nm_ok (by decide) (by omega)) (okP_t a (okP_1 b)))
theorem flaQ_ok (hs : SmO sm) {k : Nat} (hk : k < snf sm) : okP (flaQ sm k) := by
  obtain ⟨h1, h2, -, h4, h5⟩ := s_c3 hs k hk
  have a : sfx sm k < 1000 := by omega
  have b : sfy sm k < 1000 := by omega
  exact okP_t wk_ok.2.2.1 (okP_t (nm_ok (by decide) (by omega)) (okP_t a (okP_t (nm_ok (by decide) (by omega)) (okP_1 b))))
theorem sidQ_ok (hs : SmO sm) {k : Nat} (hk : k < 2) : okP (sidQ sm k) := by
  have := s_c4 hs k hk
  have a : ssv sm k < 1000 := by omega
  exact okP_t wk_ok.2.2.2.1 (okP_t (nm_ok (by decide) (by omega)) (okP_1 a))
theorem gsP_t {p : Pce} {r : List Pcb} : gsP ((true, p) :: r) := fun y hy => by
  have : ((true, p) : Pcb) = y := by simpa using hy
  exact Or.inl (by rw [← this])
theorem gsP_n : gsP [] := fun _ z => absurd z (by simp)
theorem gsP.app {a b : List Pcb} (ha : gsP a) (hb : gsP b) : gsP (a ++ b) := fun y hy => by
  cases a with
  | nil => exact hb y hy
  | cons x r => exact ha y hy
theorem mayP_ok {b : Bool} {l : List Nat} (h : pcOk (wP l)) : okP (mayP b l) ∧ gsP (mayP b l) := by
  cases b with
  | true => exact ⟨okP_1 h, gsP_t⟩
  | false => exact ⟨trivial, gsP_n⟩
theorem kp3_ok (hs : SmO sm) {k : Nat} : okP (kp3 sm k) ∧ gsP (kp3 sm k) := by
  have h := (s_kpr hs (k := k)).2.2.2
  have a : 1 + sm (29 + k) 2 < 1000 := by omega
  have z : pcOk (dP 0) := by show (0 : Nat) < 1000; omega
  unfold kp3
  split
  · exact ⟨okP_t wk_ok.2.2.2.2.2.2.1 (okP_t z (okP_t wk_ok.2.2.2.2.2.1 (okP_1 a))), gsP_t⟩
  · exact ⟨trivial, gsP_n⟩
theorem kinQ_ok (hs : SmO sm) {k : Nat} (hk : k < 2) : okP (kinQ sm k) := by
  obtain ⟨⟨h1, h2⟩, -, -⟩ := s_c5 hs k hk
  obtain ⟨p1, p2, -, -⟩ := s_kpr hs (k := k)
  have a : sks sm k < 1000 := by omega
  have b : skf sm k < 1000 := by omega
  have c : skg sm k < 1000 := by omega
  have k1 : okP (kp1 sm k) := okP_t wk_ok.2.2.2.2.1 (okP_t (nm_ok (by decide) (by omega)) (okP_1 a))
  have k2 : okP (kp2 sm k) := okP_t b (okP_t wk_ok.2.2.2.2.2.1 (okP_1 c))
  obtain ⟨k3, g3⟩ := kp3_ok hs (k := k)
  obtain ⟨m1, n1⟩ := mayP_ok (b := sfo sm k) wk_ok.2.2.2.2.2.2.2.1
  obtain ⟨m2, n2⟩ := mayP_ok (b := sag sm k) wk_ok.2.2.2.2.2.2.2.2.1
  have g2 : gsP (kp2 sm k) := gsP_t
  exact k1.appG (m1.appG (m2.appG (k2.appG k3 g3) (g2.app g3)) (n2.app (g2.app g3))) (n1.app (n2.app (g2.app g3)))
theorem boaQ_ok (hs : SmO sm) {b : Nat} (hb : b < 2) : okP (boaQ sm b) := by
  obtain ⟨⟨h1, h2⟩, -⟩ := s_c6 hs b hb
  have a : sbn sm b < 1000 := by omega
  have n : ∀ c, c < 26 → pcOk (namP c) := fun c h => nm_ok (by decide) h
  have h0 : ∀ X, okP ((false, gP 40) :: X) → okP ([(false, wP [98, 111, 97, 114, 100]), (true, wP [98, 97 + b]), (true, dP (sbn sm b))] ++ ((false, gP 40) :: X)) := fun X hX =>
    okP_t wk_ok.2.2.2.2.2.2.2.2.2.1 (okP_t (nm_ok (by decide) (by omega)) (okP_f a (Or.inr (d_g _ _)) hX))
  have o : pcOk (gP 40) := sg_ok.1
  have c : pcOk (gP 41) := sg_ok.2.1
  unfold boaQ
  split
  · exact h0 _ (okP_f o (Or.inl rfl) (okP_f (n _ (by omega)) (Or.inr (by decide)) (okP_f c (Or.inl rfl) (okP_f o (Or.inl rfl) (okP_f (n _ (by omega)) (Or.inr (by decide)) (okP_f c (Or.inl rfl) (okP_f o (Or.inl rfl) (okP_f (n _ (by omega)) (Or.inr (by decide)) (okP_1 c)))))))))
  · exact h0 _ (okP_f o (Or.inl rfl) (okP_t (n _ (by omega)) (okP_f (n _ (by omega)) (Or.inr (by decide)) (okP_f c (Or.inl rfl) (okP_f o (Or.inl rfl) (okP_t (n _ (by omega)) (okP_f (n _ (by omega)) (Or.inr (by decide)) (okP_f c (Or.inl rfl) (okP_f o (Or.inl rfl) (okP_t (n _ (by omega)) (okP_t (n _ (by omega)) (okP_f (n _ (by omega)) (Or.inr (by decide)) (okP_1 c)))))))))))))
theorem frmP_ok (hs : SmO sm) {p k : Nat} : okP (frmP sm p k) ∧ gsP (frmP sm p k) := by
  have h1 := hs (sat p k + 1) 3 (by omega)
  have h2 := hs (sat p k + 2) 9 (by omega)
  have h3 := hs (sat p k) 3 (by omega)
  have a : 8 + sm (sat p k + 2) 9 < 1000 := by omega
  have b : sm (sat p k) 3 < 1000 := by omega
  have c : (sm (sat p k) 3 + 1) % 3 < 1000 := by omega
  refine ⟨?_, gsP_t⟩
  unfold frmP
  split
  · exact okP_t (nm_ok (by decide) (by omega)) (okP_f a (Or.inr (d_g _ _)) (okP_f (sgn_ok _) (Or.inl rfl) (okP_f b (Or.inr (d_g _ _)) (okP_f (sgn_ok _) (Or.inl rfl) (okP_1 c)))))
  · exact okP_t (nm_ok (by decide) (by omega)) (okP_f a (Or.inr (d_g _ _)) (okP_f (sgn_ok _) (Or.inl rfl) (okP_1 b)))
theorem frms_ok (hs : SmO sm) {p : Nat} : ∀ m i, okP (gpP (frmP sm p) i m) ∧ gsP (gpP (frmP sm p) i m)
  | 0, _ => ⟨trivial, gsP_n⟩
  | m + 1, i => by
    obtain ⟨a, b⟩ := frms_ok hs (p := p) m (i + 1)
    obtain ⟨c, d⟩ := frmP_ok hs (p := p) (k := i)
    exact ⟨c.appG a b, d.app b⟩
theorem plyQ_ok (hs : SmO sm) {p : Nat} (hp : p < snp sm) : okP (plyQ sm p) := by
  obtain ⟨h1, h2, h3, h4, -⟩ := s_c9 hs p hp
  have := s_c7 hs
  have a : spm sm p < 1000 := by omega
  have b : spp sm p < 1000 := by omega
  obtain ⟨c, d⟩ := frms_ok hs (p := p) (sfn sm p) 0
  have e : okP (plyH sm p) := okP_t wk_ok.2.2.2.2.2.2.2.2.2.2.1 (okP_t (nm_ok (by decide) (by omega)) (okP_t a (okP_t (nm_ok (by decide) (by omega)) (okP_t (nm_ok (by decide) (by omega)) (okP_t b (okP_1 (wk_ok.2.2.2.2.2.2.2.2.2.2.2 _)))))))
  exact e.appG c d
theorem rulQ_ok (hs : SmO sm) {x : Nat} (hx : x < 4) : okP (rulQ sm x) := by
  have h := s_c10 hs x hx
  have a : srv sm x < 1000 := by
    have : srv sm x ≤ 999 := by
      refine Nat.le_trans h ?_
      split <;> omega
    omega
  exact okP_t (wk_ok.1 x hx) (okP_1 a)
theorem txP_ok (hs : SmO sm) : okP (txP sm) :=
  gpP_ok (gpP_ok (gpP_ok (gpP_ok (gpP_ok (gpP_ok (gpP_ok (b := []) trivial (fun _ => rfl) 4 0 (fun j _ h => rulQ_ok hs (by omega))) (fun _ => rfl) _ 0 (fun j _ h => plyQ_ok hs (by omega))) (fun _ => rfl) 2 0 (fun j _ h => boaQ_ok hs (by omega))) (fun _ => rfl) 2 0 (fun j _ h => kinQ_ok hs (by omega))) (fun _ => rfl) 2 0 (fun j _ h => sidQ_ok hs (by omega))) (fun _ => rfl) _ 0 (fun j _ h => flaQ_ok hs (by omega))) (fun _ => rfl) 3 0 (fun j _ h => camQ_ok hs (by omega))
end OKS
