/-! THE LAW'S TEXT: its bytes, piece after piece (p37) -/
/-- a piece: a word, a number, a sign -/
abbrev Pce : Type := List Nat ⊕ (Nat ⊕ Nat)
def pcBy : Pce → List Nat
  | .inl l => l
  | .inr (.inl v) => dec v
  | .inr (.inr b) => [b]
def pcTk : Pce → Tok
  | .inl l => ((1 : Int32), (0 : Nat), pkw l)
  | .inr (.inl v) => ((2 : Int32), v, (0 : Nat))
  | .inr (.inr b) => (sgR b, (0 : Nat), (0 : Nat))
def pcCls : Pce → Nat
  | .inl _ => 1
  | .inr (.inl _) => 2
  | .inr (.inr _) => 0
def pcOk : Pce → Prop
  | .inl l => (∀ i, i < l.length → ltr (l.getD i 0) = true) ∧ 0 < l.length ∧ l.length ≤ 6
  | .inr (.inl v) => v < 1000
  | .inr (.inr b) => dg b = false ∧ ltr b = false ∧ bl b = false ∧ b < 128
/-- a piece with a blank ahead of it, or none -/
abbrev Pcb : Type := Bool × Pce
def byP : List Pcb → List Nat
  | [] => []
  | x :: r => (if x.1 then [32] else []) ++ ((pcBy x.2) ++ byP r)
def byB : List Pcb → List Nat
  | [] => []
  | x :: r => (pcBy x.2) ++ byP r
def tkP (l : List Pcb) : List Tok := l.map (fun x => (pcTk x.2))
def adjP (x y : Pcb) : Prop := y.1 = true ∨ (pcCls x.2) = 0 ∨ (pcCls x.2) ≠ (pcCls y.2)
def okP : List Pcb → Prop
  | [] => True
  | x :: r => (pcOk x.2) ∧ (∀ y, r.head? = some y → adjP x y) ∧ okP r
theorem byP_app (a b : List Pcb) : byP (a ++ b) = byP a ++ byP b := by
  induction a with
  | nil => rfl
  | cons x r ih =>
    show _ ++ (_ ++ byP (r ++ b)) = (_ ++ (_ ++ byP r)) ++ byP b
    rw [ih, List.append_assoc, List.append_assoc]
theorem tkP_app (a b : List Pcb) : tkP (a ++ b) = tkP a ++ tkP b := List.map_append
theorem okP.app {a b : List Pcb} (ha : okP a) (hb : okP b) (h : ∀ x y, a.getLast? = some x → b.head? = some y → adjP x y) : okP (a ++ b) := by
  induction a with
  | nil => exact hb
  | cons x r ih =>
    obtain ⟨h1, h2, h3⟩ := ha
    refine ⟨h1, fun y hy => ?_, ih h3 (fun u v hu hv => ?_)⟩
    · cases r with
      | nil => exact h x y rfl hy
      | cons z r' => exact h2 y hy
    · cases r with
      | nil => exact absurd hu (by simp)
      | cons z r' => exact h u v (by rw [List.getLast?_cons_cons]; exact hu) hv
/-- what may stand behind anything -/
def gsP (b : List Pcb) : Prop := ∀ y, b.head? = some y → y.1 = true ∨ (pcCls y.2) = 0
theorem okP.appG {a b : List Pcb} (ha : okP a) (hb : okP b) (h : gsP b) : okP (a ++ b) := ha.app hb (fun x y _ hy => by
  rcases h y hy with q | q
  · exact Or.inl q
  · by_cases z : (pcCls x.2) = 0
    · exact Or.inr (Or.inl z)
    · exact Or.inr (Or.inr (by rw [q]; exact z)))
def scP : Pcb := (false, (.inr (.inr 59) : Pce))
theorem okP_sc : okP [scP] := ⟨⟨by decide, by decide, by decide, by decide⟩, fun _ h => absurd h (by simp), trivial⟩
theorem gsP_sc : gsP [scP] := fun y h => by
  have : scP = y := by simpa using h
  exact Or.inr (by rw [← this]; rfl)
/-- a line: what it holds, and a semicolon -/
theorem okP.line {a b : List Pcb} (ha : okP a) (hb : okP b) : okP ((a ++ [scP]) ++ b) := (ha.appG okP_sc gsP_sc).app hb (fun x y hx _ => by
  have : scP = x := by simpa using hx
  exact Or.inr (Or.inl (by rw [← this]; rfl)))
theorem ltr_bl {b : Nat} (h : ltr b = true) : bl b = false := by
  cases q : bl b with
  | false => rfl
  | true =>
    unfold bl at q
    rw [Bool.or_eq_true, beq_iff_eq, beq_iff_eq] at q
    rcases q with q | q <;> subst q <;> exact absurd h (by decide)
theorem dg_bl {b : Nat} (h : dg b = true) : bl b = false := by
  cases q : bl b with
  | false => rfl
  | true =>
    unfold bl at q
    rw [Bool.or_eq_true, beq_iff_eq, beq_iff_eq] at q
    rcases q with q | q <;> subst q <;> exact absurd h (by decide)
/-- the first byte of a piece -/
theorem pcHd {p : Pce} (h : (pcOk p)) : ∃ b r, (pcBy p) = b :: r ∧ bl b = false ∧ ((pcCls p) ≠ 1 → ltr b = false) ∧ ((pcCls p) ≠ 2 → dg b = false) := by
  cases p with
  | inl l =>
    obtain ⟨h1, h2, h3⟩ := h
    cases l with
    | nil => exact absurd h2 (by simp)
    | cons b r =>
      have := h1 0 h2
      have e : ltr b = true := this
      exact ⟨b, r, rfl, ltr_bl e, fun z => absurd rfl z, fun _ => ltr_dg e⟩
  | inr q0 =>
   cases q0 with
   | inl v =>
    obtain ⟨h1, h2, h3, h4⟩ := dec_ok v h
    obtain ⟨l, e⟩ : ∃ l, l = dec v := ⟨_, rfl⟩
    rw [← e] at h1 h2
    cases l with
    | nil => exact absurd h2 (by simp)
    | cons b r =>
      have q : dg b = true := h1 0 h2
      refine ⟨b, r, e.symm, dg_bl q, fun _ => ?_, fun z => absurd rfl z⟩
      cases u : ltr b with
      | false => rfl
      | true => rw [ltr_dg u] at q; exact absurd q (by decide)
   | inr b => exact ⟨b, [], rfl, h.2.2.1, fun _ => h.2.1, fun _ => h.1⟩
theorem skP {l : List Pcb} (h : okP l) : Sk (byP l) (byB l) := by
  cases l with
  | nil => exact ⟨fun b r z => absurd z (by simp [byB]), Or.inl rfl⟩
  | cons x r =>
    obtain ⟨b, t, e, n, -, -⟩ := pcHd h.1
    refine ⟨fun b' r' z => ?_, ?_⟩
    · have z' : (pcBy x.2) ++ byP r = b' :: r' := z
      rw [e, List.cons_append] at z'
      have := List.cons.inj z'
      rw [← this.1]
      exact n
    · by_cases q : x.1 = true
      · exact Or.inr (by show (if x.1 then [32] else []) ++ ((pcBy x.2) ++ byP r) = 32 :: ((pcBy x.2) ++ byP r); rw [if_pos q]; rfl)
      · exact Or.inl (by show (if x.1 then [32] else []) ++ ((pcBy x.2) ++ byP r) = ((pcBy x.2) ++ byP r); rw [if_neg q]; rfl)
theorem byP_hd {x : Pcb} {r : List Pcb} (hx : (pcOk x.2)) (h : okP r) {f : Nat → Bool} (hf : f 32 = false) (h2 : ∀ y, r.head? = some y → y.1 = true ∨ ∃ b t, (pcBy y.2) = b :: t ∧ f b = false) : ∀ b t, byP r = b :: t → f b = false := by
  intro b t e
  cases r with
  | nil => exact absurd e (by simp [byP])
  | cons y r =>
    have e' : (if y.1 then [32] else []) ++ ((pcBy y.2) ++ byP r) = b :: t := e
    rcases h2 y rfl with q | ⟨c, u, q1, q2⟩
    · rw [if_pos q] at e'
      have := List.cons.inj e'
      rw [← this.1]
      exact hf
    · by_cases q : y.1 = true
      · rw [if_pos q] at e'
        have := List.cons.inj e'
        rw [← this.1]
        exact hf
      · rw [if_neg q, q1] at e'
        have := List.cons.inj e'
        rw [← this.1]
        exact q2
theorem lexP : ∀ l, okP l → Lxs (byB l) (tkP l)
  | [], _ => lxs_nil
  | (bb, .inl l) :: r, h => by
    obtain ⟨h1, h2, h3⟩ := h
    refine lxs_word h1.1 h1.2.1 h1.2.2 ?_ (skP h3) (lexP r h3)
    refine byP_hd (x := (bb, .inl l)) h1 h3 (by decide) (fun y hy => ?_)
    have y0 : (pcOk y.2) := by
      cases r with
      | nil => exact absurd hy (by simp)
      | cons z r' =>
        have : z = y := by simpa using hy
        rw [← this]
        exact h3.1
    obtain ⟨b, t, e, -, n1, n2⟩ := pcHd y0
    rcases h2 y hy with q | q | q
    · exact Or.inl q
    · exact absurd q (by show ¬ (1 : Nat) = 0; omega)
    · exact Or.inr ⟨b, t, e, n1 (fun z => q z.symm)⟩
  | (bb, .inr (.inl v)) :: r, h => by
    obtain ⟨h1, h2, h3⟩ := h
    refine lxs_dec h1 ?_ (skP h3) (lexP r h3)
    refine byP_hd (x := (bb, .inr (.inl v))) h1 h3 (by decide) (fun y hy => ?_)
    have y0 : (pcOk y.2) := by
      cases r with
      | nil => exact absurd hy (by simp)
      | cons z r' =>
        have : z = y := by simpa using hy
        rw [← this]
        exact h3.1
    obtain ⟨b, t, e, -, n1, n2⟩ := pcHd y0
    rcases h2 y hy with q | q | q
    · exact Or.inl q
    · exact absurd q (by show ¬ (2 : Nat) = 0; omega)
    · exact Or.inr ⟨b, t, e, n2 (fun z => q z.symm)⟩
  | (bb, .inr (.inr b)) :: r, h => by
    obtain ⟨h1, h2, h3⟩ := h
    exact lxs_sign ⟨h1.1, h1.2.1⟩ (skP h3) (lexP r h3)
def gpP (P : Nat → List Pcb) : Nat → Nat → List Pcb
  | _, 0 => []
  | i, m + 1 => P i ++ gpP P (i + 1) m
theorem gpP_snoc (P : Nat → List Pcb) : ∀ m i, gpP P i (m + 1) = gpP P i m ++ P (i + m)
  | 0, i => by
    show P i ++ [] = [] ++ P (i + 0)
    rw [List.append_nil, List.nil_append]
    rfl
  | m + 1, i => by
    show P i ++ gpP P (i + 1) (m + 1) = (P i ++ gpP P (i + 1) m) ++ P (i + (m + 1))
    rw [gpP_snoc P m (i + 1), List.append_assoc, show i + 1 + m = i + (m + 1) by omega]
theorem gpP_tk {P : Nat → List Pcb} {T : Nat → List Tok} : ∀ m i, (∀ j, i ≤ j → j < i + m → tkP (P j) = T j) → tkP (gpP P i m) = grp T i m
  | 0, _, _ => rfl
  | m + 1, i, h => by
    show tkP (P i ++ gpP P (i + 1) m) = T i ++ grp T (i + 1) m
    rw [tkP_app, h i (Nat.le_refl i) (by omega), gpP_tk m (i + 1) (fun j h1 h2 => h j (by omega) (by omega))]
/-- lines, one behind the other -/
theorem gpP_ok {P Q : Nat → List Pcb} {b : List Pcb} (hb : okP b) (hQ : ∀ j, P j = Q j ++ [scP]) : ∀ m i, (∀ j, i ≤ j → j < i + m → okP (Q j)) → okP (gpP P i m ++ b)
  | 0, _, _ => hb
  | m + 1, i, h => by
    show okP ((P i ++ gpP P (i + 1) m) ++ b)
    rw [List.append_assoc, hQ i]
    exact (h i (Nat.le_refl i) (by omega)).line (gpP_ok hb hQ m (i + 1) (fun j h1 h2 => h j (by omega) (by omega)))
theorem gpP_len {P : Nat → List Pcb} {L : Nat} : ∀ m i, (∀ j, i ≤ j → j < i + m → (byP (P j)).length ≤ L) → (byP (gpP P i m)).length ≤ m * L
  | 0, _, _ => by show (0 : Nat) ≤ _; omega
  | m + 1, i, h => by
    show (byP (P i ++ gpP P (i + 1) m)).length ≤ _
    rw [byP_app, List.length_append]
    have a := h i (Nat.le_refl i) (by omega)
    have b := gpP_len (L := L) m (i + 1) (fun j h1 h2 => h j (by omega) (by omega))
    rw [Nat.add_mul]
    omega
