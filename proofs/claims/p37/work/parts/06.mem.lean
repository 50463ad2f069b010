/-! THE MEMORY: ints, longs, references by cell and slot, how many cells -/
abbrev Mem : Type := (Nat → Nat → Int32) × (Nat → Nat → Int64) × (Nat → Nat → Nat) × Nat
def m2 {α : Type} (f : Nat → Nat → α) (a k : Nat) (v : α) : Nat → Nat → α := fun a' k' => if a' = a ∧ k' = k then v else f a' k'
def setI (M : Mem) (n k : Nat) (x : Int32) : Mem := (m2 M.1 n k x, M.2.1, M.2.2.1, M.2.2.2)
def setL (M : Mem) (n k : Nat) (x : Int64) : Mem := (M.1, m2 M.2.1 n k x, M.2.2.1, M.2.2.2)
def setR (M : Mem) (n k : Nat) (x : Nat) : Mem := (M.1, M.2.1, m2 M.2.2.1 n k x, M.2.2.2)
def shc (n : Nat) : Nat := if n < 64 then 0 else (shT.getD (n - 64) (0, 0)).1
def shl (n : Nat) : Nat := (shT.getD (n - 64) (0, 0)).2
def cr (n k : Nat) : Nat := (crT.getD (n - 64) []).getD k 0
def kd (c : Nat) : List Nat := kdT.getD c []
theorem m2_ne {α : Type} {f : Nat → Nat → α} {a k : Nat} {v : α} {q : Nat} (h : q ≠ a) : m2 f a k v q = f q := by
  funext j
  show (if q = a ∧ j = k then v else f q j) = f q j
  rw [if_neg (fun z => h z.1)]
theorem m2_ne2 {α : Type} {f : Nat → Nat → α} {a k : Nat} {v : α} {q j : Nat} (h : q ≠ a) : m2 f a k v q j = f q j := by rw [m2_ne h]
def shGT : List (Nat × Nat) := [(9, 14), (22, 600), (8, 14), (20, 5), (20, 5), (2, 2), (20, 100), (20, 4), (24, 5), (25, 3), (26, 8), (20, 4), (5, 6), (20, 3), (20, 3), (5, 6), (20, 3), (20, 3), (5, 6), (20, 3), (20, 3), (5, 6), (20, 3), (20, 3), (5, 6), (20, 3), (20, 3), (1, 3), (20, 7), (1, 3), (20, 7), (1, 3), (20, 7), (6, 12), (20, 10), (20, 10), (20, 10), (20, 10), (6, 12), (20, 10), (20, 10), (20, 10), (20, 10), (6, 12), (20, 10), (20, 10), (20, 10), (20, 10), (6, 12), (20, 10), (20, 10), (20, 10), (20, 10), (6, 12), (20, 10), (20, 10), (20, 10), (20, 10), (6, 12), (20, 10), (20, 10), (20, 10), (20, 10), (6, 12), (20, 10), (20, 10), (20, 10), (20, 10), (6, 12), (20, 10), (20, 10), (20, 10), (20, 10), (8, 14), (20, 5), (20, 5), (2, 2), (20, 100), (20, 4), (24, 5), (25, 3), (26, 8), (20, 4), (5, 6), (20, 3), (20, 3), (5, 6), (20, 3), (20, 3), (5, 6), (20, 3), (20, 3), (5, 6), (20, 3), (20, 3), (5, 6), (20, 3), (20, 3), (1, 3), (20, 7), (1, 3), (20, 7), (1, 3), (20, 7), (6, 12), (20, 10), (20, 10), (20, 10), (20, 10), (6, 12), (20, 10), (20, 10), (20, 10), (20, 10), (6, 12), (20, 10), (20, 10), (20, 10), (20, 10), (6, 12), (20, 10), (20, 10), (20, 10), (20, 10), (6, 12), (20, 10), (20, 10), (20, 10), (20, 10), (6, 12), (20, 10), (20, 10), (20, 10), (20, 10), (6, 12), (20, 10), (20, 10), (20, 10), (20, 10), (6, 12), (20, 10), (20, 10), (20, 10), (20, 10), (7, 14), (20, 25), (28, 25), (20, 25), (4, 4), (2, 2), (20, 100), (2, 2), (20, 100), (3, 10), (20, 8), (20, 4), (20, 4), (20, 8), (20, 64), (27, 12), (27, 2), (21, 2), (20, 16), (3, 10), (20, 8), (20, 4), (20, 4), (20, 8), (20, 64), (3, 10), (20, 8), (20, 4), (20, 4), (20, 8), (20, 64), (3, 10), (20, 8), (20, 4), (20, 4), (20, 8), (20, 64), (3, 10), (20, 8), (20, 4), (20, 4), (20, 8), (20, 64), (3, 10), (20, 8), (20, 4), (20, 4), (20, 8), (20, 64), (3, 10), (20, 8), (20, 4), (20, 4), (20, 8), (20, 64), (3, 10), (20, 8), (20, 4), (20, 4), (20, 8), (20, 64), (3, 10), (20, 8), (20, 4), (20, 4), (20, 8), (20, 64), (3, 10), (20, 8), (20, 4), (20, 4), (20, 8), (20, 64), (3, 10), (20, 8), (20, 4), (20, 4), (20, 8), (20, 64), (3, 10), (20, 8), (20, 4), (20, 4), (20, 8), (20, 64), (3, 10), (20, 8), (20, 4), (20, 4), (20, 8), (20, 64), (3, 10), (20, 8), (20, 4), (20, 4), (20, 8), (20, 64), (3, 10), (20, 8), (20, 4), (20, 4), (20, 8), (20, 64), (10, 47), (22, 600), (20, 12), (20, 8), (21, 4), (23, 80), (20, 10), (20, 10), (20, 48), (20, 8), (20, 10), (21, 10), (21, 10), (20, 10), (20, 30), (20, 30), (20, 6), (20, 6), (20, 42), (20, 16), (20, 16), (20, 16), (20, 16), (20, 16), (20, 16), (20, 160), (20, 160), (20, 160), (20, 160), (20, 114), (20, 1368), (20, 228), (21, 2), (20, 100), (20, 16), (23, 1)]
/-- the shape with the ghost rows -/
def shg (n : Nat) : Nat := if n < 64 then 0 else (shGT.getD (n - 64) (0, 0)).1
def shgl (n : Nat) : Nat := (shGT.getD (n - 64) (0, 0)).2
theorem shc_ge {n c : Nat} (h : shc n = c + 1) : 64 ≤ n ∧ n < 311 := by
  unfold shc at h
  by_cases h1 : n < 64
  · rw [if_pos h1] at h; omega
  · rw [if_neg h1] at h
    rcases Nat.lt_or_ge (n - 64) 247 with h2 | h2
    · omega
    · rw [List.getD_eq_getElem?_getD, List.getElem?_eq_none (by rw [show shT.length = 247 by decide +kernel]; exact h2)] at h
      cases h
theorem shc_ge' {n c : Nat} (h : shc n = c) (hc : 0 < c) : 64 ≤ n ∧ n < 311 := shc_ge (c := c - 1) (by omega)
abbrev inb (i : Int32) (n : Nat) : Prop := ¬ (i < 0 ∨ n ≤ i.toNatClampNeg)
def gd {α : Type} (c : Prop) [Decidable c] (a : Option α) : Option α := if c then a else none
def bnd {α β : Type} (v : α) (f : α → Option β) : Option β := f v
def cl {α β : Type} (o : Option (α × Mem)) (f : α → Mem → Option β) : Option β := match o with
  | some (a, m) => f a m
  | none => none
def clv {β : Type} (o : Option Mem) (f : Mem → Option β) : Option β := match o with
  | some m => f m
  | none => none
def lpN {F : Type} (z : F) (s : F → F) : Nat → F
  | 0 => z
  | n + 1 => s (lpN z s n)
def fuel : Nat := 5000
theorem gdS {α : Type} {c : Prop} [Decidable c] {a : Option α} {r : α} (h : gd c a = some r) : c ∧ a = some r := by
  unfold gd at h
  by_cases hc : c
  · rw [if_pos hc] at h; exact ⟨hc, h⟩
  · rw [if_neg hc] at h; cases h
theorem bndS {α β : Type} {v : α} {f : α → Option β} {r : β} (h : bnd v f = some r) : ∃ x, x = v ∧ f x = some r := ⟨v, rfl, h⟩
theorem clS {α β : Type} {o : Option (α × Mem)} {f : α → Mem → Option β} {r : β} (h : cl o f = some r) : ∃ a m, o = some (a, m) ∧ f a m = some r := by
  cases o with
  | none => cases h
  | some q => exact ⟨q.1, q.2, rfl, h⟩
theorem clvS {β : Type} {o : Option Mem} {f : Mem → Option β} {r : β} (h : clv o f = some r) : ∃ m, o = some m ∧ f m = some r := by
  cases o with
  | none => cases h
  | some q => exact ⟨q, rfl, h⟩
theorem ifT {α : Type} {c : Prop} [Decidable c] {a b : Option α} {r : α} (hc : c) (h : (if c then a else b) = some r) : a = some r := by rw [if_pos hc] at h; exact h
theorem ifF {α : Type} {c : Prop} [Decidable c] {a b : Option α} {r : α} (hc : ¬ c) (h : (if c then a else b) = some r) : b = some r := by rw [if_neg hc] at h; exact h
theorem retS {α : Type} {x r : α} {m n : Mem} (h : some (x, m) = some (r, n)) : x = r ∧ m = n := Prod.mk.inj (Option.some.inj h)
theorem lpN_ind {F : Type} {P : F → Prop} {z : F} {s : F → F} (hz : P z) (hs : ∀ f, P f → P (s f)) : ∀ n, P (lpN z s n)
  | 0 => hz
  | n + 1 => hs _ (lpN_ind hz hs n)
theorem shc_ne {n c : Nat} (h : shc n = c + 1) : n ≠ 0 := by
  have := (shc_ge h).1
  omega
theorem inb_lt {i : Int32} {n : Nat} (h : inb i n) : i.toNatClampNeg < n := by
  rcases Nat.lt_or_ge i.toNatClampNeg n with h1 | h1
  · exact h1
  · exact absurd (Or.inr h1) h
theorem tok_in {i : Int32} (h : inb i 25) : 0 < i.toNatClampNeg + 1 ∧ i.toNatClampNeg + 1 < 26 := by
  have := inb_lt h
  omega
theorem sh_all {P : Nat → Prop} {c : Nat} (hc : 0 < c) (h : ∀ q, q < 247 → shc (q + 64) = c → P (q + 64)) {n : Nat} (hn : shc n = c) : P n := by
  have h1 := shc_ge' hn hc
  have h2 := h (n - 64) (by omega)
  rw [show n - 64 + 64 = n by omega] at h2
  exact h2 hn
theorem cr_210_n (k : Nat) : cr 210 k = 0 := by
  show ((crT.getD (210 - 64) []).getD k 0) = 0
  rw [show crT.getD (210 - 64) [] = [] by decide +kernel]
  rfl
def cpI (M : Mem) (a b n : Nat) : Mem := (fun q k => if q = b ∧ k < n then M.1 a k else M.1 q k, M.2.1, M.2.2.1, M.2.2.2)
def tokNm : List String := ["END", "BAD", "NAME", "NUMBER", "LINE_END", "OPENING", "CLOSING", "THERE", "NOT_YET", "CAMERA", "FLASH", "SIDE", "KIND", "BOARD", "PLAY", "LIMIT", "BONUS", "LAST", "WINDOW", "FORCED", "AGAIN", "BEFORE", "AND", "YES", "NO"]
def tokCd : List Int32 := [0, 0, 0, 0, 0, 0, 0, 0, 0, 102143553, 6686312, 631941, 370116, 2590276, 536633, 12891444, 2603699, 394868, 781652471, 217648292, 1279278, 72564293, 1476, 25779, 463]
def tokCode (n : Nat) : Int32 := tokCd.getD (n - 1) 0
def swmT : List Int32 := [0, 0, 0, 0, 0, 0, 0, 0, 0, 1, 2, 3, 4, 5, 6, 7, 8, 9, 10, 0, 0, 0, 0, 0, 0]
def swm (i : Nat) : Int32 := swmT.getD i 0
def strNm : List String := ["camera", "flash", "side", "kind", "board", "play", "limit", "bonus", "last", "window", "forced", "again", "and", "before", "yes", "no"]
def strIx : List Nat := [186, 192, 194, 196, 198, 200, 202, 204, 206, 208, 210, 211, 212, 214, 216, 218]
def strBy : List (List Int32) := [[99, 97, 109, 101, 114, 97], [102, 108, 97, 115, 104], [115, 105, 100, 101], [107, 105, 110, 100], [98, 111, 97, 114, 100], [112, 108, 97, 121], [108, 105, 109, 105, 116], [98, 111, 110, 117, 115], [108, 97, 115, 116], [119, 105, 110, 100, 111, 119], [102, 111, 114, 99, 101, 100], [97, 103, 97, 105, 110], [97, 110, 100], [98, 101, 102, 111, 114, 101], [121, 101, 115], [110, 111]]
def strL : List Nat := [6, 5, 4, 4, 5, 4, 5, 5, 4, 6, 6, 5, 3, 6, 3, 2]
def min32 (x y : Int32) : Int32 := if y < x then y else x
