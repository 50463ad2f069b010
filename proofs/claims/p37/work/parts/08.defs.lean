theorem sh_64 : shc 64 = 9 := by decide +kernel
theorem sh_65 : shc 65 = 22 := by decide +kernel
theorem sh_208 : shc 208 = 7 := by decide +kernel
theorem sh_209 : shc 209 = 20 := by decide +kernel
theorem sh_210 : shc 210 = 28 := by decide +kernel
theorem sh_211 : shc 211 = 20 := by decide +kernel
theorem sh_212 : shc 212 = 4 := by decide +kernel
theorem sh_213 : shc 213 = 2 := by decide +kernel
theorem sh_215 : shc 215 = 2 := by decide +kernel
theorem sh_217 : shc 217 = 3 := by decide +kernel
theorem sh_218 : shc 218 = 20 := by decide +kernel
theorem sh_219 : shc 219 = 20 := by decide +kernel
theorem sh_220 : shc 220 = 20 := by decide +kernel
theorem sh_221 : shc 221 = 20 := by decide +kernel
theorem sh_222 : shc 222 = 20 := by decide +kernel
theorem sh_223 : shc 223 = 27 := by decide +kernel
theorem sh_224 : shc 224 = 27 := by decide +kernel
theorem sh_225 : shc 225 = 21 := by decide +kernel
theorem sh_226 : shc 226 = 20 := by decide +kernel
theorem sl_65 : shl 65 = 600 := by decide +kernel
theorem sl_209 : shl 209 = 25 := by decide +kernel
theorem sl_210 : shl 210 = 25 := by decide +kernel
theorem sl_211 : shl 211 = 25 := by decide +kernel
theorem sl_218 : shl 218 = 8 := by decide +kernel
theorem sl_219 : shl 219 = 4 := by decide +kernel
theorem sl_220 : shl 220 = 4 := by decide +kernel
theorem sl_221 : shl 221 = 8 := by decide +kernel
theorem sl_222 : shl 222 = 64 := by decide +kernel
theorem sl_223 : shl 223 = 12 := by decide +kernel
theorem sl_224 : shl 224 = 2 := by decide +kernel
theorem sl_225 : shl 225 = 2 := by decide +kernel
theorem sl_226 : shl 226 = 16 := by decide +kernel
theorem cr_64_0 : cr 64 0 = 65 := by decide +kernel
theorem cr_64_2 : cr 64 2 = 0 := by decide +kernel
theorem cr_64_3 : cr 64 3 = 0 := by decide +kernel
theorem cr_64_4 : cr 64 4 = 208 := by decide +kernel
theorem cr_64_5 : cr 64 5 = 212 := by decide +kernel
theorem cr_64_6 : cr 64 6 = 217 := by decide +kernel
theorem cr_64_7 : cr 64 7 = 223 := by decide +kernel
theorem cr_64_10 : cr 64 10 = 224 := by decide +kernel
theorem cr_64_11 : cr 64 11 = 225 := by decide +kernel
theorem cr_64_12 : cr 64 12 = 226 := by decide +kernel
theorem cr_208_0 : cr 208 0 = 65 := by decide +kernel
theorem cr_208_1 : cr 208 1 = 0 := by decide +kernel
theorem cr_208_4 : cr 208 4 = 0 := by decide +kernel
theorem cr_208_10 : cr 208 10 = 209 := by decide +kernel
theorem cr_208_11 : cr 208 11 = 210 := by decide +kernel
theorem cr_208_12 : cr 208 12 = 211 := by decide +kernel
theorem cr_212_0 : cr 212 0 = 213 := by decide +kernel
theorem cr_212_1 : cr 212 1 = 215 := by decide +kernel
theorem cr_217_4 : cr 217 4 = 218 := by decide +kernel
theorem cr_217_5 : cr 217 5 = 219 := by decide +kernel
theorem cr_217_6 : cr 217 6 = 220 := by decide +kernel
theorem cr_217_7 : cr 217 7 = 221 := by decide +kernel
theorem cr_217_8 : cr 217 8 = 222 := by decide +kernel
theorem cre_24 {n i : Nat} (h : shc n = 24) (hi : i < shl n) : shc (cr n i) = 5 := sh_all (P := fun n => ∀ i, i < shl n → shc (cr n i) = 5) (by decide) (by decide +kernel) h i hi
theorem cre_25 {n i : Nat} (h : shc n = 25) (hi : i < shl n) : shc (cr n i) = 1 := sh_all (P := fun n => ∀ i, i < shl n → shc (cr n i) = 1) (by decide) (by decide +kernel) h i hi
theorem cre_26 {n i : Nat} (h : shc n = 26) (hi : i < shl n) : shc (cr n i) = 6 := sh_all (P := fun n => ∀ i, i < shl n → shc (cr n i) = 6) (by decide) (by decide +kernel) h i hi
theorem cre_27 {n i : Nat} (h : shc n = 27) (hi : i < shl n) : shc (cr n i) = 3 := sh_all (P := fun n => ∀ i, i < shl n → shc (cr n i) = 3) (by decide) (by decide +kernel) h i hi
theorem crc_1_2 {n : Nat} (h : shc n = 1) : shc (cr n 2) = 20 ∧ shl (cr n 2) = 7 := sh_all (P := fun n => shc (cr n 2) = 20 ∧ shl (cr n 2) = 7) (by decide) (by decide +kernel) h
theorem crc_2_0 {n : Nat} (h : shc n = 2) : shc (cr n 0) = 20 ∧ shl (cr n 0) = 100 := sh_all (P := fun n => shc (cr n 0) = 20 ∧ shl (cr n 0) = 100) (by decide) (by decide +kernel) h
theorem crc_3_4 {n : Nat} (h : shc n = 3) : shc (cr n 4) = 20 ∧ shl (cr n 4) = 8 := sh_all (P := fun n => shc (cr n 4) = 20 ∧ shl (cr n 4) = 8) (by decide) (by decide +kernel) h
theorem crc_3_5 {n : Nat} (h : shc n = 3) : shc (cr n 5) = 20 ∧ shl (cr n 5) = 4 := sh_all (P := fun n => shc (cr n 5) = 20 ∧ shl (cr n 5) = 4) (by decide) (by decide +kernel) h
theorem crc_3_6 {n : Nat} (h : shc n = 3) : shc (cr n 6) = 20 ∧ shl (cr n 6) = 4 := sh_all (P := fun n => shc (cr n 6) = 20 ∧ shl (cr n 6) = 4) (by decide) (by decide +kernel) h
theorem crc_3_7 {n : Nat} (h : shc n = 3) : shc (cr n 7) = 20 ∧ shl (cr n 7) = 8 := sh_all (P := fun n => shc (cr n 7) = 20 ∧ shl (cr n 7) = 8) (by decide) (by decide +kernel) h
theorem crc_3_8 {n : Nat} (h : shc n = 3) : shc (cr n 8) = 20 ∧ shl (cr n 8) = 64 := sh_all (P := fun n => shc (cr n 8) = 20 ∧ shl (cr n 8) = 64) (by decide) (by decide +kernel) h
theorem crc_5_4 {n : Nat} (h : shc n = 5) : shc (cr n 4) = 20 ∧ shl (cr n 4) = 3 := sh_all (P := fun n => shc (cr n 4) = 20 ∧ shl (cr n 4) = 3) (by decide) (by decide +kernel) h
theorem crc_5_5 {n : Nat} (h : shc n = 5) : shc (cr n 5) = 20 ∧ shl (cr n 5) = 3 := sh_all (P := fun n => shc (cr n 5) = 20 ∧ shl (cr n 5) = 3) (by decide) (by decide +kernel) h
theorem crc_6_6 {n : Nat} (h : shc n = 6) : shc (cr n 6) = 20 ∧ shl (cr n 6) = 10 := sh_all (P := fun n => shc (cr n 6) = 20 ∧ shl (cr n 6) = 10) (by decide) (by decide +kernel) h
theorem crc_6_7 {n : Nat} (h : shc n = 6) : shc (cr n 7) = 20 ∧ shl (cr n 7) = 10 := sh_all (P := fun n => shc (cr n 7) = 20 ∧ shl (cr n 7) = 10) (by decide) (by decide +kernel) h
theorem crc_6_8 {n : Nat} (h : shc n = 6) : shc (cr n 8) = 20 ∧ shl (cr n 8) = 10 := sh_all (P := fun n => shc (cr n 8) = 20 ∧ shl (cr n 8) = 10) (by decide) (by decide +kernel) h
theorem crc_6_9 {n : Nat} (h : shc n = 6) : shc (cr n 9) = 20 ∧ shl (cr n 9) = 10 := sh_all (P := fun n => shc (cr n 9) = 20 ∧ shl (cr n 9) = 10) (by decide) (by decide +kernel) h
theorem crc_8_1 {n : Nat} (h : shc n = 8) : shc (cr n 1) = 20 ∧ shl (cr n 1) = 5 := sh_all (P := fun n => shc (cr n 1) = 20 ∧ shl (cr n 1) = 5) (by decide) (by decide +kernel) h
theorem crc_8_10 {n : Nat} (h : shc n = 8) : shc (cr n 10) = 25 ∧ shl (cr n 10) = 3 := sh_all (P := fun n => shc (cr n 10) = 25 ∧ shl (cr n 10) = 3) (by decide) (by decide +kernel) h
theorem crc_8_12 {n : Nat} (h : shc n = 8) : shc (cr n 12) = 26 ∧ shl (cr n 12) = 8 := sh_all (P := fun n => shc (cr n 12) = 26 ∧ shl (cr n 12) = 8) (by decide) (by decide +kernel) h
theorem crc_8_13 {n : Nat} (h : shc n = 8) : shc (cr n 13) = 20 ∧ shl (cr n 13) = 4 := sh_all (P := fun n => shc (cr n 13) = 20 ∧ shl (cr n 13) = 4) (by decide) (by decide +kernel) h
theorem crc_8_2 {n : Nat} (h : shc n = 8) : shc (cr n 2) = 20 ∧ shl (cr n 2) = 5 := sh_all (P := fun n => shc (cr n 2) = 20 ∧ shl (cr n 2) = 5) (by decide) (by decide +kernel) h
theorem crc_8_4 {n : Nat} (h : shc n = 8) : shc (cr n 4) = 2 ∧ shl (cr n 4) = 2 := sh_all (P := fun n => shc (cr n 4) = 2 ∧ shl (cr n 4) = 2) (by decide) (by decide +kernel) h
theorem crc_8_6 {n : Nat} (h : shc n = 8) : shc (cr n 6) = 20 ∧ shl (cr n 6) = 4 := sh_all (P := fun n => shc (cr n 6) = 20 ∧ shl (cr n 6) = 4) (by decide) (by decide +kernel) h
theorem crc_8_8 {n : Nat} (h : shc n = 8) : shc (cr n 8) = 24 ∧ shl (cr n 8) = 5 := sh_all (P := fun n => shc (cr n 8) = 24 ∧ shl (cr n 8) = 5) (by decide) (by decide +kernel) h
def f_J7_fill_53178_b5_s (rec5 : Nat → Int32 → Int32 → Int32 → Mem → Option Mem) (n0 : Nat) (x1 : Int32) (x2 : Int32) (x3 : Int32) (M : Mem) : Option Mem :=
  if x3 ≤ x2 then
    some M
  else
    gd (shc n0 = 20) <|
    gd (inb x2 (shl n0)) <|
    bnd (setI M n0 (x2.toNatClampNeg) x1) fun M1m =>
    bnd (x2 + 1) fun a1 =>
    rec5 n0 x1 a1 x3 M1m
def f_J7_fill_53178_b5 (k : Nat) : Nat → Int32 → Int32 → Int32 → Mem → Option Mem := lpN (fun _ _ _ _ _ => none) (f_J7_fill_53178_b5_s) k
def f_J7_fill_53178 (n0 : Nat) (x1 : Int32) (M : Mem) : Option Mem :=
  gd (shc n0 = 20) <|
  bnd (Int32.ofNat (shl n0)) fun a1 =>
  f_J7_fill_53178_b5 fuel n0 x1 0 a1 M
def f_X2_clear_b11_s (rec11 : Nat → Int32 → Mem → Option Mem) (n0 : Nat) (x1 : Int32) (M : Mem) : Option Mem :=
  if 10 ≤ x1 then
    gd (shc n0 = 2) <|
    bnd (setI M n0 1 0) fun M1m =>
    some M1m
  else
    gd (shc n0 = 2) <|
    gd (inb ((x1 * 10) + x1) 100) <|
    bnd (setI M (cr n0 0) (((x1 * 10) + x1).toNatClampNeg) 0) fun M2m =>
    bnd (x1 + 1) fun a1 =>
    rec11 n0 a1 M2m
def f_X2_clear_b11 (k : Nat) : Nat → Int32 → Mem → Option Mem := lpN (fun _ _ _ => none) (f_X2_clear_b11_s) k
def f_X2_clear (n0 : Nat) (M : Mem) : Option Mem :=
  gd (shc n0 = 2) <|
  clv (f_J7_fill_53178 (cr n0 0) 268435456 M) fun M1m =>
  f_X2_clear_b11 fuel n0 0 M1m
def f_X2_copyFrom (n0 : Nat) (n1 : Nat) (M : Mem) : Option Mem :=
  gd (shc n1 = 2) <|
  gd (shc n0 = 2) <|
  bnd (cpI M (cr n1 0) (cr n0 0) 100) fun M1m =>
  gd (vp_nar .boolean (M1m.1 n1 1) = (M1m.1 n1 1)) <|
  bnd (setI M1m n0 1 (M1m.1 n1 1)) fun M2m =>
  some M2m
def f_X2_tell_b85_s (rec59 : Nat → Int32 → Int32 → Int32 → Int32 → Mem → Option Mem) (rec85 : Nat → Int32 → Int32 → Int32 → Int32 → Int32 → Int32 → Mem → Option Mem) (n0 : Nat) (x1 : Int32) (x2 : Int32) (x3 : Int32) (x5 : Int32) (x6 : Int32) (x7 : Int32) (M : Mem) : Option Mem :=
  if 10 ≤ x7 then
    bnd (x5 + 1) fun a1 =>
    rec59 n0 x1 x2 x3 a1 M
  else
    gd (shc n0 = 2) <|
    gd (inb ((x5 * 10) + x1) 100) <|
    if (M.1 (cr n0 0) ((x5 * 10) + x1).toNatClampNeg) = 268435456 then
      bnd (x5 + 1) fun a2 =>
      rec59 n0 x1 x2 x3 a2 M
    else
      gd (inb ((x2 * 10) + x7) 100) <|
      bnd (M.1 (cr n0 0) ((x2 * 10) + x7).toNatClampNeg) fun a3 =>
      if a3 = 268435456 then
        bnd (x7 + 1) fun a4 =>
        rec85 n0 x1 x2 x3 x5 x6 a4 M
      else
        gd (inb ((x5 * 10) + x7) 100) <|
        if (M.1 (cr n0 0) ((x5 * 10) + x7).toNatClampNeg) ≤ (x6 + a3) then
          bnd (x7 + 1) fun a5 =>
          rec85 n0 x1 x2 x3 x5 x6 a5 M
        else
          bnd (setI M (cr n0 0) (((x5 * 10) + x7).toNatClampNeg) (x6 + a3)) fun M1m =>
          bnd (x7 + 1) fun a6 =>
          rec85 n0 x1 x2 x3 x5 x6 a6 M1m
def f_X2_tell_b85 (rec59 : Nat → Int32 → Int32 → Int32 → Int32 → Mem → Option Mem) (k : Nat) : Nat → Int32 → Int32 → Int32 → Int32 → Int32 → Int32 → Mem → Option Mem := lpN (fun _ _ _ _ _ _ _ _ => none) (f_X2_tell_b85_s rec59) k
def f_X2_tell_b59_s (rec59 : Nat → Int32 → Int32 → Int32 → Int32 → Mem → Option Mem) (n0 : Nat) (x1 : Int32) (x2 : Int32) (x3 : Int32) (x5 : Int32) (M : Mem) : Option Mem :=
  if 10 ≤ x5 then
    some M
  else
    gd (shc n0 = 2) <|
    gd (inb ((x5 * 10) + x1) 100) <|
    bnd ((M.1 (cr n0 0) ((x5 * 10) + x1).toNatClampNeg) + x3) fun a1 =>
    f_X2_tell_b85 rec59 fuel n0 x1 x2 x3 x5 a1 0 M
def f_X2_tell_b59 (k : Nat) : Nat → Int32 → Int32 → Int32 → Int32 → Mem → Option Mem := lpN (fun _ _ _ _ _ _ => none) (f_X2_tell_b59_s) k
def f_X2_tell (n0 : Nat) (x1 : Int32) (x2 : Int32) (x3 : Int32) (M : Mem) : Option Mem :=
  gd (shc n0 = 2) <|
  if (M.1 n0 1) = 0 then
    gd (inb ((x1 * 10) + x2) 100) <|
    if x3 < (M.1 (cr n0 0) ((x1 * 10) + x2).toNatClampNeg) then
      gd (inb ((x2 * 10) + x1) 100) <|
      bnd (M.1 (cr n0 0) ((x2 * 10) + x1).toNatClampNeg) fun a1 =>
      if a1 = 268435456 then
        f_X2_tell_b59 fuel n0 x1 x2 x3 0 M
      else
        if 0 ≤ (a1 + x3) then
          f_X2_tell_b59 fuel n0 x1 x2 x3 0 M
        else
          bnd (setI M n0 1 1) fun M1m =>
          some M1m
    else
      some M
  else
    some M
def f_X2_tellLate (n0 : Nat) (x1 : Int32) (x2 : Int32) (x3 : Int32) (M : Mem) : Option Mem :=
  gd (shc n0 = 2) <|
  clv (f_X2_tell n0 (1 + x1) 0 (-x2) M) fun M1m =>
  clv (f_X2_tell n0 0 (1 + x1) x3 M1m) fun M2m =>
  some M2m
def f_X2_tellFlash (n0 : Nat) (x1 : Int32) (x2 : Int32) (x3 : Int32) (x4 : Int32) (M : Mem) : Option Mem :=
  gd (shc n0 = 2) <|
  clv (f_X2_tell n0 (1 + x1) (1 + x3) (x4 - x2) M) fun M1m =>
  clv (f_X2_tell n0 (1 + x3) (1 + x1) (x2 - x4) M1m) fun M2m =>
  some M2m
def f_X2_markLess (n0 : Nat) (x1 : Int32) (x2 : Int32) (M : Mem) : Option (Int32 × Mem) :=
  gd (shc n0 = 2) <|
  gd (inb ((((6 + x1) * 10) + 6) + x2) 100) <|
  some (M.1 (cr n0 0) ((((6 + x1) * 10) + 6) + x2).toNatClampNeg, M)
def f_X2_lateLeast (n0 : Nat) (x1 : Int32) (M : Mem) : Option (Int32 × Mem) :=
  gd (shc n0 = 2) <|
  gd (inb (((1 + x1) * 10) + 0) 100) <|
  some (-(M.1 (cr n0 0) (((1 + x1) * 10) + 0).toNatClampNeg), M)
def f_X2_lateMost (n0 : Nat) (x1 : Int32) (M : Mem) : Option (Int32 × Mem) :=
  gd (shc n0 = 2) <|
  gd (inb (1 + x1) 100) <|
  some (M.1 (cr n0 0) (1 + x1).toNatClampNeg, M)
def f_X3_begin_b50 (rec22 : Nat → Nat → Int32 → Mem → Option Mem) (n0 : Nat) (n1 : Nat) (x2 : Int32) (ns0 : Nat) (xs1 : Int32) (xs2 : Int32) (M : Mem) : Option Mem :=
  gd (shc ns0 = 20) <|
  gd (inb xs1 (shl ns0)) <|
  bnd (setI M ns0 (xs1.toNatClampNeg) xs2) fun M1m =>
  gd (shc n0 = 3) <|
  gd (inb x2 4) <|
  bnd (setI M1m (cr n0 6) (x2.toNatClampNeg) 0) fun M2m =>
  bnd (x2 + 1) fun a1 =>
  rec22 n0 n1 a1 M2m
def f_X3_begin_b22_s (rec22 : Nat → Nat → Int32 → Mem → Option Mem) (n0 : Nat) (n1 : Nat) (x2 : Int32) (M : Mem) : Option Mem :=
  if 4 ≤ x2 then
    gd (shc n0 = 3) <|
    clv (f_J7_fill_53178 (cr n0 7) 0 M) fun M1m =>
    bnd (setI M1m n0 9 0) fun M2m =>
    some M2m
  else
    gd (shc n0 = 3) <|
    gd (shc n1 = 8) <|
    if (M.1 n1 5) ≤ x2 then
      f_X3_begin_b50 rec22 n0 n1 x2 (cr n0 5) x2 0 M
    else
      gd (inb x2 4) <|
      f_X3_begin_b50 rec22 n0 n1 x2 (cr n0 5) x2 (M.1 (cr n1 6) x2.toNatClampNeg) M
def f_X3_begin_b22 (k : Nat) : Nat → Nat → Int32 → Mem → Option Mem := lpN (fun _ _ _ _ => none) (f_X3_begin_b22_s) k
def f_X3_begin (n0 : Nat) (n1 : Nat) (M : Mem) : Option Mem :=
  gd (shc n0 = 3) <|
  bnd (setI M n0 0 0) fun M1m =>
  bnd (setI M1m n0 1 0) fun M2m =>
  bnd (setI M2m n0 2 0) fun M3m =>
  bnd (setI M3m n0 3 0) fun M4m =>
  f_X3_begin_b22 fuel n0 n1 0 M4m
def f_X3_copyFrom (n0 : Nat) (n1 : Nat) (M : Mem) : Option Mem :=
  gd (shc n1 = 3) <|
  gd (shc n0 = 3) <|
  bnd (setI M n0 0 (M.1 n1 0)) fun M1m =>
  bnd (setI M1m n0 1 (M1m.1 n1 1)) fun M2m =>
  bnd (setI M2m n0 2 (M2m.1 n1 2)) fun M3m =>
  bnd (setI M3m n0 3 (M3m.1 n1 3)) fun M4m =>
  bnd (cpI M4m (cr n1 4) (cr n0 4) 8) fun M5m =>
  bnd (cpI M5m (cr n1 5) (cr n0 5) 4) fun M6m =>
  bnd (cpI M6m (cr n1 6) (cr n0 6) 4) fun M7m =>
  bnd (cpI M7m (cr n1 7) (cr n0 7) 8) fun M8m =>
  bnd (cpI M8m (cr n1 8) (cr n0 8) 64) fun M9m =>
  bnd (setI M9m n0 9 (M9m.1 n1 9)) fun M10m =>
  some M10m
def f_X3_happen (n0 : Nat) (x1 : Int32) (x2 : Int32) (M : Mem) : Option Mem :=
  gd (shc n0 = 3) <|
  bnd (setI M n0 0 (x1 + 1)) fun M1m =>
  bnd (setI M1m n0 1 (((M1m.1 n0 1) &&& (((1 : Int32) <<< (x1 &&& 31)) ^^^ (-1))) ||| (x2 <<< (x1 &&& 31)))) fun M2m =>
  gd (inb x1 8) <|
  bnd (setI M2m (cr n0 4) (x1.toNatClampNeg) (-1)) fun M3m =>
  some M3m
def f_X3_call (n0 : Nat) (x1 : Int32) (M : Mem) : Option (Int32 × Mem) :=
  gd (shc n0 = 3) <|
  some (((M.1 n0 1) >>> (x1 &&& 31)) &&& 1, M)
def f_X3_turn (n0 : Nat) (x1 : Int32) (M : Mem) : Option Mem :=
  gd (shc n0 = 3) <|
  bnd (setI M n0 1 ((M.1 n0 1) ^^^ ((1 : Int32) <<< (x1 &&& 31)))) fun M1m =>
  some M1m
def f_X3_isReviewed (n0 : Nat) (x1 : Int32) (M : Mem) : Option (Int32 × Mem) :=
  gd (shc n0 = 3) <|
  if (((M.1 n0 2) >>> (x1 &&& 31)) &&& 1) = 0 then
    some (0, M)
  else
    some (1, M)
def f_X3_isBoarded (n0 : Nat) (x1 : Int32) (M : Mem) : Option (Int32 × Mem) :=
  gd (shc n0 = 3) <|
  if (((M.1 n0 3) >>> (x1 &&& 31)) &&& 1) = 0 then
    some (0, M)
  else
    some (1, M)
def f_X3_restartBehind (n0 : Nat) (x1 : Int32) (M : Mem) : Option Mem :=
  gd (shc n0 = 3) <|
  bnd (setI M n0 0 (x1 + 1)) fun M1m =>
  bnd (((1 : Int32) <<< ((M1m.1 n0 0) &&& 31)) - 1) fun a1 =>
  bnd (setI M1m n0 2 ((M1m.1 n0 2) &&& a1)) fun M2m =>
  bnd (setI M2m n0 3 ((M2m.1 n0 3) &&& a1)) fun M3m =>
  some M3m
def f_X3_giveBack (n0 : Nat) (x1 : Int32) (M : Mem) : Option Mem :=
  gd (shc n0 = 3) <|
  gd (inb x1 8) <|
  bnd (M.1 (cr n0 4) x1.toNatClampNeg) fun a1 =>
  if a1 < 0 then
    some M
  else
    if 4 ≤ a1 then
      some M
    else
      gd (inb a1 4) <|
      bnd (setI M (cr n0 5) (a1.toNatClampNeg) (min32 ((M.1 (cr n0 5) a1.toNatClampNeg) + 1) 9)) fun M1m =>
      some M1m
def f_X3_addLog_b4_s (rec4 : Nat → Int32 → Int32 → Int32 → Int32 → Int32 → Mem → Option Mem) (n0 : Nat) (x1 : Int32) (x2 : Int32) (x3 : Int32) (x4 : Int32) (x5 : Int32) (M : Mem) : Option Mem :=
  if x5 < 4 then
    gd (shc n0 = 3) <|
    bnd (setI M (cr n0 8) 0 x1) fun M1m =>
    bnd (setI M1m (cr n0 8) 1 x2) fun M2m =>
    bnd (setI M2m (cr n0 8) 2 x3) fun M3m =>
    bnd (setI M3m (cr n0 8) 3 x4) fun M4m =>
    bnd (setI M4m n0 9 (min32 ((M4m.1 n0 9) + 1) 16)) fun M5m =>
    some M5m
  else
    gd (shc n0 = 3) <|
    gd (inb (x5 - 4) 64) <|
    gd (inb x5 64) <|
    bnd (setI M (cr n0 8) (x5.toNatClampNeg) (M.1 (cr n0 8) (x5 - 4).toNatClampNeg)) fun M6m =>
    bnd (x5 + (-1)) fun a1 =>
    rec4 n0 x1 x2 x3 x4 a1 M6m
def f_X3_addLog_b4 (k : Nat) : Nat → Int32 → Int32 → Int32 → Int32 → Int32 → Mem → Option Mem := lpN (fun _ _ _ _ _ _ _ => none) (f_X3_addLog_b4_s) k
def f_X3_addLog (n0 : Nat) (x1 : Int32) (x2 : Int32) (x3 : Int32) (x4 : Int32) (M : Mem) : Option Mem :=
  f_X3_addLog_b4 fuel n0 x1 x2 x3 x4 63 M
def f_X6_allFrames (n0 : Nat) (M : Mem) : Option (Int32 × Mem) :=
  gd (shc n0 = 6) <|
  some (((1 : Int32) <<< ((M.1 n0 5) &&& 31)) - 1, M)
def f_J6_bitCount_0f7a4 (x0 : Int32) (M : Mem) : Option (Int32 × Mem) :=
  bnd (x0 - (((x0.toUInt32 >>> ((1 : Int32).toUInt32 &&& Int32.toUInt32 31)).toInt32) &&& 1431655765)) fun a1 =>
  bnd ((a1 &&& 858993459) + (((a1.toUInt32 >>> ((2 : Int32).toUInt32 &&& Int32.toUInt32 31)).toInt32) &&& 858993459)) fun a2 =>
  bnd ((a2 + ((a2.toUInt32 >>> ((4 : Int32).toUInt32 &&& Int32.toUInt32 31)).toInt32)) &&& 252645135) fun a3 =>
  bnd (a3 + ((a3.toUInt32 >>> ((8 : Int32).toUInt32 &&& Int32.toUInt32 31)).toInt32)) fun a4 =>
  bnd (a4 + ((a4.toUInt32 >>> ((16 : Int32).toUInt32 &&& Int32.toUInt32 31)).toInt32)) fun a5 =>
  some (a5 &&& 63, M)
def f_X6_framesOf_b4_s (rec4 : Nat → Int32 → Int32 → Int32 → Mem → Option (Int32 × Mem)) (n0 : Nat) (x1 : Int32) (x2 : Int32) (x3 : Int32) (M : Mem) : Option (Int32 × Mem) :=
  gd (shc n0 = 6) <|
  if (M.1 n0 5) ≤ x3 then
    some (x2, M)
  else
    gd (inb x3 10) <|
    if ((x1 >>> ((M.1 (cr n0 6) x3.toNatClampNeg) &&& 31)) &&& 1) = 0 then
      bnd (x3 + 1) fun a1 =>
      rec4 n0 x1 x2 a1 M
    else
      bnd (x2 ||| ((1 : Int32) <<< (x3 &&& 31))) fun a2 =>
      bnd (x3 + 1) fun a3 =>
      rec4 n0 x1 a2 a3 M
def f_X6_framesOf_b4 (k : Nat) : Nat → Int32 → Int32 → Int32 → Mem → Option (Int32 × Mem) := lpN (fun _ _ _ _ _ => none) (f_X6_framesOf_b4_s) k
def f_X6_framesOf (n0 : Nat) (x1 : Int32) (M : Mem) : Option (Int32 × Mem) :=
  f_X6_framesOf_b4 fuel n0 x1 0 0 M
def f_X9_allCameras (n0 : Nat) (M : Mem) : Option (Int32 × Mem) :=
  gd (shc n0 = 8) <|
  some (((1 : Int32) <<< ((M.1 n0 0) &&& 31)) - 1, M)
def f_X6_clear (n0 : Nat) (M : Mem) : Option Mem :=
  gd (shc n0 = 6) <|
  bnd (setI M n0 5 0) fun M1m =>
  bnd (setI M1m n0 10 (-3)) fun M2m =>
  bnd (setI M2m n0 11 (-3)) fun M3m =>
  some M3m
def f_X9_clear (n0 : Nat) (M : Mem) : Option Mem :=
  gd (shc n0 = 8) <|
  bnd (setI M n0 0 0) fun M1m =>
  bnd (setI M1m n0 3 0) fun M2m =>
  clv (f_X2_clear (cr n0 4) M2m) fun M3m =>
  bnd (setI M3m n0 5 0) fun M4m =>
  bnd (setI M4m n0 7 0) fun M5m =>
  bnd (setI M5m n0 9 0) fun M6m =>
  bnd (setI M6m n0 11 0) fun M7m =>
  bnd (setI M7m (cr n0 13) 0 60) fun M8m =>
  bnd (setI M8m (cr n0 13) 1 0) fun M9m =>
  bnd (setI M9m (cr n0 13) 2 1000) fun M10m =>
  bnd (setI M10m (cr n0 13) 3 1) fun M11m =>
  some M11m
def f_X9_isReviewedAtOnce (n0 : Nat) (x1 : Int32) (M : Mem) : Option (Int32 × Mem) :=
  gd (shc n0 = 8) <|
  gd (inb x1 8) <|
  gd (inb (M.1 (cr (cr n0 12) x1.toNatClampNeg) 1) 5) <|
  if (M.1 (cr (cr n0 8) (M.1 (cr (cr n0 12) x1.toNatClampNeg) 1).toNatClampNeg) 1) = 0 then
    if (M.1 (cr (cr n0 12) x1.toNatClampNeg) 0) < (M.1 (cr n0 13) 2) then
      some (0, M)
    else
      some (1, M)
  else
    some (1, M)
def f_X9_leftWhenWon_b22 (x1 : Int32) (xs0 : Int32) (M : Mem) : Option (Int32 × Mem) :=
  if xs0 = 0 then
    some (x1, M)
  else
    some (min32 (x1 + 1) 9, M)
def f_X9_leftWhenWon_b21 (x1 : Int32) (M : Mem) : Option (Int32 × Mem) :=
  f_X9_leftWhenWon_b22 x1 0 M
def f_X9_leftWhenWon (n0 : Nat) (x1 : Int32) (x2 : Int32) (M : Mem) : Option (Int32 × Mem) :=
  gd (shc n0 = 8) <|
  bnd (M.1 (cr n0 13) 1) fun a1 =>
  if a1 = 0 then
    f_X9_leftWhenWon_b21 x1 M
  else
    gd (¬ a1 = 0) <|
    if (x2 - x2 / a1 * a1) = 0 then
      f_X9_leftWhenWon_b22 x1 1 M
    else
      f_X9_leftWhenWon_b21 x1 M
def f_J0_isLatin1_aae02 (n0 : Nat) (M : Mem) : Option (Int32 × Mem) :=
  if (1 : Int32) = 0 then
    some (0, M)
  else
    gd (28 ≤ n0 ∧ n0 < 44) <|
    if (0 : Int32) = 0 then
      some (1, M)
    else
      some (0, M)
def f_J3_checkIndex_8e157_b9 (x0 : Int32) (x1 : Int32) (n2 : Nat) (M : Mem) : Option (Int32 × Mem) :=
  none
def f_J3_checkIndex_8e157 (x0 : Int32) (x1 : Int32) (n2 : Nat) (M : Mem) : Option (Int32 × Mem) :=
  if x0 < 0 then
    f_J3_checkIndex_8e157_b9 x0 x1 n2 M
  else
    if x0 < x1 then
      some (x0, M)
    else
      f_J3_checkIndex_8e157_b9 x0 x1 n2 M
def f_J0_checkIndex_df160 (x0 : Int32) (x1 : Int32) (M : Mem) : Option Mem :=
  cl (f_J3_checkIndex_8e157 x0 x1 60 M) fun r1 M1m =>
  some M1m
def f_J1_charAt_3b067 (n0 : Nat) (x1 : Int32) (M : Mem) : Option (Int32 × Mem) :=
  gd (44 ≤ n0 ∧ n0 < 60) <|
  clv (f_J0_checkIndex_df160 x1 (Int32.ofNat (strL.getD (n0 - 44) 0)) M) fun M1m =>
  gd (inb x1 (strL.getD (n0 - 44) 0)) <|
  gd (vp_nar .char (((((strBy.getD (n0 - 44) []).getD x1.toNatClampNeg 0) &&& 255).toUInt32 % 65536).toInt32) = (((((strBy.getD (n0 - 44) []).getD x1.toNatClampNeg 0) &&& 255).toUInt32 % 65536).toInt32)) <|
  some (((((strBy.getD (n0 - 44) []).getD x1.toNatClampNeg 0) &&& 255).toUInt32 % 65536).toInt32, M1m)
def f_J0_charAt_5068e (n0 : Nat) (x1 : Int32) (M : Mem) : Option (Int32 × Mem) :=
  gd (28 ≤ n0 ∧ n0 < 44) <|
  cl (f_J0_isLatin1_aae02 n0 M) fun r1 M1m =>
  if r1 = 0 then
    none
  else
    cl (f_J1_charAt_3b067 (n0 + 16) x1 M1m) fun r2 M2m =>
    gd (vp_nar .char r2 = r2) <|
    some (r2, M2m)
def f_J0_coder_7d493 (n0 : Nat) (M : Mem) : Option (Int32 × Mem) :=
  if (1 : Int32) = 0 then
    some (1, M)
  else
    gd (28 ≤ n0 ∧ n0 < 44) <|
    some (0, M)
def f_J0_length_8abf5 (n0 : Nat) (M : Mem) : Option (Int32 × Mem) :=
  gd (28 ≤ n0 ∧ n0 < 44) <|
  cl (f_J0_coder_7d493 n0 M) fun r1 M1m =>
  some ((Int32.ofNat (strL.getD ((n0 + 16) - 44) 0)) >>> (r1 &&& 31), M1m)
def f_Jx29ce0_ordinal_8abf5 (n0 : Nat) (M : Mem) : Option (Int32 × Mem) :=
  gd (0 < n0 ∧ n0 < 26) <|
  some (Int32.ofNat (n0 - 1), M)
def f_X4_tellFrame_b55 (rec12 : Nat → Int32 → Int32 → Int32 → Mem → Option Mem) (n1 : Nat) (x2 : Int32) (x3 : Int32) (x4 : Int32) (x5 : Int32) (M : Mem) : Option Mem :=
  gd (shc n1 = 6) <|
  gd (inb x2 10) <|
  if (((M.1 (cr n1 9) x2.toNatClampNeg) >>> (x4 &&& 31)) &&& 1) = 0 then
    bnd (x4 + 1) fun a1 =>
    rec12 n1 x2 x3 a1 M
  else
    clv (f_X2_tell 213 x3 x5 ((-(M.1 (cr n1 7) x2.toNatClampNeg)) - 1) M) fun M1m =>
    bnd (x4 + 1) fun a2 =>
    rec12 n1 x2 x3 a2 M1m
def f_X4_tellFrame_b12_s (rec12 : Nat → Int32 → Int32 → Int32 → Mem → Option Mem) (n1 : Nat) (x2 : Int32) (x3 : Int32) (x4 : Int32) (M : Mem) : Option Mem :=
  if 4 ≤ x4 then
    some M
  else
    bnd (6 + x4) fun a1 =>
    gd (shc n1 = 6) <|
    gd (inb x2 10) <|
    if (((M.1 (cr n1 8) x2.toNatClampNeg) >>> (x4 &&& 31)) &&& 1) = 0 then
      f_X4_tellFrame_b55 rec12 n1 x2 x3 x4 a1 M
    else
      clv (f_X2_tell 213 a1 x3 (M.1 (cr n1 7) x2.toNatClampNeg) M) fun M1m =>
      f_X4_tellFrame_b55 rec12 n1 x2 x3 x4 a1 M1m
def f_X4_tellFrame_b12 (k : Nat) : Nat → Int32 → Int32 → Int32 → Mem → Option Mem := lpN (fun _ _ _ _ _ => none) (f_X4_tellFrame_b12_s) k
def f_X4_tellFrame (n1 : Nat) (x2 : Int32) (M : Mem) : Option Mem :=
  gd (shc n1 = 6) <|
  gd (inb x2 10) <|
  bnd (1 + (M.1 (cr n1 6) x2.toNatClampNeg)) fun a1 =>
  f_X4_tellFrame_b12 fuel n1 x2 a1 0 M
def f_X4_sureOf_b14_s (rec14 : Nat → Int32 → Int32 → Mem → Option (Nat × Mem)) (n2 : Nat) (x3 : Int32) (x4 : Int32) (M : Mem) : Option (Nat × Mem) :=
  gd (shc n2 = 6) <|
  if (M.1 n2 5) ≤ x4 then
    some (213, M)
  else
    if ((x3 >>> (x4 &&& 31)) &&& 1) = 0 then
      bnd (x4 + 1) fun a1 =>
      rec14 n2 x3 a1 M
    else
      clv (f_X4_tellFrame n2 x4 M) fun M1m =>
      bnd (x4 + 1) fun a2 =>
      rec14 n2 x3 a2 M1m
def f_X4_sureOf_b14 (k : Nat) : Nat → Int32 → Int32 → Mem → Option (Nat × Mem) := lpN (fun _ _ _ _ => none) (f_X4_sureOf_b14_s) k
def f_X4_sureOf (n1 : Nat) (n2 : Nat) (x3 : Int32) (M : Mem) : Option (Nat × Mem) :=
  gd (shc n1 = 8) <|
  clv (f_X2_copyFrom 213 (cr n1 4) M) fun M1m =>
  f_X4_sureOf_b14 fuel n2 x3 0 M1m
def f_X4_canHold_b13_s (rec13 : Nat → Int32 → Mem → Option (Int32 × Mem)) (n1 : Nat) (x2 : Int32) (M : Mem) : Option (Int32 × Mem) :=
  gd (shc n1 = 5) <|
  if (M.1 n1 3) ≤ x2 then
    if (M.1 215 1) = 0 then
      some (1, M)
    else
      some (0, M)
  else
    gd (inb x2 3) <|
    clv (f_X2_tell 215 (6 + (M.1 (cr n1 4) x2.toNatClampNeg)) (6 + (M.1 (cr n1 5) x2.toNatClampNeg)) (-1) M) fun M1m =>
    bnd (x2 + 1) fun a1 =>
    rec13 n1 a1 M1m
def f_X4_canHold_b13 (k : Nat) : Nat → Int32 → Mem → Option (Int32 × Mem) := lpN (fun _ _ _ => none) (f_X4_canHold_b13_s) k
def f_X4_canHold (n1 : Nat) (M : Mem) : Option (Int32 × Mem) :=
  clv (f_X2_copyFrom 215 213 M) fun M1m =>
  f_X4_canHold_b13 fuel n1 0 M1m
def f_X4_mustHold_b2_s (rec2 : Nat → Int32 → Mem → Option (Int32 × Mem)) (n1 : Nat) (x2 : Int32) (M : Mem) : Option (Int32 × Mem) :=
  gd (shc n1 = 5) <|
  if (M.1 n1 3) ≤ x2 then
    some (1, M)
  else
    gd (inb x2 3) <|
    cl (f_X2_markLess 213 (M.1 (cr n1 4) x2.toNatClampNeg) (M.1 (cr n1 5) x2.toNatClampNeg) M) fun r1 M1m =>
    if r1 < 0 then
      bnd (x2 + 1) fun a1 =>
      rec2 n1 a1 M1m
    else
      some (0, M1m)
def f_X4_mustHold_b2 (k : Nat) : Nat → Int32 → Mem → Option (Int32 × Mem) := lpN (fun _ _ _ => none) (f_X4_mustHold_b2_s) k
def f_X4_mustHold (n1 : Nat) (M : Mem) : Option (Int32 × Mem) :=
  f_X4_mustHold_b2 fuel n1 0 M
def f_X4_byFrames (n1 : Nat) (n2 : Nat) (x3 : Int32) (M : Mem) : Option (Int32 × Mem) :=
  cl (f_X4_sureOf n1 n2 x3 M) fun o1 M1m =>
  gd (shc o1 = 2) <|
  if (M1m.1 o1 1) = 0 then
    gd (shc n1 = 8) <|
    gd (shc n2 = 6) <|
    gd (inb (M1m.1 n2 1) 5) <|
    bnd (cr (cr n1 8) (M1m.1 n2 1).toNatClampNeg) fun o2 =>
    cl (f_X4_mustHold o2 M1m) fun r1 M2m =>
    if r1 = 0 then
      cl (f_X4_canHold o2 M2m) fun r2 M3m =>
      if r2 = 0 then
        some (0, M3m)
      else
        some (2, M3m)
    else
      some (1, M2m)
  else
    some (3, M1m)
def f_X4_isSure (x0 : Int32) (M : Mem) : Option (Int32 × Mem) :=
  if x0 = 1 then
    some (1, M)
  else
    if x0 = 0 then
      some (1, M)
    else
      some (0, M)
def f_X4_trueCall (n1 : Nat) (n2 : Nat) (x3 : Int32) (M : Mem) : Option (Int32 × Mem) :=
  gd (shc n2 = 6) <|
  cl (f_X6_allFrames n2 M) fun r1 M1m =>
  cl (f_X4_byFrames n1 n2 r1 M1m) fun r2 M2m =>
  cl (f_X4_isSure r2 M2m) fun r3 M3m =>
  if r3 = 0 then
    some (x3, M3m)
  else
    some (r2, M3m)
def f_X4_searchFewest_b40_s (rec28 : Nat → Nat → Int32 → Int32 → Int32 → Mem → Option (Int32 × Mem)) (rec40 : Nat → Nat → Int32 → Int32 → Int32 → Int32 → Mem → Option (Int32 × Mem)) (n1 : Nat) (n2 : Nat) (x3 : Int32) (x4 : Int32) (x5 : Int32) (x6 : Int32) (M : Mem) : Option (Int32 × Mem) :=
  if x3 < x6 then
    bnd (x5 + 1) fun a1 =>
    rec28 n1 n2 x3 x4 a1 M
  else
    cl (f_J6_bitCount_0f7a4 x6 M) fun r1 M1m =>
    if r1 = x5 then
      cl (f_X4_byFrames n1 n2 x6 M1m) fun r2 M2m =>
      if r2 = x4 then
        some (x6, M2m)
      else
        bnd (x6 + 1) fun a2 =>
        rec40 n1 n2 x3 x4 x5 a2 M2m
    else
      bnd (x6 + 1) fun a3 =>
      rec40 n1 n2 x3 x4 x5 a3 M1m
def f_X4_searchFewest_b40 (rec28 : Nat → Nat → Int32 → Int32 → Int32 → Mem → Option (Int32 × Mem)) (k : Nat) : Nat → Nat → Int32 → Int32 → Int32 → Int32 → Mem → Option (Int32 × Mem) := lpN (fun _ _ _ _ _ _ _ => none) (f_X4_searchFewest_b40_s rec28) k
def f_X4_searchFewest_b28_s (rec28 : Nat → Nat → Int32 → Int32 → Int32 → Mem → Option (Int32 × Mem)) (n1 : Nat) (n2 : Nat) (x3 : Int32) (x4 : Int32) (x5 : Int32) (M : Mem) : Option (Int32 × Mem) :=
  gd (shc n2 = 6) <|
  if (M.1 n2 5) ≤ x5 then
    some (x3, M)
  else
    f_X4_searchFewest_b40 rec28 fuel n1 n2 x3 x4 x5 0 M
def f_X4_searchFewest_b28 (k : Nat) : Nat → Nat → Int32 → Int32 → Int32 → Mem → Option (Int32 × Mem) := lpN (fun _ _ _ _ _ _ => none) (f_X4_searchFewest_b28_s) k
def f_X4_searchFewest (n1 : Nat) (n2 : Nat) (M : Mem) : Option (Int32 × Mem) :=
  gd (shc n2 = 6) <|
  cl (f_X6_allFrames n2 M) fun r1 M1m =>
  cl (f_X4_byFrames n1 n2 r1 M1m) fun r2 M2m =>
  cl (f_X4_isSure r2 M2m) fun r3 M3m =>
  if r3 = 0 then
    some ((-2), M3m)
  else
    f_X4_searchFewest_b28 fuel n1 n2 r1 r2 0 M3m
def f_X4_fewestFrames (n1 : Nat) (n2 : Nat) (M : Mem) : Option (Int32 × Mem) :=
  gd (shc n2 = 6) <|
  if (M.1 n2 10) = (-3) then
    cl (f_X4_searchFewest n1 n2 M) fun r1 M1m =>
    bnd (setI M1m n2 10 r1) fun M2m =>
    some (M2m.1 n2 10, M2m)
  else
    some (M.1 n2 10, M)
def f_X4_keyFrames_b27_s (rec27 : Nat → Nat → Int32 → Int32 → Int32 → Mem → Option (Int32 × Mem)) (n1 : Nat) (n2 : Nat) (x3 : Int32) (x4 : Int32) (x5 : Int32) (M : Mem) : Option (Int32 × Mem) :=
  gd (shc n2 = 6) <|
  if (M.1 n2 5) ≤ x5 then
    some (x4, M)
  else
    cl (f_X4_byFrames n1 n2 (x3 &&& (((1 : Int32) <<< (x5 &&& 31)) ^^^ (-1))) M) fun r1 M1m =>
    if r1 = 2 then
      bnd (x4 ||| ((1 : Int32) <<< (x5 &&& 31))) fun a1 =>
      bnd (x5 + 1) fun a2 =>
      rec27 n1 n2 x3 a1 a2 M1m
    else
      bnd (x5 + 1) fun a3 =>
      rec27 n1 n2 x3 x4 a3 M1m
def f_X4_keyFrames_b27 (k : Nat) : Nat → Nat → Int32 → Int32 → Int32 → Mem → Option (Int32 × Mem) := lpN (fun _ _ _ _ _ _ => none) (f_X4_keyFrames_b27_s) k
def f_X4_keyFrames (n1 : Nat) (n2 : Nat) (M : Mem) : Option (Int32 × Mem) :=
  gd (shc n2 = 6) <|
  cl (f_X6_allFrames n2 M) fun r1 M1m =>
  cl (f_X4_byFrames n1 n2 r1 M1m) fun r2 M2m =>
  cl (f_X4_isSure r2 M2m) fun r3 M3m =>
  if r3 = 0 then
    some ((-2), M3m)
  else
    f_X4_keyFrames_b27 fuel n1 n2 r1 0 0 M3m
def f_X4_fewestCameras_b42_s (rec30 : Nat → Nat → Int32 → Int32 → Int32 → Mem → Option (Int32 × Mem)) (rec42 : Nat → Nat → Int32 → Int32 → Int32 → Int32 → Mem → Option (Int32 × Mem)) (n1 : Nat) (n2 : Nat) (x3 : Int32) (x4 : Int32) (x5 : Int32) (x6 : Int32) (M : Mem) : Option (Int32 × Mem) :=
  if x4 < x6 then
    bnd (x5 + 1) fun a1 =>
    rec30 n1 n2 x3 x4 a1 M
  else
    cl (f_J6_bitCount_0f7a4 x6 M) fun r1 M1m =>
    if r1 = x5 then
      gd (shc n2 = 6) <|
      cl (f_X6_framesOf n2 x6 M1m) fun r2 M2m =>
      cl (f_X4_byFrames n1 n2 r2 M2m) fun r3 M3m =>
      if r3 = x3 then
        some (x6, M3m)
      else
        bnd (x6 + 1) fun a2 =>
        rec42 n1 n2 x3 x4 x5 a2 M3m
    else
      bnd (x6 + 1) fun a3 =>
      rec42 n1 n2 x3 x4 x5 a3 M1m
def f_X4_fewestCameras_b42 (rec30 : Nat → Nat → Int32 → Int32 → Int32 → Mem → Option (Int32 × Mem)) (k : Nat) : Nat → Nat → Int32 → Int32 → Int32 → Int32 → Mem → Option (Int32 × Mem) := lpN (fun _ _ _ _ _ _ _ => none) (f_X4_fewestCameras_b42_s rec30) k
def f_X4_fewestCameras_b30_s (rec30 : Nat → Nat → Int32 → Int32 → Int32 → Mem → Option (Int32 × Mem)) (n1 : Nat) (n2 : Nat) (x3 : Int32) (x4 : Int32) (x5 : Int32) (M : Mem) : Option (Int32 × Mem) :=
  gd (shc n1 = 8) <|
  if (M.1 n1 0) ≤ x5 then
    some (x4, M)
  else
    f_X4_fewestCameras_b42 rec30 fuel n1 n2 x3 x4 x5 0 M
def f_X4_fewestCameras_b30 (k : Nat) : Nat → Nat → Int32 → Int32 → Int32 → Mem → Option (Int32 × Mem) := lpN (fun _ _ _ _ _ _ => none) (f_X4_fewestCameras_b30_s) k
def f_X4_fewestCameras (n1 : Nat) (n2 : Nat) (M : Mem) : Option (Int32 × Mem) :=
  gd (shc n2 = 6) <|
  cl (f_X6_allFrames n2 M) fun r1 M1m =>
  cl (f_X4_byFrames n1 n2 r1 M1m) fun r2 M2m =>
  cl (f_X4_isSure r2 M2m) fun r3 M3m =>
  if r3 = 0 then
    some ((-2), M3m)
  else
    gd (shc n1 = 8) <|
    cl (f_X9_allCameras n1 M3m) fun r4 M4m =>
    f_X4_fewestCameras_b30 fuel n1 n2 r2 r4 0 M4m
def f_X4_searchLeftOut_b33_s (rec21 : Nat → Nat → Int32 → Int32 → Mem → Option (Int32 × Mem)) (rec33 : Nat → Nat → Int32 → Int32 → Int32 → Mem → Option (Int32 × Mem)) (n1 : Nat) (n2 : Nat) (x3 : Int32) (x4 : Int32) (x5 : Int32) (M : Mem) : Option (Int32 × Mem) :=
  if x3 < x5 then
    bnd (x4 + 1) fun a1 =>
    rec21 n1 n2 x3 a1 M
  else
    cl (f_J6_bitCount_0f7a4 x5 M) fun r1 M1m =>
    if r1 = x4 then
      cl (f_X4_sureOf n1 n2 (x3 &&& (x5 ^^^ (-1))) M1m) fun o1 M2m =>
      gd (shc o1 = 2) <|
      if (M2m.1 o1 1) = 0 then
        some (x5, M2m)
      else
        bnd (x5 + 1) fun a2 =>
        rec33 n1 n2 x3 x4 a2 M2m
    else
      bnd (x5 + 1) fun a3 =>
      rec33 n1 n2 x3 x4 a3 M1m
def f_X4_searchLeftOut_b33 (rec21 : Nat → Nat → Int32 → Int32 → Mem → Option (Int32 × Mem)) (k : Nat) : Nat → Nat → Int32 → Int32 → Int32 → Mem → Option (Int32 × Mem) := lpN (fun _ _ _ _ _ _ => none) (f_X4_searchLeftOut_b33_s rec21) k
def f_X4_searchLeftOut_b21_s (rec21 : Nat → Nat → Int32 → Int32 → Mem → Option (Int32 × Mem)) (n1 : Nat) (n2 : Nat) (x3 : Int32) (x4 : Int32) (M : Mem) : Option (Int32 × Mem) :=
  gd (shc n2 = 6) <|
  if (M.1 n2 5) ≤ x4 then
    some (x3, M)
  else
    f_X4_searchLeftOut_b33 rec21 fuel n1 n2 x3 x4 0 M
def f_X4_searchLeftOut_b21 (k : Nat) : Nat → Nat → Int32 → Int32 → Mem → Option (Int32 × Mem) := lpN (fun _ _ _ _ _ => none) (f_X4_searchLeftOut_b21_s) k
def f_X4_searchLeftOut (n1 : Nat) (n2 : Nat) (M : Mem) : Option (Int32 × Mem) :=
  gd (shc n1 = 8) <|
  if (M.1 (cr n1 4) 1) = 0 then
    gd (shc n2 = 6) <|
    cl (f_X6_allFrames n2 M) fun r1 M1m =>
    f_X4_searchLeftOut_b21 fuel n1 n2 r1 0 M1m
  else
    some ((-2), M)
def f_X4_fewestLeftOut (n1 : Nat) (n2 : Nat) (M : Mem) : Option (Int32 × Mem) :=
  gd (shc n2 = 6) <|
  if (M.1 n2 11) = (-3) then
    cl (f_X4_searchLeftOut n1 n2 M) fun r1 M1m =>
    bnd (setI M1m n2 11 r1) fun M2m =>
    some (M2m.1 n2 11, M2m)
  else
    some (M.1 n2 11, M)
def f_X4_review_b77 (x3 : Int32) (x4 : Int32) (x5 : Int32) (x6 : Int32) (M : Mem) : Option (Int32 × Mem) :=
  bnd (setI M 212 3 x5) fun M1m =>
  bnd (setI M1m 212 2 (x5 * x4)) fun M2m =>
  cl (f_X4_isSure x6 M2m) fun r1 M3m =>
  if r1 = 0 then
    some (0, M3m)
  else
    if x6 = x3 then
      some (1, M3m)
    else
      some (2, M3m)
def f_X4_review_b26_s (rec26 : Nat → Nat → Int32 → Int32 → Int32 → Int32 → Mem → Option (Int32 × Mem)) (n1 : Nat) (n2 : Nat) (x3 : Int32) (x4 : Int32) (x5 : Int32) (x6 : Int32) (M : Mem) : Option (Int32 × Mem) :=
  if x6 = 2 then
    gd (shc n2 = 6) <|
    if (M.1 n2 5) ≤ x5 then
      f_X4_review_b77 x3 x4 x5 x6 M
    else
      gd (shc n1 = 8) <|
      if (M.1 (cr n1 13) 0) < ((x5 + 1) * x4) then
        f_X4_review_b77 x3 x4 x5 x6 M
      else
        bnd (x5 + 1) fun a1 =>
        cl (f_X4_byFrames n1 n2 (((1 : Int32) <<< (a1 &&& 31)) - 1) M) fun r1 M1m =>
        rec26 n1 n2 x3 x4 a1 r1 M1m
  else
    f_X4_review_b77 x3 x4 x5 x6 M
def f_X4_review_b26 (k : Nat) : Nat → Nat → Int32 → Int32 → Int32 → Int32 → Mem → Option (Int32 × Mem) := lpN (fun _ _ _ _ _ _ _ => none) (f_X4_review_b26_s) k
def f_X4_review (n1 : Nat) (n2 : Nat) (x3 : Int32) (M : Mem) : Option (Int32 × Mem) :=
  gd (shc n1 = 8) <|
  gd (shc n2 = 6) <|
  gd (inb (M.1 n2 1) 5) <|
  bnd (M.1 (cr (cr n1 8) (M.1 n2 1).toNatClampNeg) 0) fun a1 =>
  cl (f_X4_byFrames n1 n2 0 M) fun r1 M1m =>
  f_X4_review_b26 fuel n1 n2 x3 a1 0 r1 M1m
def f_X4_membersAgainst_b6_s (rec6 : Nat → Nat → Nat → Int32 → Int32 → Int32 → Mem → Option (Int32 × Mem)) (n1 : Nat) (n2 : Nat) (n3 : Nat) (x4 : Int32) (x5 : Int32) (x6 : Int32) (M : Mem) : Option (Int32 × Mem) :=
  gd (shc n2 = 1) <|
  if (M.1 n2 1) ≤ x6 then
    some (x5, M)
  else
    gd (inb x6 7) <|
    gd (shc n3 = 6) <|
    cl (f_X6_framesOf n3 (M.1 (cr n2 2) x6.toNatClampNeg) M) fun r1 M1m =>
    cl (f_X4_byFrames n1 n3 r1 M1m) fun r2 M2m =>
    cl (f_X4_isSure r2 M2m) fun r3 M3m =>
    if r3 = 0 then
      bnd (x6 + 1) fun a1 =>
      rec6 n1 n2 n3 x4 x5 a1 M3m
    else
      if r2 = x4 then
        bnd (x6 + 1) fun a2 =>
        rec6 n1 n2 n3 x4 x5 a2 M3m
      else
        bnd (x5 ||| ((1 : Int32) <<< (x6 &&& 31))) fun a3 =>
        bnd (x6 + 1) fun a4 =>
        rec6 n1 n2 n3 x4 a3 a4 M3m
def f_X4_membersAgainst_b6 (k : Nat) : Nat → Nat → Nat → Int32 → Int32 → Int32 → Mem → Option (Int32 × Mem) := lpN (fun _ _ _ _ _ _ _ => none) (f_X4_membersAgainst_b6_s) k
def f_X4_membersAgainst (n1 : Nat) (n2 : Nat) (n3 : Nat) (x4 : Int32) (M : Mem) : Option (Int32 × Mem) :=
  f_X4_membersAgainst_b6 fuel n1 n2 n3 x4 0 0 M
def f_X11_thrown (M : Mem) : Option (Int32 × Mem) :=
  some (M.1 311 0, M)
def f_X11_within (y0 : Int64) (y2 : Int64) (y4 : Int64) (M : Mem) : Option (Int32 × Mem) :=
  if (lg_cmp y0 y2) < 0 then
    some (0, M)
  else
    if 0 < (lg_cmp y0 y4) then
      some (0, M)
    else
      some (1, M)
def f_X11_has (x0 : Int32) (x1 : Int32) (M : Mem) : Option (Int32 × Mem) :=
  if ((x0 >>> (x1 &&& 31)) &&& 1) = 1 then
    some (1, M)
  else
    some (0, M)
def f_X11_bits_b4_s (rec4 : Int32 → Int32 → Mem → Option (Int32 × Mem)) (x1 : Int32) (x2 : Int32) (M : Mem) : Option (Int32 × Mem) :=
  if x2 = 0 then
    some (x1, M)
  else
    bnd (x1 + 1) fun a1 =>
    bnd (x2 &&& (x2 - 1)) fun a2 =>
    rec4 a1 a2 M
def f_X11_bits_b4 (k : Nat) : Int32 → Int32 → Mem → Option (Int32 × Mem) := lpN (fun _ _ _ => none) (f_X11_bits_b4_s) k
def f_X11_bits (x0 : Int32) (M : Mem) : Option (Int32 × Mem) :=
  f_X11_bits_b4 fuel 0 x0 M
def f_X11_puts_b3_s (rec3 : Int32 → Int32 → Mem → Option Mem) (x1 : Int32) (x2 : Int32) (M : Mem) : Option Mem :=
  if x2 < 0 then
    some M
  else
    gd (inb (M.1 311 2) 600) <|
    bnd (setI M 312 ((M.1 311 2).toNatClampNeg) (vp_nar .byte ((x1 >>> (x2 &&& 31)).toInt8.toInt32))) fun M1m =>
    bnd (setI M1m 311 2 ((M1m.1 311 2) + 1)) fun M2m =>
    bnd (x2 + (-8)) fun a1 =>
    rec3 x1 a1 M2m
def f_X11_puts_b3 (k : Nat) : Int32 → Int32 → Mem → Option Mem := lpN (fun _ _ _ => none) (f_X11_puts_b3_s) k
def f_X11_puts (x1 : Int32) (M : Mem) : Option Mem :=
  f_X11_puts_b3 fuel x1 24 M
def f_X11_feed (x1 : Int32) (x2 : Int32) (x3 : Int32) (x4 : Int32) (x5 : Int32) (M : Mem) : Option (Int32 × Mem) :=
  bnd (setI M 311 0 0) fun M1m =>
  if ((M1m.1 311 2) + 20) ≤ 600 then
    clv (f_X11_puts x1 M1m) fun M2m =>
    clv (f_X11_puts x2 M2m) fun M3m =>
    clv (f_X11_puts x3 M3m) fun M4m =>
    clv (f_X11_puts x4 M4m) fun M5m =>
    clv (f_X11_puts x5 M5m) fun M6m =>
    some (M6m.1 311 2, M6m)
  else
    some ((-1), M1m)
def f_X11_see (x1 : Int32) (M : Mem) : Option (Int32 × Mem) :=
  if (M.1 311 3) ≤ x1 then
    some ((-1), M)
  else
    gd (inb x1 600) <|
    some ((M.1 312 x1.toNatClampNeg) &&& 255, M)
def f_X11_steps_b34 (rec8 : Mem → Option Mem) (M : Mem) : Option Mem :=
  bnd (setI M 311 4 ((M.1 311 4) + 1)) fun M1m =>
  rec8 M1m
def f_X11_steps_b132 (x1 : Int32) (M : Mem) : Option Mem :=
  bnd (setI M 311 6 x1) fun M1m =>
  some M1m
def f_X11_steps_b385 (xs1 : Int32) (M : Mem) : Option Mem :=
  bnd (setI M 311 6 xs1) fun M1m =>
  some M1m
def f_X11_steps_b350 (rec289 : Mem → Option Mem) (xs1 : Int32) (M : Mem) : Option Mem :=
  bnd (setI M 311 7 xs1) fun M1m =>
  bnd (setI M1m 311 5 ((M1m.1 311 5) + 1)) fun M2m =>
  rec289 M2m
def f_X11_steps_b289_s (rec289 : Mem → Option Mem) (M : Mem) : Option Mem :=
  cl (f_X11_see (M.1 311 5) M) fun r1 M1m =>
  cl (f_X11_within (r1.toInt64) 48 57 M1m) fun r2 M2m =>
  if r2 = 0 then
    if 5 ≤ ((M2m.1 311 5) - (M2m.1 311 4)) then
      f_X11_steps_b385 3 M2m
    else
      f_X11_steps_b385 2 M2m
  else
    if 4 ≤ ((M2m.1 311 5) - (M2m.1 311 4)) then
      f_X11_steps_b350 rec289 (M2m.1 311 7) M2m
    else
      cl (f_X11_see (M2m.1 311 5) M2m) fun r3 M3m =>
      f_X11_steps_b350 rec289 (((10 * (M2m.1 311 7)) + r3) - 48) M3m
def f_X11_steps_b289 (k : Nat) : Mem → Option Mem := lpN (fun _ => none) (f_X11_steps_b289_s) k
def f_X11_steps_b261 (xs1 : Int32) (M : Mem) : Option Mem :=
  bnd (setI M 311 6 xs1) fun M1m =>
  some M1m
def f_X11_steps_b225 (rec162 : Mem → Option Mem) (ys1 : Int64) (M : Mem) : Option Mem :=
  bnd (setL M 311 8 ys1) fun M1m =>
  bnd (setI M1m 311 5 ((M1m.1 311 5) + 1)) fun M2m =>
  rec162 M2m
def f_X11_steps_b162_s (rec162 : Mem → Option Mem) (M : Mem) : Option Mem :=
  cl (f_X11_see (M.1 311 5) M) fun r1 M1m =>
  cl (f_X11_within (r1.toInt64) 97 122 M1m) fun r2 M2m =>
  if r2 = 0 then
    if 7 ≤ ((M2m.1 311 5) - (M2m.1 311 4)) then
      f_X11_steps_b261 3 M2m
    else
      f_X11_steps_b261 1 M2m
  else
    if 6 ≤ ((M2m.1 311 5) - (M2m.1 311 4)) then
      f_X11_steps_b225 rec162 (M2m.2.1 311 8) M2m
    else
      cl (f_X11_see (M2m.1 311 5) M2m) fun r3 M3m =>
      f_X11_steps_b225 rec162 (((M2m.2.1 311 8) <<< ((5 : Int32).toInt64 &&& 63)) ||| ((r3.toInt64) - 96)) M3m
def f_X11_steps_b162 (k : Nat) : Mem → Option Mem := lpN (fun _ => none) (f_X11_steps_b162_s) k
def f_X11_steps_b8_s (rec8 : Mem → Option Mem) (M : Mem) : Option Mem :=
  cl (f_X11_see (M.1 311 4) M) fun r1 M1m =>
  if r1 = 32 then
    f_X11_steps_b34 rec8 M1m
  else
    cl (f_X11_see (M1m.1 311 4) M1m) fun r2 M2m =>
    if r2 = 10 then
      f_X11_steps_b34 rec8 M2m
    else
      cl (f_X11_see (M2m.1 311 4) M2m) fun r3 M3m =>
      bnd (setI M3m 311 5 ((M3m.1 311 4) + 1)) fun M4m =>
      bnd (setI M4m 311 6 3) fun M5m =>
      bnd (setI M5m 311 7 0) fun M6m =>
      bnd (setL M6m 311 8 0) fun M7m =>
      if r3 = (-1) then
        bnd (setI M7m 311 5 (M7m.1 311 4)) fun M8m =>
        bnd (setI M8m 311 6 0) fun M9m =>
        some M9m
      else
        if r3 = 59 then
          f_X11_steps_b132 r3 M7m
        else
          if r3 = 40 then
            f_X11_steps_b132 r3 M7m
          else
            if r3 = 41 then
              f_X11_steps_b132 r3 M7m
            else
              if r3 = 33 then
                f_X11_steps_b132 r3 M7m
              else
                if r3 = 63 then
                  f_X11_steps_b132 r3 M7m
                else
                  cl (f_X11_within (r3.toInt64) 97 122 M7m) fun r4 M10m =>
                  if r4 = 0 then
                    cl (f_X11_within (r3.toInt64) 48 57 M10m) fun r5 M11m =>
                    if r5 = 0 then
                      some M11m
                    else
                      bnd (setI M11m 311 5 (M11m.1 311 4)) fun M12m =>
                      f_X11_steps_b289 fuel M12m
                  else
                    bnd (setI M10m 311 5 (M10m.1 311 4)) fun M13m =>
                    f_X11_steps_b162 fuel M13m
def f_X11_steps_b8 (k : Nat) : Mem → Option Mem := lpN (fun _ => none) (f_X11_steps_b8_s) k
def f_X11_steps (M : Mem) : Option Mem :=
  bnd (setI M 311 4 (M.1 311 5)) fun M1m =>
  f_X11_steps_b8 fuel M1m
def f_X11_must_b24 (M : Mem) : Option (Int32 × Mem) :=
  if (M.1 311 9) = 0 then
    some (1, M)
  else
    some (0, M)
def f_X11_must (x1 : Int32) (x2 : Int32) (M : Mem) : Option (Int32 × Mem) :=
  if (M.1 311 9) = 0 then
    if x1 = 0 then
      bnd (setI M 311 9 x2) fun M1m =>
      bnd (setI M1m 311 10 (M1m.1 311 4)) fun M2m =>
      f_X11_must_b24 M2m
    else
      f_X11_must_b24 M
  else
    f_X11_must_b24 M
def f_X11_spelled_b4_s (rec4 : Nat → Int64 → Int32 → Mem → Option (Int64 × Mem)) (n0 : Nat) (y1 : Int64) (x3 : Int32) (M : Mem) : Option (Int64 × Mem) :=
  gd (28 ≤ n0 ∧ n0 < 44) <|
  cl (f_J0_length_8abf5 n0 M) fun r1 M1m =>
  if r1 ≤ x3 then
    some (y1, M1m)
  else
    cl (f_J0_charAt_5068e n0 x3 M1m) fun r2 M2m =>
    bnd ((y1 <<< ((5 : Int32).toInt64 &&& 63)) ||| ((r2.toInt64) - 96)) fun c1 =>
    bnd (x3 + 1) fun a1 =>
    rec4 n0 c1 a1 M2m
def f_X11_spelled_b4 (k : Nat) : Nat → Int64 → Int32 → Mem → Option (Int64 × Mem) := lpN (fun _ _ _ _ => none) (f_X11_spelled_b4_s) k
def f_X11_spelled (n0 : Nat) (M : Mem) : Option (Int64 × Mem) :=
  f_X11_spelled_b4 fuel n0 0 0 M
def f_X11_is (n1 : Nat) (M : Mem) : Option (Int32 × Mem) :=
  if (M.1 311 9) = 0 then
    if (M.1 311 6) = 1 then
      cl (f_X11_spelled n1 M) fun s1 M1m =>
      if (lg_cmp (M.2.1 311 8) s1) = 0 then
        some (1, M1m)
      else
        some (0, M1m)
    else
      some (0, M)
  else
    some (0, M)
def f_X11_isOwn_b95 (xs0 : Int32) (M : Mem) : Option (Int32 × Mem) :=
  if xs0 = 0 then
    cl (f_X11_is 38 M) fun r1 M1m =>
    if r1 = 0 then
      cl (f_X11_is 39 M1m) fun r2 M2m =>
      if r2 = 0 then
        cl (f_X11_is 40 M2m) fun r3 M3m =>
        if r3 = 0 then
          cl (f_X11_is 41 M3m) fun r4 M4m =>
          if r4 = 0 then
            cl (f_X11_is 42 M4m) fun r5 M5m =>
            if r5 = 0 then
              cl (f_X11_is 43 M5m) fun r6 M6m =>
              if r6 = 0 then
                some (0, M6m)
              else
                some (1, M6m)
            else
              some (1, M5m)
          else
            some (1, M4m)
        else
          some (1, M3m)
      else
        some (1, M2m)
    else
      some (1, M1m)
  else
    some (1, M)
def f_X11_isOwn_b90 (M : Mem) : Option (Int32 × Mem) :=
  f_X11_isOwn_b95 1 M
def f_X11_isOwn (M : Mem) : Option (Int32 × Mem) :=
  cl (f_X11_is 28 M) fun r1 M1m =>
  if r1 = 0 then
    cl (f_X11_is 29 M1m) fun r2 M2m =>
    if r2 = 0 then
      cl (f_X11_is 30 M2m) fun r3 M3m =>
      if r3 = 0 then
        cl (f_X11_is 31 M3m) fun r4 M4m =>
        if r4 = 0 then
          cl (f_X11_is 32 M4m) fun r5 M5m =>
          if r5 = 0 then
            cl (f_X11_is 33 M5m) fun r6 M6m =>
            if r6 = 0 then
              cl (f_X11_is 34 M6m) fun r7 M7m =>
              if r7 = 0 then
                cl (f_X11_is 35 M7m) fun r8 M8m =>
                if r8 = 0 then
                  cl (f_X11_is 36 M8m) fun r9 M9m =>
                  if r9 = 0 then
                    cl (f_X11_is 37 M9m) fun r10 M10m =>
                    if r10 = 0 then
                      f_X11_isOwn_b95 0 M10m
                    else
                      f_X11_isOwn_b90 M10m
                  else
                    f_X11_isOwn_b90 M9m
                else
                  f_X11_isOwn_b90 M8m
              else
                f_X11_isOwn_b90 M7m
            else
              f_X11_isOwn_b90 M6m
          else
            f_X11_isOwn_b90 M5m
        else
          f_X11_isOwn_b90 M4m
      else
        f_X11_isOwn_b90 M3m
    else
      f_X11_isOwn_b90 M2m
  else
    f_X11_isOwn_b90 M1m
def f_X11_isName (M : Mem) : Option (Int32 × Mem) :=
  if (M.1 311 6) = 1 then
    cl (f_X11_isOwn M) fun r1 M1m =>
    if r1 = 0 then
      some (1, M1m)
    else
      some (0, M1m)
  else
    some (0, M)
def f_X11_number_b14 (x1 : Int32) (x2 : Int32) (xs1 : Int32) (M : Mem) : Option (Int32 × Mem) :=
  cl (f_X11_must xs1 1 M) fun r1 M1m =>
  if r1 = 0 then
    some (x1, M1m)
  else
    cl (f_X11_within ((M1m.1 311 7).toInt64) (x1.toInt64) (x2.toInt64) M1m) fun r2 M2m =>
    cl (f_X11_must r2 3 M2m) fun r3 M3m =>
    if r3 = 0 then
      some (x1, M3m)
    else
      bnd (M3m.1 311 7) fun a1 =>
      clv (f_X11_steps M3m) fun M4m =>
      some (a1, M4m)
def f_X11_number (x1 : Int32) (x2 : Int32) (M : Mem) : Option (Int32 × Mem) :=
  if (M.1 311 6) = 2 then
    f_X11_number_b14 x1 x2 1 M
  else
    f_X11_number_b14 x1 x2 0 M
def f_X11_takes_b14 (xs1 : Int32) (M : Mem) : Option Mem :=
  cl (f_X11_must xs1 1 M) fun r1 M1m =>
  if r1 = 0 then
    some M1m
  else
    clv (f_X11_steps M1m) fun M2m =>
    some M2m
def f_X11_takes (x1 : Int32) (M : Mem) : Option Mem :=
  if (M.1 311 6) = x1 then
    f_X11_takes_b14 1 M
  else
    f_X11_takes_b14 0 M
def f_X11_takesWord (n1 : Nat) (M : Mem) : Option Mem :=
  cl (f_X11_is n1 M) fun r1 M1m =>
  cl (f_X11_must r1 1 M1m) fun r2 M2m =>
  if r2 = 0 then
    some M2m
  else
    clv (f_X11_steps M2m) fun M3m =>
    some M3m
def f_X11_maybe (n1 : Nat) (M : Mem) : Option (Int32 × Mem) :=
  cl (f_X11_is n1 M) fun r1 M1m =>
  if r1 = 0 then
    gd (vp_nar .boolean r1 = r1) <|
    some (r1, M1m)
  else
    clv (f_X11_steps M1m) fun M2m =>
    gd (vp_nar .boolean r1 = r1) <|
    some (r1, M2m)
def f_X11_usual_b75_s (rec75 : Int32 → Mem → Option Mem) (x2 : Int32) (M : Mem) : Option Mem :=
  if 4 ≤ x2 then
    some M
  else
    gd (inb x2 4) <|
    bnd (setI M 315 (x2.toNatClampNeg) (vp_nar .boolean 0)) fun M1m =>
    bnd (x2 + 1) fun a1 =>
    rec75 a1 M1m
def f_X11_usual_b75 (k : Nat) : Int32 → Mem → Option Mem := lpN (fun _ _ => none) (f_X11_usual_b75_s) k
def f_X11_usual_b49_s (rec49 : Int32 → Int32 → Mem → Option Mem) (x1 : Int32) (x2 : Int32) (M : Mem) : Option Mem :=
  if 6 ≤ x2 then
    f_X11_usual_b75 fuel 0 M
  else
    gd (inb ((6 * x1) + x2) 12) <|
    bnd (setI M 313 (((6 * x1) + x2).toNatClampNeg) 0) fun M1m =>
    bnd (x2 + 1) fun a1 =>
    rec49 x1 a1 M1m
def f_X11_usual_b49 (k : Nat) : Int32 → Int32 → Mem → Option Mem := lpN (fun _ _ _ => none) (f_X11_usual_b49_s) k
def f_X11_usual (x1 : Int32) (M : Mem) : Option Mem :=
  gd (inb ((4 * x1) + 0) 8) <|
  bnd (setI M 314 (((4 * x1) + 0).toNatClampNeg) 60) fun M1m =>
  gd (inb ((4 * x1) + 1) 8) <|
  bnd (setI M1m 314 (((4 * x1) + 1).toNatClampNeg) 0) fun M2m =>
  gd (inb ((4 * x1) + 2) 8) <|
  bnd (setI M2m 314 (((4 * x1) + 2).toNatClampNeg) 1000) fun M3m =>
  gd (inb ((4 * x1) + 3) 8) <|
  bnd (setI M3m 314 (((4 * x1) + 3).toNatClampNeg) 1) fun M4m =>
  f_X11_usual_b49 fuel x1 0 M4m
def f_X11_read (x1 : Int32) (M : Mem) : Option (Int32 × Mem) :=
  gd (inb (6 + x1) 12) <|
  some (M.1 313 (6 + x1).toNatClampNeg, M)
def f_X11_named_b2_s (rec2 : Int32 → Int32 → Mem → Option (Int32 × Mem)) (x1 : Int32) (x2 : Int32) (M : Mem) : Option (Int32 × Mem) :=
  cl (f_X11_read x1 M) fun r1 M1m =>
  if r1 ≤ x2 then
    some ((-1), M1m)
  else
    gd (inb ((40 + (8 * x1)) + x2) 80) <|
    if (lg_cmp (M1m.2.1 316 ((40 + (8 * x1)) + x2).toNatClampNeg) (M1m.2.1 311 8)) = 0 then
      some (x2, M1m)
    else
      bnd (x2 + 1) fun a1 =>
      rec2 x1 a1 M1m
def f_X11_named_b2 (k : Nat) : Int32 → Int32 → Mem → Option (Int32 × Mem) := lpN (fun _ _ _ => none) (f_X11_named_b2_s) k
def f_X11_named (x1 : Int32) (M : Mem) : Option (Int32 × Mem) :=
  f_X11_named_b2 fuel x1 0 M
def f_X11_newName_b17_s (rec17 : Int32 → Int32 → Int32 → Mem → Option Mem) (x1 : Int32) (x2 : Int32) (x3 : Int32) (M : Mem) : Option Mem :=
  if 5 ≤ x3 then
    cl (f_X11_must x2 2 M) fun r1 M1m =>
    if r1 = 0 then
      some M1m
    else
      cl (f_X11_read x1 M1m) fun r2 M2m =>
      gd (inb ((40 + (8 * x1)) + r2) 80) <|
      bnd (setL M2m 316 (((40 + (8 * x1)) + r2).toNatClampNeg) (M2m.2.1 311 8)) fun M3m =>
      clv (f_X11_steps M3m) fun M4m =>
      some M4m
  else
    cl (f_X11_named x3 M) fun r3 M5m =>
    if 0 ≤ r3 then
      bnd (x2 &&& 0) fun a1 =>
      bnd (x3 + 1) fun a2 =>
      rec17 x1 a1 a2 M5m
    else
      bnd (x2 &&& 1) fun a3 =>
      bnd (x3 + 1) fun a4 =>
      rec17 x1 a3 a4 M5m
def f_X11_newName_b17 (k : Nat) : Int32 → Int32 → Int32 → Mem → Option Mem := lpN (fun _ _ _ _ => none) (f_X11_newName_b17_s) k
def f_X11_newName (x1 : Int32) (M : Mem) : Option Mem :=
  cl (f_X11_isName M) fun r1 M1m =>
  cl (f_X11_must r1 1 M1m) fun r2 M2m =>
  if r2 = 0 then
    some M2m
  else
    f_X11_newName_b17 fuel x1 1 0 M2m
def f_X11_looksUp_b26 (x1 : Int32) (xs1 : Int32) (M : Mem) : Option (Int32 × Mem) :=
  cl (f_X11_must xs1 4 M) fun r1 M1m =>
  if r1 = 0 then
    some (0, M1m)
  else
    cl (f_X11_named x1 M1m) fun r2 M2m =>
    some (r2, M2m)
def f_X11_looksUp (x1 : Int32) (M : Mem) : Option (Int32 × Mem) :=
  cl (f_X11_isName M) fun r1 M1m =>
  cl (f_X11_must r1 1 M1m) fun r2 M2m =>
  if r2 = 0 then
    some (0, M2m)
  else
    cl (f_X11_named x1 M2m) fun r3 M3m =>
    if r3 < 0 then
      f_X11_looksUp_b26 x1 0 M3m
    else
      f_X11_looksUp_b26 x1 1 M3m
def f_X11_known (x1 : Int32) (M : Mem) : Option (Int32 × Mem) :=
  cl (f_X11_looksUp x1 M) fun r1 M1m =>
  if (M1m.1 311 9) = 0 then
    clv (f_X11_steps M1m) fun M2m =>
    some (r1, M2m)
  else
    some (r1, M1m)
def f_X11_cameraLine (M : Mem) : Option Mem :=
  clv (f_X11_newName 0 M) fun M1m =>
  cl (f_X11_read 0 M1m) fun r1 M2m =>
  bnd (5 + r1) fun a1 =>
  cl (f_X11_number 0 999 M2m) fun r2 M3m =>
  gd (inb a1 10) <|
  bnd (setI M3m 317 (a1.toNatClampNeg) r2) fun M4m =>
  cl (f_X11_number (M4m.1 317 a1.toNatClampNeg) 999 M4m) fun r3 M5m =>
  bnd (setI M5m 318 (a1.toNatClampNeg) r3) fun M6m =>
  if (M6m.1 311 9) = 0 then
    bnd (setI M6m 313 6 ((M6m.1 313 6) + 1)) fun M7m =>
    some M7m
  else
    some M6m
def f_X11_flashLine_b74 (x1 : Int32) (xs1 : Int32) (M : Mem) : Option Mem :=
  cl (f_X11_must xs1 4 M) fun r1 M1m =>
  if r1 = 0 then
    some M1m
  else
    clv (f_X11_steps M1m) fun M2m =>
    cl (f_X11_number 0 999 M2m) fun r2 M3m =>
    gd (inb (x1 + 3) 48) <|
    bnd (setI M3m 319 ((x1 + 3).toNatClampNeg) r2) fun M4m =>
    if (M4m.1 311 9) = 0 then
      bnd (setI M4m 313 11 ((M4m.1 313 11) + 1)) fun M5m =>
      some M5m
    else
      some M4m
def f_X11_flashLine (M : Mem) : Option Mem :=
  cl (f_X11_read 5 M) fun r1 M1m =>
  bnd (24 + (4 * r1)) fun a1 =>
  cl (f_X11_known 0 M1m) fun r2 M2m =>
  gd (inb a1 48) <|
  bnd (setI M2m 319 (a1.toNatClampNeg) r2) fun M3m =>
  cl (f_X11_number 0 999 M3m) fun r3 M4m =>
  gd (inb (a1 + 1) 48) <|
  bnd (setI M4m 319 ((a1 + 1).toNatClampNeg) r3) fun M5m =>
  cl (f_X11_looksUp 0 M5m) fun r4 M6m =>
  gd (inb (a1 + 2) 48) <|
  bnd (setI M6m 319 ((a1 + 2).toNatClampNeg) r4) fun M7m =>
  if (M7m.1 319 (a1 + 2).toNatClampNeg) = (M7m.1 319 a1.toNatClampNeg) then
    f_X11_flashLine_b74 a1 0 M7m
  else
    f_X11_flashLine_b74 a1 1 M7m
def f_X11_sideLine (M : Mem) : Option Mem :=
  clv (f_X11_newName 1 M) fun M1m =>
  cl (f_X11_read 1 M1m) fun r1 M2m =>
  cl (f_X11_number 0 9 M2m) fun r2 M3m =>
  gd (inb (4 + r1) 8) <|
  bnd (setI M3m 320 ((4 + r1).toNatClampNeg) r2) fun M4m =>
  if (M4m.1 311 9) = 0 then
    bnd (setI M4m 313 7 ((M4m.1 313 7) + 1)) fun M5m =>
    some M5m
  else
    some M4m
def f_X11_pair_b77 (x1 : Int32) (x2 : Int32) (xs1 : Int32) (M : Mem) : Option Mem :=
  cl (f_X11_must xs1 3 M) fun r1 M1m =>
  if r1 = 0 then
    some M1m
  else
    gd (inb x2 30) <|
    bnd (setI M1m 326 (x2.toNatClampNeg) (M1m.1 311 7)) fun M2m =>
    gd (inb x1 10) <|
    bnd (setI M2m 324 (x1.toNatClampNeg) ((M2m.1 324 x1.toNatClampNeg) + 1)) fun M3m =>
    clv (f_X11_steps M3m) fun M4m =>
    some M4m
def f_X11_pair_b76 (x1 : Int32) (x2 : Int32) (M : Mem) : Option Mem :=
  f_X11_pair_b77 x1 x2 0 M
def f_X11_pair_b43 (x1 : Int32) (x2 : Int32) (xs1 : Int32) (M : Mem) : Option Mem :=
  cl (f_X11_must xs1 1 M) fun r1 M1m =>
  if r1 = 0 then
    some M1m
  else
    if 4 ≤ (M1m.1 311 7) then
      f_X11_pair_b76 x1 x2 M1m
    else
      gd (inb x2 30) <|
      if (M1m.1 311 7) = (M1m.1 325 x2.toNatClampNeg) then
        f_X11_pair_b76 x1 x2 M1m
      else
        f_X11_pair_b77 x1 x2 1 M1m
def f_X11_pair (x1 : Int32) (M : Mem) : Option Mem :=
  gd (inb x1 10) <|
  bnd ((3 * x1) + (M.1 324 x1.toNatClampNeg)) fun a1 =>
  cl (f_X11_number 0 3 M) fun r1 M1m =>
  gd (inb a1 30) <|
  bnd (setI M1m 325 (a1.toNatClampNeg) r1) fun M2m =>
  clv (f_X11_takesWord 41 M2m) fun M3m =>
  if (M3m.1 311 6) = 2 then
    f_X11_pair_b43 x1 a1 1 M3m
  else
    f_X11_pair_b43 x1 a1 0 M3m
def f_X11_kindLine_b94 (rec69 : Int32 → Mem → Option Mem) (x1 : Int32) (xs1 : Int32) (M : Mem) : Option Mem :=
  cl (f_X11_must xs1 5 M) fun r1 M1m =>
  if r1 = 0 then
    some M1m
  else
    clv (f_X11_steps M1m) fun M2m =>
    clv (f_X11_pair x1 M2m) fun M3m =>
    rec69 x1 M3m
def f_X11_kindLine_b69_s (rec69 : Int32 → Mem → Option Mem) (x1 : Int32) (M : Mem) : Option Mem :=
  cl (f_X11_is 40 M) fun r1 M1m =>
  if r1 = 0 then
    if (M1m.1 311 9) = 0 then
      bnd (setI M1m 313 8 ((M1m.1 313 8) + 1)) fun M2m =>
      some M2m
    else
      some M1m
  else
    gd (inb x1 10) <|
    if 3 ≤ (M1m.1 324 x1.toNatClampNeg) then
      f_X11_kindLine_b94 rec69 x1 0 M1m
    else
      f_X11_kindLine_b94 rec69 x1 1 M1m
def f_X11_kindLine_b69 (k : Nat) : Int32 → Mem → Option Mem := lpN (fun _ _ => none) (f_X11_kindLine_b69_s) k
def f_X11_kindLine (M : Mem) : Option Mem :=
  clv (f_X11_newName 2 M) fun M1m =>
  cl (f_X11_read 2 M1m) fun r1 M2m =>
  bnd (5 + r1) fun a1 =>
  cl (f_X11_number 1 60 M2m) fun r2 M3m =>
  gd (inb a1 10) <|
  bnd (setI M3m 321 (a1.toNatClampNeg) r2) fun M4m =>
  cl (f_X11_maybe 38 M4m) fun r3 M5m =>
  bnd (setI M5m 322 (a1.toNatClampNeg) (vp_nar .boolean r3)) fun M6m =>
  cl (f_X11_maybe 39 M6m) fun r4 M7m =>
  bnd (setI M7m 323 (a1.toNatClampNeg) (vp_nar .boolean r4)) fun M8m =>
  bnd (setI M8m 324 (a1.toNatClampNeg) 0) fun M9m =>
  if (M9m.1 311 9) = 0 then
    clv (f_X11_pair a1 M9m) fun M10m =>
    f_X11_kindLine_b69 fuel a1 M10m
  else
    f_X11_kindLine_b69 fuel a1 M9m
def f_X11_member_b32 (x1 : Int32) (M : Mem) : Option (Int32 × Mem) :=
  if (M.1 311 9) = 0 then
    clv (f_X11_steps M) fun M1m =>
    some (x1, M1m)
  else
    some (x1, M)
def f_X11_member_b6_s (rec6 : Int32 → Mem → Option (Int32 × Mem)) (x1 : Int32) (M : Mem) : Option (Int32 × Mem) :=
  cl (f_X11_known 0 M) fun r1 M1m =>
  bnd (x1 ||| ((1 : Int32) <<< (r1 &&& 31))) fun a1 =>
  if (M1m.1 311 9) = 0 then
    if (M1m.1 311 6) = 41 then
      f_X11_member_b32 a1 M1m
    else
      rec6 a1 M1m
  else
    f_X11_member_b32 a1 M1m
def f_X11_member_b6 (k : Nat) : Int32 → Mem → Option (Int32 × Mem) := lpN (fun _ _ => none) (f_X11_member_b6_s) k
def f_X11_member (M : Mem) : Option (Int32 × Mem) :=
  clv (f_X11_steps M) fun M1m =>
  f_X11_member_b6 fuel 0 M1m
def f_X11_boardLine_b130 (M : Mem) : Option Mem :=
  if (M.1 311 9) = 0 then
    bnd (setI M 313 9 ((M.1 313 9) + 1)) fun M1m =>
    some M1m
  else
    some M
def f_X11_boardLine_b89 (rec56 : Int32 → Mem → Option Mem) (x1 : Int32) (xs1 : Int32) (M : Mem) : Option Mem :=
  cl (f_X11_must xs1 5 M) fun r1 M1m =>
  if r1 = 0 then
    some M1m
  else
    gd (inb x1 6) <|
    cl (f_X11_member M1m) fun r2 M2m =>
    gd (inb ((7 * x1) + (M1m.1 328 x1.toNatClampNeg)) 42) <|
    bnd (setI M2m 329 (((7 * x1) + (M1m.1 328 x1.toNatClampNeg)).toNatClampNeg) r2) fun M3m =>
    bnd (setI M3m 328 (x1.toNatClampNeg) ((M3m.1 328 x1.toNatClampNeg) + 1)) fun M4m =>
    rec56 x1 M4m
def f_X11_boardLine_b56_s (rec56 : Int32 → Mem → Option Mem) (x1 : Int32) (M : Mem) : Option Mem :=
  if (M.1 311 9) = 0 then
    if (M.1 311 6) = 40 then
      gd (inb x1 6) <|
      if 7 ≤ (M.1 328 x1.toNatClampNeg) then
        f_X11_boardLine_b89 rec56 x1 0 M
      else
        f_X11_boardLine_b89 rec56 x1 1 M
    else
      f_X11_boardLine_b130 M
  else
    f_X11_boardLine_b130 M
def f_X11_boardLine_b56 (k : Nat) : Int32 → Mem → Option Mem := lpN (fun _ _ => none) (f_X11_boardLine_b56_s) k
def f_X11_boardLine_b48 (x1 : Int32) (xs1 : Int32) (M : Mem) : Option Mem :=
  cl (f_X11_must xs1 1 M) fun r1 M1m =>
  if r1 = 0 then
    some M1m
  else
    f_X11_boardLine_b56 fuel x1 M1m
def f_X11_boardLine (M : Mem) : Option Mem :=
  clv (f_X11_newName 3 M) fun M1m =>
  cl (f_X11_read 3 M1m) fun r1 M2m =>
  bnd (3 + r1) fun a1 =>
  cl (f_X11_number 1 9 M2m) fun r2 M3m =>
  gd (inb a1 6) <|
  bnd (setI M3m 327 (a1.toNatClampNeg) r2) fun M4m =>
  bnd (setI M4m 328 (a1.toNatClampNeg) 0) fun M5m =>
  if (M5m.1 311 6) = 40 then
    f_X11_boardLine_b48 a1 1 M5m
  else
    f_X11_boardLine_b48 a1 0 M5m
def f_X11_readFrame_b238 (x1 : Int32) (M : Mem) : Option Mem :=
  gd (inb x1 16) <|
  bnd (setI M 335 (x1.toNatClampNeg) ((M.1 335 x1.toNatClampNeg) + 1)) fun M1m =>
  some M1m
def f_X11_readFrame_b231 (rec82 : Int32 → Int32 → Mem → Option Mem) (x1 : Int32) (x2 : Int32) (M : Mem) : Option Mem :=
  clv (f_X11_steps M) fun M1m =>
  rec82 x1 x2 M1m
def f_X11_readFrame_b185 (rec82 : Int32 → Int32 → Mem → Option Mem) (x1 : Int32) (x2 : Int32) (x4 : Int32) (xs1 : Int32) (M : Mem) : Option Mem :=
  cl (f_X11_must xs1 3 M) fun r1 M1m =>
  if r1 = 0 then
    some M1m
  else
    if x4 = 0 then
      gd (inb x2 160) <|
      bnd (setI M1m 339 (x2.toNatClampNeg) ((M1m.1 339 x2.toNatClampNeg) ||| ((1 : Int32) <<< ((M1m.1 311 7) &&& 31)))) fun M2m =>
      f_X11_readFrame_b231 rec82 x1 x2 M2m
    else
      gd (inb x2 160) <|
      bnd (setI M1m 338 (x2.toNatClampNeg) ((M1m.1 338 x2.toNatClampNeg) ||| ((1 : Int32) <<< ((M1m.1 311 7) &&& 31)))) fun M3m =>
      f_X11_readFrame_b231 rec82 x1 x2 M3m
def f_X11_readFrame_b184 (rec82 : Int32 → Int32 → Mem → Option Mem) (x1 : Int32) (x2 : Int32) (x4 : Int32) (M : Mem) : Option Mem :=
  f_X11_readFrame_b185 rec82 x1 x2 x4 0 M
def f_X11_readFrame_b141 (rec82 : Int32 → Int32 → Mem → Option Mem) (x1 : Int32) (x2 : Int32) (x4 : Int32) (xs1 : Int32) (M : Mem) : Option Mem :=
  cl (f_X11_must xs1 1 M) fun r1 M1m =>
  if r1 = 0 then
    some M1m
  else
    if 4 ≤ (M1m.1 311 7) then
      f_X11_readFrame_b184 rec82 x1 x2 x4 M1m
    else
      gd (inb x2 160) <|
      cl (f_X11_has ((M1m.1 338 x2.toNatClampNeg) ||| (M1m.1 339 x2.toNatClampNeg)) (M1m.1 311 7) M1m) fun r2 M2m =>
      if r2 = 0 then
        f_X11_readFrame_b185 rec82 x1 x2 x4 1 M2m
      else
        f_X11_readFrame_b184 rec82 x1 x2 x4 M2m
def f_X11_readFrame_b121 (rec82 : Int32 → Int32 → Mem → Option Mem) (x1 : Int32) (x2 : Int32) (xs0 : Int32) (M : Mem) : Option Mem :=
  clv (f_X11_steps M) fun M1m =>
  if (M1m.1 311 6) = 2 then
    f_X11_readFrame_b141 rec82 x1 x2 xs0 1 M1m
  else
    f_X11_readFrame_b141 rec82 x1 x2 xs0 0 M1m
def f_X11_readFrame_b107 (rec82 : Int32 → Int32 → Mem → Option Mem) (x1 : Int32) (x2 : Int32) (M : Mem) : Option Mem :=
  if (M.1 311 6) = 33 then
    f_X11_readFrame_b121 rec82 x1 x2 1 M
  else
    f_X11_readFrame_b121 rec82 x1 x2 0 M
def f_X11_readFrame_b82_s (rec82 : Int32 → Int32 → Mem → Option Mem) (x1 : Int32) (x2 : Int32) (M : Mem) : Option Mem :=
  if (M.1 311 9) = 0 then
    if (M.1 311 6) = 33 then
      f_X11_readFrame_b107 rec82 x1 x2 M
    else
      if (M.1 311 6) = 63 then
        f_X11_readFrame_b107 rec82 x1 x2 M
      else
        f_X11_readFrame_b238 x1 M
  else
    f_X11_readFrame_b238 x1 M
def f_X11_readFrame_b82 (k : Nat) : Int32 → Int32 → Mem → Option Mem := lpN (fun _ _ _ => none) (f_X11_readFrame_b82_s) k
def f_X11_readFrame_b35 (x1 : Int32) (x2 : Int32) (x3 : Int32) (xs1 : Int32) (M : Mem) : Option Mem :=
  cl (f_X11_must xs1 5 M) fun r1 M1m =>
  if r1 = 0 then
    some M1m
  else
    gd (inb x2 160) <|
    bnd (setI M1m 336 (x2.toNatClampNeg) x3) fun M2m =>
    clv (f_X11_steps M2m) fun M3m =>
    cl (f_X11_number 0 999 M3m) fun r2 M4m =>
    bnd (setI M4m 337 (x2.toNatClampNeg) r2) fun M5m =>
    bnd (setI M5m 338 (x2.toNatClampNeg) 0) fun M6m =>
    bnd (setI M6m 339 (x2.toNatClampNeg) 0) fun M7m =>
    f_X11_readFrame_b82 fuel x1 x2 M7m
def f_X11_readFrame (x1 : Int32) (M : Mem) : Option Mem :=
  gd (inb x1 16) <|
  bnd ((10 * x1) + (M.1 335 x1.toNatClampNeg)) fun a1 =>
  cl (f_X11_looksUp 0 M) fun r1 M1m =>
  if 10 ≤ (M1m.1 335 x1.toNatClampNeg) then
    f_X11_readFrame_b35 x1 a1 r1 0 M1m
  else
    f_X11_readFrame_b35 x1 a1 r1 1 M1m
def f_X11_playLine_b168 (M : Mem) : Option Mem :=
  if (M.1 311 9) = 0 then
    bnd (setI M 313 10 ((M.1 313 10) + 1)) fun M1m =>
    some M1m
  else
    some M
def f_X11_playLine_b145_s (rec145 : Int32 → Mem → Option Mem) (x1 : Int32) (M : Mem) : Option Mem :=
  if (M.1 311 9) = 0 then
    if (M.1 311 6) = 1 then
      clv (f_X11_readFrame x1 M) fun M1m =>
      rec145 x1 M1m
    else
      f_X11_playLine_b168 M
  else
    f_X11_playLine_b168 M
def f_X11_playLine_b145 (k : Nat) : Int32 → Mem → Option Mem := lpN (fun _ _ => none) (f_X11_playLine_b145_s) k
def f_X11_playLine_b133 (x1 : Int32) (xs1 : Int32) (xs2 : Int32) (M : Mem) : Option Mem :=
  gd (inb xs1 16) <|
  bnd (setI M 334 (xs1.toNatClampNeg) xs2) fun M1m =>
  clv (f_X11_steps M1m) fun M2m =>
  gd (inb x1 16) <|
  bnd (setI M2m 335 (x1.toNatClampNeg) 0) fun M3m =>
  f_X11_playLine_b145 fuel x1 M3m
def f_X11_playLine_b106 (x1 : Int32) (xs1 : Int32) (M : Mem) : Option Mem :=
  cl (f_X11_must xs1 1 M) fun r1 M1m =>
  if r1 = 0 then
    some M1m
  else
    cl (f_X11_is 42 M1m) fun r2 M2m =>
    if r2 = 0 then
      f_X11_playLine_b133 x1 x1 0 M2m
    else
      f_X11_playLine_b133 x1 x1 1 M2m
def f_X11_playLine_b101 (x1 : Int32) (M : Mem) : Option Mem :=
  f_X11_playLine_b106 x1 1 M
def f_X11_playLine_b40 (x1 : Int32) (xs1 : Int32) (xs3 : Int32) (M : Mem) : Option Mem :=
  cl (f_X11_number xs3 999 M) fun r1 M1m =>
  gd (inb xs1 16) <|
  bnd (setI M1m 330 (xs1.toNatClampNeg) r1) fun M2m =>
  cl (f_X11_known 2 M2m) fun r2 M3m =>
  gd (inb x1 16) <|
  bnd (setI M3m 331 (x1.toNatClampNeg) r2) fun M4m =>
  cl (f_X11_known 1 M4m) fun r3 M5m =>
  bnd (setI M5m 332 (x1.toNatClampNeg) r3) fun M6m =>
  cl (f_X11_number 0 99 M6m) fun r4 M7m =>
  bnd (setI M7m 333 (x1.toNatClampNeg) r4) fun M8m =>
  cl (f_X11_is 42 M8m) fun r5 M9m =>
  if r5 = 0 then
    cl (f_X11_is 43 M9m) fun r6 M10m =>
    if r6 = 0 then
      f_X11_playLine_b106 x1 0 M10m
    else
      f_X11_playLine_b101 x1 M10m
  else
    f_X11_playLine_b101 x1 M9m
def f_X11_playLine (M : Mem) : Option Mem :=
  clv (f_X11_newName 4 M) fun M1m =>
  cl (f_X11_read 4 M1m) fun r1 M2m =>
  bnd (8 + r1) fun a1 =>
  cl (f_X11_read 4 M2m) fun r2 M3m =>
  if r2 = 0 then
    f_X11_playLine_b40 a1 a1 0 M3m
  else
    gd (inb (a1 - 1) 16) <|
    f_X11_playLine_b40 a1 a1 (M3m.1 330 (a1 - 1).toNatClampNeg) M3m
def f_X11_ruleLine_b60 (xs1 : Int32) (xs3 : Int32) (xs4 : Int32) (M : Mem) : Option Mem :=
  cl (f_X11_number xs3 xs4 M) fun r1 M1m =>
  gd (inb xs1 8) <|
  bnd (setI M1m 314 (xs1.toNatClampNeg) r1) fun M2m =>
  some M2m
def f_X11_ruleLine_b52 (xs1 : Int32) (xs3 : Int32) (M : Mem) : Option Mem :=
  f_X11_ruleLine_b60 xs1 xs3 999 M
def f_X11_ruleLine_b15 (x1 : Int32) (xs1 : Int32) (M : Mem) : Option Mem :=
  cl (f_X11_must xs1 5 M) fun r1 M1m =>
  if r1 = 0 then
    some M1m
  else
    gd (inb x1 4) <|
    bnd (setI M1m 315 (x1.toNatClampNeg) (vp_nar .boolean 1)) fun M2m =>
    clv (f_X11_steps M2m) fun M3m =>
    if x1 = 0 then
      f_X11_ruleLine_b52 (4 + x1) 0 M3m
    else
      if x1 = 2 then
        f_X11_ruleLine_b52 (4 + x1) 0 M3m
      else
        f_X11_ruleLine_b60 (4 + x1) 0 9 M3m
def f_X11_ruleLine (x1 : Int32) (M : Mem) : Option Mem :=
  gd (inb x1 4) <|
  if (M.1 315 x1.toNatClampNeg) = 0 then
    f_X11_ruleLine_b15 x1 1 M
  else
    f_X11_ruleLine_b15 x1 0 M
def f_X11_begins_b15 (xs1 : Int32) (M : Mem) : Option (Int32 × Mem) :=
  cl (f_X11_must xs1 5 M) fun r1 M1m =>
  if r1 = 0 then
    some (0, M1m)
  else
    clv (f_X11_steps M1m) fun M2m =>
    some (1, M2m)
def f_X11_begins (x1 : Int32) (x2 : Int32) (M : Mem) : Option (Int32 × Mem) :=
  cl (f_X11_read x1 M) fun r1 M1m =>
  if x2 ≤ r1 then
    f_X11_begins_b15 0 M1m
  else
    f_X11_begins_b15 1 M1m
def f_X11_lineHere_b227 (M : Mem) : Option Mem :=
  clv (f_X11_takes 59 M) fun M1m =>
  some M1m
def f_X11_lineHere (M : Mem) : Option Mem :=
  cl (f_X11_is 28 M) fun r1 M1m =>
  if r1 = 0 then
    cl (f_X11_is 29 M1m) fun r2 M2m =>
    if r2 = 0 then
      cl (f_X11_is 30 M2m) fun r3 M3m =>
      if r3 = 0 then
        cl (f_X11_is 31 M3m) fun r4 M4m =>
        if r4 = 0 then
          cl (f_X11_is 32 M4m) fun r5 M5m =>
          if r5 = 0 then
            cl (f_X11_is 33 M5m) fun r6 M6m =>
            if r6 = 0 then
              cl (f_X11_is 34 M6m) fun r7 M7m =>
              if r7 = 0 then
                cl (f_X11_is 35 M7m) fun r8 M8m =>
                if r8 = 0 then
                  cl (f_X11_is 36 M8m) fun r9 M9m =>
                  if r9 = 0 then
                    cl (f_X11_is 37 M9m) fun r10 M10m =>
                    if r10 = 0 then
                      cl (f_X11_must 0 1 M10m) fun r11 M11m =>
                      f_X11_lineHere_b227 M11m
                    else
                      clv (f_X11_ruleLine 3 M10m) fun M12m =>
                      f_X11_lineHere_b227 M12m
                  else
                    clv (f_X11_ruleLine 2 M9m) fun M13m =>
                    f_X11_lineHere_b227 M13m
                else
                  clv (f_X11_ruleLine 1 M8m) fun M14m =>
                  f_X11_lineHere_b227 M14m
              else
                clv (f_X11_ruleLine 0 M7m) fun M15m =>
                f_X11_lineHere_b227 M15m
            else
              cl (f_X11_begins 4 8 M6m) fun r12 M16m =>
              if r12 = 0 then
                f_X11_lineHere_b227 M16m
              else
                clv (f_X11_playLine M16m) fun M17m =>
                f_X11_lineHere_b227 M17m
          else
            cl (f_X11_begins 3 3 M5m) fun r13 M18m =>
            if r13 = 0 then
              f_X11_lineHere_b227 M18m
            else
              clv (f_X11_boardLine M18m) fun M19m =>
              f_X11_lineHere_b227 M19m
        else
          cl (f_X11_begins 2 5 M4m) fun r14 M20m =>
          if r14 = 0 then
            f_X11_lineHere_b227 M20m
          else
            clv (f_X11_kindLine M20m) fun M21m =>
            f_X11_lineHere_b227 M21m
      else
        cl (f_X11_begins 1 4 M3m) fun r15 M22m =>
        if r15 = 0 then
          f_X11_lineHere_b227 M22m
        else
          clv (f_X11_sideLine M22m) fun M23m =>
          f_X11_lineHere_b227 M23m
    else
      cl (f_X11_begins 5 6 M2m) fun r16 M24m =>
      if r16 = 0 then
        f_X11_lineHere_b227 M24m
      else
        clv (f_X11_flashLine M24m) fun M25m =>
        f_X11_lineHere_b227 M25m
  else
    cl (f_X11_begins 0 5 M1m) fun r17 M26m =>
    if r17 = 0 then
      f_X11_lineHere_b227 M26m
    else
      clv (f_X11_cameraLine M26m) fun M27m =>
      f_X11_lineHere_b227 M27m
def f_X11_copies_b2_s (rec2 : Nat → Int32 → Mem → Option Mem) (n0 : Nat) (x1 : Int32) (M : Mem) : Option Mem :=
  gd (shg n0 = 20) <|
  if ((Int32.ofNat (shgl n0)) / 2) ≤ x1 then
    some M
  else
    gd (inb (((Int32.ofNat (shgl n0)) / 2) + x1) (shgl n0)) <|
    gd (inb x1 (shgl n0)) <|
    bnd (setI M n0 (x1.toNatClampNeg) (M.1 n0 (((Int32.ofNat (shgl n0)) / 2) + x1).toNatClampNeg)) fun M1m =>
    bnd (x1 + 1) fun a1 =>
    rec2 n0 a1 M1m
def f_X11_copies_b2 (k : Nat) : Nat → Int32 → Mem → Option Mem := lpN (fun _ _ _ => none) (f_X11_copies_b2_s) k
def f_X11_copies (n0 : Nat) (M : Mem) : Option Mem :=
  f_X11_copies_b2 fuel n0 0 M
def f_X11_takesOver_b225_s (rec225 : Int32 → Mem → Option Mem) (x1 : Int32) (M : Mem) : Option Mem :=
  if (M.1 313 1) ≤ x1 then
    bnd (setI M 311 40 0) fun M1m =>
    bnd (setI M1m 343 0 (vp_nar .boolean 0)) fun M2m =>
    bnd (setI M2m 343 1 (vp_nar .boolean 0)) fun M3m =>
    some M3m
  else
    gd (inb x1 8) <|
    gd (inb (33 + x1) 114) <|
    bnd (setI M 340 ((33 + x1).toNatClampNeg) (M.1 320 x1.toNatClampNeg)) fun M4m =>
    bnd (x1 + 1) fun a1 =>
    rec225 a1 M4m
def f_X11_takesOver_b225 (k : Nat) : Int32 → Mem → Option Mem := lpN (fun _ _ => none) (f_X11_takesOver_b225_s) k
def f_X11_takesOver_b204_s (rec204 : Int32 → Mem → Option Mem) (x1 : Int32) (M : Mem) : Option Mem :=
  if 114 ≤ x1 then
    f_X11_takesOver_b225 fuel 0 M
  else
    gd (inb x1 114) <|
    bnd (setI M 340 (x1.toNatClampNeg) 0) fun M1m =>
    bnd (x1 + 1) fun a1 =>
    rec204 a1 M1m
def f_X11_takesOver_b204 (k : Nat) : Int32 → Mem → Option Mem := lpN (fun _ _ => none) (f_X11_takesOver_b204_s) k
def f_X11_takesOver_b163_s (rec163 : Int32 → Mem → Option Mem) (x1 : Int32) (M : Mem) : Option Mem :=
  if 5 ≤ x1 then
    f_X11_takesOver_b204 fuel 0 M
  else
    gd (inb (5 + x1) 10) <|
    gd (inb x1 10) <|
    bnd (setI M 322 (x1.toNatClampNeg) (vp_nar .boolean (M.1 322 (5 + x1).toNatClampNeg))) fun M1m =>
    bnd (setI M1m 323 (x1.toNatClampNeg) (vp_nar .boolean (M1m.1 323 (5 + x1).toNatClampNeg))) fun M2m =>
    bnd (x1 + 1) fun a1 =>
    rec163 a1 M2m
def f_X11_takesOver_b163 (k : Nat) : Int32 → Mem → Option Mem := lpN (fun _ _ => none) (f_X11_takesOver_b163_s) k
def f_X11_takesOver (M : Mem) : Option Mem :=
  clv (f_X11_copies 313 M) fun M1m =>
  clv (f_X11_copies 314 M1m) fun M2m =>
  clv (f_X11_copies 317 M2m) fun M3m =>
  clv (f_X11_copies 318 M3m) fun M4m =>
  clv (f_X11_copies 319 M4m) fun M5m =>
  clv (f_X11_copies 320 M5m) fun M6m =>
  clv (f_X11_copies 321 M6m) fun M7m =>
  clv (f_X11_copies 324 M7m) fun M8m =>
  clv (f_X11_copies 325 M8m) fun M9m =>
  clv (f_X11_copies 326 M9m) fun M10m =>
  clv (f_X11_copies 327 M10m) fun M11m =>
  clv (f_X11_copies 328 M11m) fun M12m =>
  clv (f_X11_copies 329 M12m) fun M13m =>
  clv (f_X11_copies 330 M13m) fun M14m =>
  clv (f_X11_copies 331 M14m) fun M15m =>
  clv (f_X11_copies 332 M15m) fun M16m =>
  clv (f_X11_copies 333 M16m) fun M17m =>
  clv (f_X11_copies 334 M17m) fun M18m =>
  clv (f_X11_copies 335 M18m) fun M19m =>
  clv (f_X11_copies 336 M19m) fun M20m =>
  clv (f_X11_copies 337 M20m) fun M21m =>
  clv (f_X11_copies 338 M21m) fun M22m =>
  clv (f_X11_copies 339 M22m) fun M23m =>
  f_X11_takesOver_b163 fuel 0 M23m
def f_X11_text_b71 (M : Mem) : Option (Int32 × Mem) :=
  if (M.1 311 9) = 0 then
    clv (f_X11_takesOver M) fun M1m =>
    some (M1m.1 313 4, M1m)
  else
    some ((-2) - ((8 * (M.1 311 10)) + (M.1 311 9)), M)
def f_X11_text_b50_s (rec50 : Mem → Option (Int32 × Mem)) (M : Mem) : Option (Int32 × Mem) :=
  if (M.1 311 9) = 0 then
    if (M.1 311 6) = 0 then
      f_X11_text_b71 M
    else
      clv (f_X11_lineHere M) fun M1m =>
      rec50 M1m
  else
    f_X11_text_b71 M
def f_X11_text_b50 (k : Nat) : Mem → Option (Int32 × Mem) := lpN (fun _ => none) (f_X11_text_b50_s) k
def f_X11_text (x1 : Int32) (M : Mem) : Option (Int32 × Mem) :=
  bnd (setI M 311 0 0) fun M1m =>
  cl (f_X11_within (x1.toInt64) 0 ((M1m.1 311 2).toInt64) M1m) fun r1 M2m =>
  if r1 = 0 then
    some ((-1), M2m)
  else
    bnd (setI M2m 311 2 0) fun M3m =>
    bnd (setI M3m 311 3 x1) fun M4m =>
    bnd (setI M4m 311 5 0) fun M5m =>
    bnd (setI M5m 311 9 0) fun M6m =>
    clv (f_X11_usual 1 M6m) fun M7m =>
    clv (f_X11_steps M7m) fun M8m =>
    f_X11_text_b50 fuel M8m
def f_X11_isPlay (x1 : Int32) (M : Mem) : Option (Int32 × Mem) :=
  cl (f_X11_within (x1.toInt64) 0 (((M.1 313 4) - 1).toInt64) M) fun r1 M1m =>
  gd (vp_nar .boolean r1 = r1) <|
  some (r1, M1m)
def f_X11_isSide (x1 : Int32) (M : Mem) : Option (Int32 × Mem) :=
  cl (f_X11_within (x1.toInt64) 0 (((M.1 313 1) - 1).toInt64) M) fun r1 M1m =>
  gd (vp_nar .boolean r1 = r1) <|
  some (r1, M1m)
def f_X11_isBoard (x1 : Int32) (M : Mem) : Option (Int32 × Mem) :=
  cl (f_X11_within (x1.toInt64) 0 (((M.1 313 3) - 1).toInt64) M) fun r1 M1m =>
  gd (vp_nar .boolean r1 = r1) <|
  some (r1, M1m)
def f_X11_callOf (x1 : Int32) (M : Mem) : Option (Int32 × Mem) :=
  if (M.1 340 0) ≤ x1 then
    gd (inb x1 16) <|
    some (M.1 334 x1.toNatClampNeg, M)
  else
    gd (inb (1 + x1) 114) <|
    some (M.1 340 (1 + x1).toNatClampNeg, M)
def f_X11_allFrames (x1 : Int32) (M : Mem) : Option (Int32 × Mem) :=
  gd (inb x1 16) <|
  some (((1 : Int32) <<< ((M.1 335 x1.toNatClampNeg) &&& 31)) - 1, M)
def f_X11_atMost (x1 : Int32) (x2 : Int32) (x3 : Int32) (M : Mem) : Option Mem :=
  gd (inb ((10 * x1) + x2) 100) <|
  if (M.1 344 ((10 * x1) + x2).toNatClampNeg) ≤ x3 then
    some M
  else
    bnd (setI M 344 (((10 * x1) + x2).toNatClampNeg) x3) fun M1m =>
    some M1m
def f_X11_laysClocks_b83_s (rec83 : Int32 → Mem → Option Mem) (x1 : Int32) (M : Mem) : Option Mem :=
  if (M.1 313 5) ≤ x1 then
    some M
  else
    gd (inb (4 * x1) 48) <|
    bnd (1 + (M.1 319 (4 * x1).toNatClampNeg)) fun a1 =>
    gd (inb ((4 * x1) + 2) 48) <|
    bnd (1 + (M.1 319 ((4 * x1) + 2).toNatClampNeg)) fun a2 =>
    gd (inb ((4 * x1) + 3) 48) <|
    gd (inb ((4 * x1) + 1) 48) <|
    bnd ((M.1 319 ((4 * x1) + 3).toNatClampNeg) - (M.1 319 ((4 * x1) + 1).toNatClampNeg)) fun a3 =>
    clv (f_X11_atMost a2 a1 a3 M) fun M1m =>
    clv (f_X11_atMost a1 a2 (-a3) M1m) fun M2m =>
    bnd (x1 + 1) fun a4 =>
    rec83 a4 M2m
def f_X11_laysClocks_b83 (k : Nat) : Int32 → Mem → Option Mem := lpN (fun _ _ => none) (f_X11_laysClocks_b83_s) k
def f_X11_laysClocks_b36_s (rec36 : Int32 → Mem → Option Mem) (x1 : Int32) (M : Mem) : Option Mem :=
  if (M.1 313 0) ≤ x1 then
    f_X11_laysClocks_b83 fuel 0 M
  else
    gd (inb x1 10) <|
    clv (f_X11_atMost 0 (1 + x1) (-(M.1 317 x1.toNatClampNeg)) M) fun M1m =>
    clv (f_X11_atMost (1 + x1) 0 (M1m.1 318 x1.toNatClampNeg) M1m) fun M2m =>
    bnd (x1 + 1) fun a1 =>
    rec36 a1 M2m
def f_X11_laysClocks_b36 (k : Nat) : Int32 → Mem → Option Mem := lpN (fun _ _ => none) (f_X11_laysClocks_b36_s) k
def f_X11_laysClocks_b27 (rec2 : Int32 → Mem → Option Mem) (x1 : Int32) (xs1 : Int32) (xs2 : Int32) (M : Mem) : Option Mem :=
  gd (inb xs1 100) <|
  bnd (setI M 344 (xs1.toNatClampNeg) xs2) fun M1m =>
  bnd (x1 + 1) fun a1 =>
  rec2 a1 M1m
def f_X11_laysClocks_b2_s (rec2 : Int32 → Mem → Option Mem) (x1 : Int32) (M : Mem) : Option Mem :=
  if 100 ≤ x1 then
    f_X11_laysClocks_b36 fuel 0 M
  else
    if (x1 - x1 / 11 * 11) = 0 then
      f_X11_laysClocks_b27 rec2 x1 x1 0 M
    else
      f_X11_laysClocks_b27 rec2 x1 x1 100000000 M
def f_X11_laysClocks_b2 (k : Nat) : Int32 → Mem → Option Mem := lpN (fun _ _ => none) (f_X11_laysClocks_b2_s) k
def f_X11_laysClocks (M : Mem) : Option Mem :=
  f_X11_laysClocks_b2 fuel 0 M
def f_X11_laysFrames_b85 (rec6 : Int32 → Int32 → Int32 → Mem → Option Mem) (rec38 : Int32 → Int32 → Int32 → Int32 → Int32 → Int32 → Mem → Option Mem) (x1 : Int32) (x2 : Int32) (x3 : Int32) (x4 : Int32) (x5 : Int32) (x6 : Int32) (M : Mem) : Option Mem :=
  gd (inb x4 160) <|
  cl (f_X11_has (M.1 339 x4.toNatClampNeg) x6 M) fun r1 M1m =>
  if r1 = 0 then
    bnd (x6 + 1) fun a1 =>
    rec38 x1 x2 x3 x4 x5 a1 M1m
  else
    clv (f_X11_atMost (6 + x6) x5 ((-(M1m.1 337 x4.toNatClampNeg)) - 1) M1m) fun M2m =>
    bnd (x6 + 1) fun a2 =>
    rec38 x1 x2 x3 x4 x5 a2 M2m
def f_X11_laysFrames_b38_s (rec6 : Int32 → Int32 → Int32 → Mem → Option Mem) (rec38 : Int32 → Int32 → Int32 → Int32 → Int32 → Int32 → Mem → Option Mem) (x1 : Int32) (x2 : Int32) (x3 : Int32) (x4 : Int32) (x5 : Int32) (x6 : Int32) (M : Mem) : Option Mem :=
  if 4 ≤ x6 then
    bnd (x3 + 1) fun a1 =>
    rec6 x1 x2 a1 M
  else
    cl (f_X11_has x2 x3 M) fun r1 M1m =>
    if r1 = 0 then
      bnd (x3 + 1) fun a2 =>
      rec6 x1 x2 a2 M1m
    else
      gd (inb x4 160) <|
      cl (f_X11_has (M1m.1 338 x4.toNatClampNeg) x6 M1m) fun r2 M2m =>
      if r2 = 0 then
        f_X11_laysFrames_b85 rec6 rec38 x1 x2 x3 x4 x5 x6 M2m
      else
        clv (f_X11_atMost x5 (6 + x6) (M2m.1 337 x4.toNatClampNeg) M2m) fun M3m =>
        f_X11_laysFrames_b85 rec6 rec38 x1 x2 x3 x4 x5 x6 M3m
def f_X11_laysFrames_b38 (rec6 : Int32 → Int32 → Int32 → Mem → Option Mem) (k : Nat) : Int32 → Int32 → Int32 → Int32 → Int32 → Int32 → Mem → Option Mem := lpN (fun _ _ _ _ _ _ _ => none) (f_X11_laysFrames_b38_s rec6) k
def f_X11_laysFrames_b6_s (rec6 : Int32 → Int32 → Int32 → Mem → Option Mem) (x1 : Int32) (x2 : Int32) (x3 : Int32) (M : Mem) : Option Mem :=
  gd (inb x1 16) <|
  if (M.1 335 x1.toNatClampNeg) ≤ x3 then
    some M
  else
    bnd ((10 * x1) + x3) fun a1 =>
    gd (inb a1 160) <|
    bnd (1 + (M.1 336 a1.toNatClampNeg)) fun a2 =>
    f_X11_laysFrames_b38 rec6 fuel x1 x2 x3 a1 a2 0 M
def f_X11_laysFrames_b6 (k : Nat) : Int32 → Int32 → Int32 → Mem → Option Mem := lpN (fun _ _ _ _ => none) (f_X11_laysFrames_b6_s) k
def f_X11_laysFrames (x1 : Int32) (x2 : Int32) (M : Mem) : Option Mem :=
  clv (f_X11_laysClocks M) fun M1m =>
  f_X11_laysFrames_b6 fuel x1 x2 0 M1m
def f_X11_closes_b110_s (rec110 : Int32 → Mem → Option (Int32 × Mem)) (x1 : Int32) (M : Mem) : Option (Int32 × Mem) :=
  if 10 ≤ x1 then
    some (1, M)
  else
    gd (inb (11 * x1) 100) <|
    if 0 ≤ (M.1 344 (11 * x1).toNatClampNeg) then
      bnd (x1 + 1) fun a1 =>
      rec110 a1 M
    else
      some (0, M)
def f_X11_closes_b110 (k : Nat) : Int32 → Mem → Option (Int32 × Mem) := lpN (fun _ _ => none) (f_X11_closes_b110_s) k
def f_X11_closes_b38_s (rec2 : Int32 → Mem → Option (Int32 × Mem)) (rec10 : Int32 → Int32 → Mem → Option (Int32 × Mem)) (rec38 : Int32 → Int32 → Int32 → Mem → Option (Int32 × Mem)) (x1 : Int32) (x2 : Int32) (x3 : Int32) (M : Mem) : Option (Int32 × Mem) :=
  if 10 ≤ x3 then
    bnd (x2 + 1) fun a1 =>
    rec10 x1 a1 M
  else
    gd (inb ((10 * x1) + x3) 100) <|
    if 100000000 ≤ (M.1 344 ((10 * x1) + x3).toNatClampNeg) then
      bnd (x3 + 1) fun a2 =>
      rec38 x1 x2 a2 M
    else
      gd (inb ((10 * x2) + x1) 100) <|
      clv (f_X11_atMost x2 x3 ((M.1 344 ((10 * x2) + x1).toNatClampNeg) + (M.1 344 ((10 * x1) + x3).toNatClampNeg)) M) fun M1m =>
      bnd (x3 + 1) fun a3 =>
      rec38 x1 x2 a3 M1m
def f_X11_closes_b38 (rec2 : Int32 → Mem → Option (Int32 × Mem)) (rec10 : Int32 → Int32 → Mem → Option (Int32 × Mem)) (k : Nat) : Int32 → Int32 → Int32 → Mem → Option (Int32 × Mem) := lpN (fun _ _ _ _ => none) (f_X11_closes_b38_s rec2 rec10) k
def f_X11_closes_b10_s (rec2 : Int32 → Mem → Option (Int32 × Mem)) (rec10 : Int32 → Int32 → Mem → Option (Int32 × Mem)) (x1 : Int32) (x2 : Int32) (M : Mem) : Option (Int32 × Mem) :=
  if 10 ≤ x2 then
    bnd (x1 + 1) fun a1 =>
    rec2 a1 M
  else
    gd (inb ((10 * x2) + x1) 100) <|
    if (M.1 344 ((10 * x2) + x1).toNatClampNeg) = 100000000 then
      bnd (x2 + 1) fun a2 =>
      rec10 x1 a2 M
    else
      f_X11_closes_b38 rec2 rec10 fuel x1 x2 0 M
def f_X11_closes_b10 (rec2 : Int32 → Mem → Option (Int32 × Mem)) (k : Nat) : Int32 → Int32 → Mem → Option (Int32 × Mem) := lpN (fun _ _ _ => none) (f_X11_closes_b10_s rec2) k
def f_X11_closes_b2_s (rec2 : Int32 → Mem → Option (Int32 × Mem)) (x1 : Int32) (M : Mem) : Option (Int32 × Mem) :=
  if 10 ≤ x1 then
    f_X11_closes_b110 fuel 0 M
  else
    f_X11_closes_b10 rec2 fuel x1 0 M
def f_X11_closes_b2 (k : Nat) : Int32 → Mem → Option (Int32 × Mem) := lpN (fun _ _ => none) (f_X11_closes_b2_s) k
def f_X11_closes (M : Mem) : Option (Int32 × Mem) :=
  f_X11_closes_b2 fuel 0 M
def f_X11_verdictOf_b105_s (rec105 : Int32 → Int32 → Mem → Option (Int32 × Mem)) (x3 : Int32) (x5 : Int32) (M : Mem) : Option (Int32 × Mem) :=
  gd (inb x3 10) <|
  if ((3 * x3) + (M.1 324 x3.toNatClampNeg)) ≤ x5 then
    cl (f_X11_closes M) fun r1 M1m =>
    if r1 = 0 then
      some (0, M1m)
    else
      some (2, M1m)
  else
    gd (inb x5 30) <|
    clv (f_X11_atMost (6 + (M.1 326 x5.toNatClampNeg)) (6 + (M.1 325 x5.toNatClampNeg)) (-1) M) fun M2m =>
    bnd (x5 + 1) fun a1 =>
    rec105 x3 a1 M2m
def f_X11_verdictOf_b105 (k : Nat) : Int32 → Int32 → Mem → Option (Int32 × Mem) := lpN (fun _ _ _ => none) (f_X11_verdictOf_b105_s) k
def f_X11_verdictOf_b30_s (rec30 : Int32 → Int32 → Int32 → Mem → Option (Int32 × Mem)) (x3 : Int32) (x4 : Int32) (x5 : Int32) (M : Mem) : Option (Int32 × Mem) :=
  gd (inb x3 10) <|
  if ((3 * x3) + (M.1 324 x3.toNatClampNeg)) ≤ x5 then
    if x4 = 0 then
      bnd (3 * x3) fun a1 =>
      f_X11_verdictOf_b105 fuel x3 a1 M
    else
      some (1, M)
  else
    gd (inb x5 30) <|
    gd (inb (((10 * (6 + (M.1 326 x5.toNatClampNeg))) + 6) + (M.1 325 x5.toNatClampNeg)) 100) <|
    if 0 ≤ (M.1 344 (((10 * (6 + (M.1 326 x5.toNatClampNeg))) + 6) + (M.1 325 x5.toNatClampNeg)).toNatClampNeg) then
      bnd (x4 &&& 0) fun a2 =>
      bnd (x5 + 1) fun a3 =>
      rec30 x3 a2 a3 M
    else
      bnd (x4 &&& 1) fun a4 =>
      bnd (x5 + 1) fun a5 =>
      rec30 x3 a4 a5 M
def f_X11_verdictOf_b30 (k : Nat) : Int32 → Int32 → Int32 → Mem → Option (Int32 × Mem) := lpN (fun _ _ _ _ => none) (f_X11_verdictOf_b30_s) k
def f_X11_verdictOf (x1 : Int32) (x2 : Int32) (M : Mem) : Option (Int32 × Mem) :=
  clv (f_X11_laysFrames x1 x2 M) fun M1m =>
  cl (f_X11_closes M1m) fun r1 M2m =>
  if r1 = 0 then
    some (3, M2m)
  else
    gd (inb x1 16) <|
    bnd (M2m.1 331 x1.toNatClampNeg) fun a1 =>
    bnd (3 * a1) fun a2 =>
    f_X11_verdictOf_b30 fuel a1 1 a2 M2m
def f_X11_framesOf_b5_s (rec5 : Int32 → Int32 → Int32 → Int32 → Mem → Option (Int32 × Mem)) (x1 : Int32) (x2 : Int32) (x3 : Int32) (x4 : Int32) (M : Mem) : Option (Int32 × Mem) :=
  gd (inb x1 16) <|
  if (M.1 335 x1.toNatClampNeg) ≤ x4 then
    some (x3, M)
  else
    gd (inb ((10 * x1) + x4) 160) <|
    cl (f_X11_has x2 (M.1 336 ((10 * x1) + x4).toNatClampNeg) M) fun r1 M1m =>
    if r1 = 0 then
      bnd (x3 ||| 0) fun a1 =>
      bnd (x4 + 1) fun a2 =>
      rec5 x1 x2 a1 a2 M1m
    else
      bnd (x3 ||| ((1 : Int32) <<< (x4 &&& 31))) fun a3 =>
      bnd (x4 + 1) fun a4 =>
      rec5 x1 x2 a3 a4 M1m
def f_X11_framesOf_b5 (k : Nat) : Int32 → Int32 → Int32 → Int32 → Mem → Option (Int32 × Mem) := lpN (fun _ _ _ _ _ => none) (f_X11_framesOf_b5_s) k
def f_X11_framesOf (x1 : Int32) (x2 : Int32) (M : Mem) : Option (Int32 × Mem) :=
  f_X11_framesOf_b5 fuel x1 x2 0 0 M
def f_X11_byAll (x1 : Int32) (M : Mem) : Option (Int32 × Mem) :=
  cl (f_X11_allFrames x1 M) fun r1 M1m =>
  cl (f_X11_verdictOf x1 r1 M1m) fun r2 M2m =>
  some (r2, M2m)
def f_X11_camera (x1 : Int32) (x2 : Int32) (M : Mem) : Option (Int32 × Mem) :=
  bnd (setI M 311 0 0) fun M1m =>
  cl (f_X11_within (x1.toInt64) 0 (((M1m.1 313 0) - 1).toInt64) M1m) fun r1 M2m =>
  if r1 = 0 then
    some ((-1), M2m)
  else
    cl (f_X11_within (x2.toInt64) 0 3 M2m) fun r2 M3m =>
    if r2 = 0 then
      some ((-1), M3m)
    else
      if 2 ≤ x2 then
        clv (f_X11_laysClocks M3m) fun M4m =>
        cl (f_X11_closes M4m) fun r3 M5m =>
        if r3 = 0 then
          some ((-2), M5m)
        else
          if x2 = 2 then
            gd (inb (1 + x1) 100) <|
            some (-(M5m.1 344 (1 + x1).toNatClampNeg), M5m)
          else
            gd (inb (10 * (1 + x1)) 100) <|
            some (M5m.1 344 (10 * (1 + x1)).toNatClampNeg, M5m)
      else
        if x2 = 0 then
          gd (inb x1 10) <|
          some (M3m.1 317 x1.toNatClampNeg, M3m)
        else
          gd (inb x1 10) <|
          some (M3m.1 318 x1.toNatClampNeg, M3m)
def f_X11_kind (x1 : Int32) (x2 : Int32) (M : Mem) : Option (Int32 × Mem) :=
  bnd (setI M 311 0 0) fun M1m =>
  cl (f_X11_within (x1.toInt64) 0 (((M1m.1 313 2) - 1).toInt64) M1m) fun r1 M2m =>
  if r1 = 0 then
    some ((-1), M2m)
  else
    cl (f_X11_within (x2.toInt64) 0 3 M2m) fun r2 M3m =>
    if r2 = 0 then
      some ((-1), M3m)
    else
      if x2 = 0 then
        gd (inb x1 10) <|
        some (M3m.1 321 x1.toNatClampNeg, M3m)
      else
        if x2 = 1 then
          gd (inb x1 10) <|
          if (M3m.1 322 x1.toNatClampNeg) = 0 then
            some (0, M3m)
          else
            some (1, M3m)
        else
          if x2 = 2 then
            gd (inb x1 10) <|
            if (M3m.1 323 x1.toNatClampNeg) = 0 then
              some (0, M3m)
            else
              some (1, M3m)
          else
            gd (inb x1 10) <|
            some (M3m.1 324 x1.toNatClampNeg, M3m)
def f_X11_pointsNow_b46 (rec4 : Int32 → Int32 → Int32 → Mem → Option (Int32 × Mem)) (x1 : Int32) (x3 : Int32) (xs0 : Int32) (M : Mem) : Option (Int32 × Mem) :=
  bnd (xs0 + 0) fun a1 =>
  bnd (x3 + 1) fun a2 =>
  rec4 x1 a1 a2 M
def f_X11_pointsNow_b4_s (rec4 : Int32 → Int32 → Int32 → Mem → Option (Int32 × Mem)) (x1 : Int32) (x2 : Int32) (x3 : Int32) (M : Mem) : Option (Int32 × Mem) :=
  if (M.1 340 0) ≤ x3 then
    some (x2, M)
  else
    gd (inb x3 16) <|
    if (M.1 332 x3.toNatClampNeg) = x1 then
      gd (inb (1 + x3) 114) <|
      if (M.1 340 (1 + x3).toNatClampNeg) = 1 then
        bnd (x2 + (M.1 333 x3.toNatClampNeg)) fun a1 =>
        bnd (x3 + 1) fun a2 =>
        rec4 x1 a1 a2 M
      else
        f_X11_pointsNow_b46 rec4 x1 x3 x2 M
    else
      f_X11_pointsNow_b46 rec4 x1 x3 x2 M
def f_X11_pointsNow_b4 (k : Nat) : Int32 → Int32 → Int32 → Mem → Option (Int32 × Mem) := lpN (fun _ _ _ _ => none) (f_X11_pointsNow_b4_s) k
def f_X11_pointsNow (x1 : Int32) (M : Mem) : Option (Int32 × Mem) :=
  f_X11_pointsNow_b4 fuel x1 0 0 M
def f_X11_side (x1 : Int32) (x2 : Int32) (M : Mem) : Option (Int32 × Mem) :=
  bnd (setI M 311 0 0) fun M1m =>
  cl (f_X11_isSide x1 M1m) fun r1 M2m =>
  if r1 = 0 then
    some ((-1), M2m)
  else
    cl (f_X11_within (x2.toInt64) 0 3 M2m) fun r2 M3m =>
    if r2 = 0 then
      some ((-1), M3m)
    else
      if x2 = 0 then
        gd (inb x1 8) <|
        some (M3m.1 320 x1.toNatClampNeg, M3m)
      else
        if x2 = 1 then
          gd (inb (33 + x1) 114) <|
          some (M3m.1 340 (33 + x1).toNatClampNeg, M3m)
        else
          if x2 = 2 then
            gd (inb (37 + x1) 114) <|
            some (M3m.1 340 (37 + x1).toNatClampNeg, M3m)
          else
            cl (f_X11_pointsNow x1 M3m) fun r3 M4m =>
            some (r3, M4m)
def f_X11_play (x1 : Int32) (x2 : Int32) (M : Mem) : Option (Int32 × Mem) :=
  bnd (setI M 311 0 0) fun M1m =>
  cl (f_X11_isPlay x1 M1m) fun r1 M2m =>
  if r1 = 0 then
    some ((-1), M2m)
  else
    if x2 = 0 then
      gd (inb x1 16) <|
      some (M2m.1 330 x1.toNatClampNeg, M2m)
    else
    if x2 = 1 then
      gd (inb x1 16) <|
      some (M2m.1 331 x1.toNatClampNeg, M2m)
    else
    if x2 = 2 then
      gd (inb x1 16) <|
      some (M2m.1 332 x1.toNatClampNeg, M2m)
    else
    if x2 = 3 then
      gd (inb x1 16) <|
      some (M2m.1 333 x1.toNatClampNeg, M2m)
    else
    if x2 = 4 then
      gd (inb x1 16) <|
      some (M2m.1 334 x1.toNatClampNeg, M2m)
    else
    if x2 = 5 then
      gd (inb x1 16) <|
      some (M2m.1 335 x1.toNatClampNeg, M2m)
    else
    if x2 = 6 then
      if (M2m.1 340 0) ≤ x1 then
        some ((-2), M2m)
      else
        gd (inb (1 + x1) 114) <|
        some (M2m.1 340 (1 + x1).toNatClampNeg, M2m)
    else
    if x2 = 7 then
      gd (inb (9 + x1) 114) <|
      some (M2m.1 340 (9 + x1).toNatClampNeg, M2m)
    else
    if x2 = 8 then
      gd (inb (17 + x1) 114) <|
      some (M2m.1 340 (17 + x1).toNatClampNeg, M2m)
    else
      some ((-1), M2m)
def f_X11_frame_b44 (x1 : Int32) (x2 : Int32) (x3 : Int32) (xs1 : Int32) (M : Mem) : Option (Int32 × Mem) :=
  bnd (setI M 311 0 xs1) fun M1m =>
  if (M1m.1 311 0) = 1 then
    some (0, M1m)
  else
    bnd ((10 * x1) + x2) fun a1 =>
    if x3 = 0 then
      gd (inb a1 160) <|
      some (M1m.1 336 a1.toNatClampNeg, M1m)
    else
      if x3 = 1 then
        gd (inb a1 160) <|
        some (M1m.1 337 a1.toNatClampNeg, M1m)
      else
        if x3 = 2 then
          gd (inb a1 160) <|
          some (M1m.1 338 a1.toNatClampNeg, M1m)
        else
          gd (inb a1 160) <|
          some (M1m.1 339 a1.toNatClampNeg, M1m)
def f_X11_frame_b43 (x1 : Int32) (x2 : Int32) (x3 : Int32) (M : Mem) : Option (Int32 × Mem) :=
  f_X11_frame_b44 x1 x2 x3 1 M
def f_X11_frame (x1 : Int32) (x2 : Int32) (x3 : Int32) (M : Mem) : Option (Int32 × Mem) :=
  cl (f_X11_isPlay x1 M) fun r1 M1m =>
  if r1 = 0 then
    f_X11_frame_b43 x1 x2 x3 M1m
  else
    gd (inb x1 16) <|
    cl (f_X11_within (x2.toInt64) 0 (((M1m.1 335 x1.toNatClampNeg) - 1).toInt64) M1m) fun r2 M2m =>
    if r2 = 0 then
      f_X11_frame_b43 x1 x2 x3 M2m
    else
      cl (f_X11_within (x3.toInt64) 0 3 M2m) fun r3 M3m =>
      if r3 = 0 then
        f_X11_frame_b43 x1 x2 x3 M3m
      else
        f_X11_frame_b44 x1 x2 x3 0 M3m
def f_X11_verdict (x1 : Int32) (x2 : Int32) (M : Mem) : Option (Int32 × Mem) :=
  bnd (setI M 311 0 0) fun M1m =>
  cl (f_X11_isPlay x1 M1m) fun r1 M2m =>
  if r1 = 0 then
    some ((-1), M2m)
  else
    gd (inb x1 16) <|
    cl (f_X11_within (x2.toInt64) 0 ((M2m.1 335 x1.toNatClampNeg).toInt64) M2m) fun r2 M3m =>
    if r2 = 0 then
      some ((-1), M3m)
    else
      cl (f_X11_verdictOf x1 (((1 : Int32) <<< (x2 &&& 31)) - 1) M3m) fun r3 M4m =>
      some (r3, M4m)
def f_X11_by (x1 : Int32) (x2 : Int32) (M : Mem) : Option (Int32 × Mem) :=
  bnd (setI M 311 0 0) fun M1m =>
  cl (f_X11_isPlay x1 M1m) fun r1 M2m =>
  if r1 = 0 then
    some ((-1), M2m)
  else
    cl (f_X11_within (x2.toInt64) 0 ((((1 : Int32) <<< ((M2m.1 313 0) &&& 31)) - 1).toInt64) M2m) fun r2 M3m =>
    if r2 = 0 then
      some ((-1), M3m)
    else
      cl (f_X11_framesOf x1 x2 M3m) fun r3 M4m =>
      cl (f_X11_verdictOf x1 r3 M4m) fun r4 M5m =>
      some (r4, M5m)
def f_X11_gap_b104 (x4 : Int32) (xs0 : Int32) (M : Mem) : Option (Int32 × Mem) :=
  if xs0 = 100000000 then
    some (1000000, M)
  else
    if x4 = 0 then
      some (-xs0, M)
    else
      some (xs0, M)
def f_X11_gap (x1 : Int32) (x2 : Int32) (x3 : Int32) (x4 : Int32) (M : Mem) : Option (Int32 × Mem) :=
  bnd (setI M 311 0 0) fun M1m =>
  cl (f_X11_isPlay x1 M1m) fun r1 M2m =>
  if r1 = 0 then
    some (3000000, M2m)
  else
    cl (f_X11_within (x2.toInt64) 0 3 M2m) fun r2 M3m =>
    if r2 = 0 then
      some (3000000, M3m)
    else
      cl (f_X11_within (x3.toInt64) 0 3 M3m) fun r3 M4m =>
      if r3 = 0 then
        some (3000000, M4m)
      else
        cl (f_X11_allFrames x1 M4m) fun r4 M5m =>
        clv (f_X11_laysFrames x1 r4 M5m) fun M6m =>
        cl (f_X11_closes M6m) fun r5 M7m =>
        if r5 = 0 then
          some (2000000, M7m)
        else
          if x4 = 0 then
            gd (inb (((10 * (6 + x3)) + 6) + x2) 100) <|
            f_X11_gap_b104 x4 (M7m.1 344 (((10 * (6 + x3)) + 6) + x2).toNatClampNeg) M7m
          else
            gd (inb (((10 * (6 + x2)) + 6) + x3) 100) <|
            f_X11_gap_b104 x4 (M7m.1 344 (((10 * (6 + x2)) + 6) + x3).toNatClampNeg) M7m
def f_X11_isSure (x0 : Int32) (M : Mem) : Option (Int32 × Mem) :=
  if x0 = 0 then
    some (1, M)
  else
    if x0 = 1 then
      some (1, M)
    else
      some (0, M)
def f_X11_isFewer (x0 : Int32) (x1 : Int32) (M : Mem) : Option (Int32 × Mem) :=
  if x1 = (-1) then
    some (1, M)
  else
    cl (f_X11_bits x0 M) fun r1 M1m =>
    cl (f_X11_bits x1 M1m) fun r2 M2m =>
    if r2 ≤ r1 then
      some (0, M2m)
    else
      some (1, M2m)
def f_X11_fewest_b36_s (rec36 : Int32 → Int32 → Int32 → Int32 → Mem → Option (Int32 × Mem)) (x1 : Int32) (x2 : Int32) (x3 : Int32) (x4 : Int32) (M : Mem) : Option (Int32 × Mem) :=
  cl (f_X11_allFrames x1 M) fun r1 M1m =>
  if r1 < x4 then
    some (x3, M1m)
  else
    cl (f_X11_isFewer x4 x3 M1m) fun r2 M2m =>
    if r2 = 0 then
      bnd (x4 + 1) fun a1 =>
      rec36 x1 x2 x3 a1 M2m
    else
      cl (f_X11_verdictOf x1 x4 M2m) fun r3 M3m =>
      if r3 = x2 then
        bnd (x4 + 1) fun a2 =>
        rec36 x1 x2 x4 a2 M3m
      else
        bnd (x4 + 1) fun a3 =>
        rec36 x1 x2 x3 a3 M3m
def f_X11_fewest_b36 (k : Nat) : Int32 → Int32 → Int32 → Int32 → Mem → Option (Int32 × Mem) := lpN (fun _ _ _ _ _ => none) (f_X11_fewest_b36_s) k
def f_X11_fewest (x1 : Int32) (M : Mem) : Option (Int32 × Mem) :=
  bnd (setI M 311 0 0) fun M1m =>
  cl (f_X11_isPlay x1 M1m) fun r1 M2m =>
  if r1 = 0 then
    some ((-1), M2m)
  else
    cl (f_X11_byAll x1 M2m) fun r2 M3m =>
    cl (f_X11_isSure r2 M3m) fun r3 M4m =>
    if r3 = 0 then
      some ((-2), M4m)
    else
      f_X11_fewest_b36 fuel x1 r2 (-1) 0 M4m
def f_X11_key_b33_s (rec33 : Int32 → Int32 → Int32 → Mem → Option (Int32 × Mem)) (x1 : Int32) (x2 : Int32) (x3 : Int32) (M : Mem) : Option (Int32 × Mem) :=
  gd (inb x1 16) <|
  if (M.1 335 x1.toNatClampNeg) ≤ x3 then
    some (x2, M)
  else
    cl (f_X11_allFrames x1 M) fun r1 M1m =>
    cl (f_X11_verdictOf x1 (r1 &&& (((1 : Int32) <<< (x3 &&& 31)) ^^^ (-1))) M1m) fun r2 M2m =>
    if r2 = 2 then
      bnd (x2 ||| ((1 : Int32) <<< (x3 &&& 31))) fun a1 =>
      bnd (x3 + 1) fun a2 =>
      rec33 x1 a1 a2 M2m
    else
      bnd (x2 ||| 0) fun a3 =>
      bnd (x3 + 1) fun a4 =>
      rec33 x1 a3 a4 M2m
def f_X11_key_b33 (k : Nat) : Int32 → Int32 → Int32 → Mem → Option (Int32 × Mem) := lpN (fun _ _ _ _ => none) (f_X11_key_b33_s) k
def f_X11_key (x1 : Int32) (M : Mem) : Option (Int32 × Mem) :=
  bnd (setI M 311 0 0) fun M1m =>
  cl (f_X11_isPlay x1 M1m) fun r1 M2m =>
  if r1 = 0 then
    some ((-1), M2m)
  else
    cl (f_X11_byAll x1 M2m) fun r2 M3m =>
    cl (f_X11_isSure r2 M3m) fun r3 M4m =>
    if r3 = 0 then
      some ((-2), M4m)
    else
      f_X11_key_b33 fuel x1 0 0 M4m
def f_X11_enough_b36_s (rec36 : Int32 → Int32 → Int32 → Int32 → Mem → Option (Int32 × Mem)) (x1 : Int32) (x2 : Int32) (x3 : Int32) (x4 : Int32) (M : Mem) : Option (Int32 × Mem) :=
  if ((1 : Int32) <<< ((M.1 313 0) &&& 31)) ≤ x4 then
    some (x3, M)
  else
    cl (f_X11_isFewer x4 x3 M) fun r1 M1m =>
    if r1 = 0 then
      bnd (x4 + 1) fun a1 =>
      rec36 x1 x2 x3 a1 M1m
    else
      cl (f_X11_framesOf x1 x4 M1m) fun r2 M2m =>
      cl (f_X11_verdictOf x1 r2 M2m) fun r3 M3m =>
      if r3 = x2 then
        bnd (x4 + 1) fun a2 =>
        rec36 x1 x2 x4 a2 M3m
      else
        bnd (x4 + 1) fun a3 =>
        rec36 x1 x2 x3 a3 M3m
def f_X11_enough_b36 (k : Nat) : Int32 → Int32 → Int32 → Int32 → Mem → Option (Int32 × Mem) := lpN (fun _ _ _ _ _ => none) (f_X11_enough_b36_s) k
def f_X11_enough (x1 : Int32) (M : Mem) : Option (Int32 × Mem) :=
  bnd (setI M 311 0 0) fun M1m =>
  cl (f_X11_isPlay x1 M1m) fun r1 M2m =>
  if r1 = 0 then
    some ((-1), M2m)
  else
    cl (f_X11_byAll x1 M2m) fun r2 M3m =>
    cl (f_X11_isSure r2 M3m) fun r3 M4m =>
    if r3 = 0 then
      some ((-2), M4m)
    else
      f_X11_enough_b36 fuel x1 r2 (-1) 0 M4m
def f_X11_mend_b32_s (rec32 : Int32 → Int32 → Int32 → Mem → Option (Int32 × Mem)) (x1 : Int32) (x2 : Int32) (x3 : Int32) (M : Mem) : Option (Int32 × Mem) :=
  cl (f_X11_allFrames x1 M) fun r1 M1m =>
  if r1 < x3 then
    some (x2, M1m)
  else
    cl (f_X11_isFewer x3 x2 M1m) fun r2 M2m =>
    if r2 = 0 then
      bnd (x3 + 1) fun a1 =>
      rec32 x1 x2 a1 M2m
    else
      cl (f_X11_allFrames x1 M2m) fun r3 M3m =>
      cl (f_X11_verdictOf x1 (r3 &&& (x3 ^^^ (-1))) M3m) fun r4 M4m =>
      if r4 = 3 then
        bnd (x3 + 1) fun a2 =>
        rec32 x1 x2 a2 M4m
      else
        bnd (x3 + 1) fun a3 =>
        rec32 x1 x3 a3 M4m
def f_X11_mend_b32 (k : Nat) : Int32 → Int32 → Int32 → Mem → Option (Int32 × Mem) := lpN (fun _ _ _ _ => none) (f_X11_mend_b32_s) k
def f_X11_mend (x1 : Int32) (M : Mem) : Option (Int32 × Mem) :=
  bnd (setI M 311 0 0) fun M1m =>
  cl (f_X11_isPlay x1 M1m) fun r1 M2m =>
  if r1 = 0 then
    some ((-1), M2m)
  else
    cl (f_X11_verdictOf x1 0 M2m) fun r2 M3m =>
    if r2 = 3 then
      some ((-2), M3m)
    else
      f_X11_mend_b32 fuel x1 (-1) 0 M3m
def f_X11_review_b84 (x2 : Int32) (x3 : Int32) (M : Mem) : Option (Int32 × Mem) :=
  cl (f_X11_isSure x3 M) fun r1 M1m =>
  if r1 = 0 then
    some (0, M1m)
  else
    if x3 = x2 then
      some (1, M1m)
    else
      some (2, M1m)
def f_X11_review_b12_s (rec12 : Int32 → Int32 → Int32 → Mem → Option (Int32 × Mem)) (x1 : Int32) (x2 : Int32) (x3 : Int32) (M : Mem) : Option (Int32 × Mem) :=
  if x3 = 2 then
    gd (inb x1 16) <|
    if (M.1 335 x1.toNatClampNeg) ≤ (M.1 311 44) then
      f_X11_review_b84 x2 x3 M
    else
      gd (inb (M.1 331 x1.toNatClampNeg) 10) <|
      if (M.1 314 0) < (((M.1 311 44) + 1) * (M.1 321 (M.1 331 x1.toNatClampNeg).toNatClampNeg)) then
        f_X11_review_b84 x2 x3 M
      else
        bnd (setI M 311 44 ((M.1 311 44) + 1)) fun M1m =>
        cl (f_X11_verdictOf x1 (((1 : Int32) <<< ((M1m.1 311 44) &&& 31)) - 1) M1m) fun r1 M2m =>
        rec12 x1 x2 r1 M2m
  else
    f_X11_review_b84 x2 x3 M
def f_X11_review_b12 (k : Nat) : Int32 → Int32 → Int32 → Mem → Option (Int32 × Mem) := lpN (fun _ _ _ _ => none) (f_X11_review_b12_s) k
def f_X11_review (x1 : Int32) (x2 : Int32) (M : Mem) : Option (Int32 × Mem) :=
  bnd (setI M 311 44 0) fun M1m =>
  cl (f_X11_verdictOf x1 0 M1m) fun r1 M2m =>
  f_X11_review_b12 fuel x1 x2 r1 M2m
def f_X11_secondsOf (x1 : Int32) (M : Mem) : Option (Int32 × Mem) :=
  gd (inb x1 16) <|
  gd (inb (M.1 331 x1.toNatClampNeg) 10) <|
  some ((M.1 311 44) * (M.1 321 (M.1 331 x1.toNatClampNeg).toNatClampNeg), M)
def f_X11_look (x1 : Int32) (x2 : Int32) (M : Mem) : Option (Int32 × Mem) :=
  bnd (setI M 311 0 0) fun M1m =>
  cl (f_X11_isPlay x1 M1m) fun r1 M2m =>
  if r1 = 0 then
    some ((-1), M2m)
  else
    cl (f_X11_within (x2.toInt64) 0 2 M2m) fun r2 M3m =>
    if r2 = 0 then
      some ((-1), M3m)
    else
      cl (f_X11_callOf x1 M3m) fun r3 M4m =>
      cl (f_X11_review x1 r3 M4m) fun r4 M5m =>
      if x2 = 0 then
        some (r4, M5m)
      else
        if x2 = 1 then
          cl (f_X11_secondsOf x1 M5m) fun r5 M6m =>
          some (r5, M6m)
        else
          some (M5m.1 311 44, M5m)
def f_X11_keeps_b51_s (rec51 : Int32 → Mem → Option Mem) (x1 : Int32) (M : Mem) : Option Mem :=
  if 114 ≤ x1 then
    bnd (setI M 311 40 ((M.1 311 40) + 1)) fun M1m =>
    some M1m
  else
    gd (inb x1 114) <|
    gd (inb ((114 * (M.1 311 40)) + x1) 1368) <|
    bnd (setI M 341 (((114 * (M.1 311 40)) + x1).toNatClampNeg) (M.1 340 x1.toNatClampNeg)) fun M2m =>
    bnd (x1 + 1) fun a1 =>
    rec51 a1 M2m
def f_X11_keeps_b51 (k : Nat) : Int32 → Mem → Option Mem := lpN (fun _ _ => none) (f_X11_keeps_b51_s) k
def f_X11_keeps_b11_s (rec11 : Int32 → Mem → Option Mem) (x1 : Int32) (M : Mem) : Option Mem :=
  if 1254 ≤ x1 then
    bnd (setI M 311 40 ((M.1 311 40) - 1)) fun M1m =>
    f_X11_keeps_b51 fuel 0 M1m
  else
    gd (inb (x1 + 114) 1368) <|
    gd (inb x1 1368) <|
    bnd (setI M 341 (x1.toNatClampNeg) (M.1 341 (x1 + 114).toNatClampNeg)) fun M2m =>
    bnd (x1 + 1) fun a1 =>
    rec11 a1 M2m
def f_X11_keeps_b11 (k : Nat) : Int32 → Mem → Option Mem := lpN (fun _ _ => none) (f_X11_keeps_b11_s) k
def f_X11_keeps (M : Mem) : Option Mem :=
  if (M.1 311 40) = 12 then
    f_X11_keeps_b11 fuel 0 M
  else
    f_X11_keeps_b51 fuel 0 M
def f_X11_logs_b4_s (rec4 : Int32 → Int32 → Int32 → Int32 → Int32 → Mem → Option Mem) (x1 : Int32) (x2 : Int32) (x3 : Int32) (x4 : Int32) (x5 : Int32) (M : Mem) : Option Mem :=
  if x5 < 54 then
    bnd (setI M 340 50 x1) fun M1m =>
    bnd (setI M1m 340 51 x2) fun M2m =>
    bnd (setI M2m 340 52 x3) fun M3m =>
    bnd (setI M3m 340 53 x4) fun M4m =>
    if 16 ≤ (M4m.1 340 49) then
      some M4m
    else
      bnd (setI M4m 340 49 ((M4m.1 340 49) + 1)) fun M5m =>
      some M5m
  else
    gd (inb (x5 - 4) 114) <|
    gd (inb x5 114) <|
    bnd (setI M 340 (x5.toNatClampNeg) (M.1 340 (x5 - 4).toNatClampNeg)) fun M6m =>
    bnd (x5 + (-1)) fun a1 =>
    rec4 x1 x2 x3 x4 a1 M6m
def f_X11_logs_b4 (k : Nat) : Int32 → Int32 → Int32 → Int32 → Int32 → Mem → Option Mem := lpN (fun _ _ _ _ _ _ => none) (f_X11_logs_b4_s) k
def f_X11_logs (x1 : Int32) (x2 : Int32) (x3 : Int32) (x4 : Int32) (M : Mem) : Option Mem :=
  f_X11_logs_b4 fuel x1 x2 x3 x4 113 M
def f_X11_forgets_b2_s (rec2 : Int32 → Int32 → Mem → Option Mem) (x1 : Int32) (x2 : Int32) (M : Mem) : Option Mem :=
  if 8 ≤ x2 then
    bnd (setI M 340 0 x1) fun M1m =>
    some M1m
  else
    gd (inb (1 + x2) 114) <|
    bnd (setI M 340 ((1 + x2).toNatClampNeg) 0) fun M2m =>
    gd (inb (9 + x2) 114) <|
    bnd (setI M2m 340 ((9 + x2).toNatClampNeg) 0) fun M3m =>
    gd (inb (17 + x2) 114) <|
    bnd (setI M3m 340 ((17 + x2).toNatClampNeg) 0) fun M4m =>
    gd (inb (25 + x2) 114) <|
    bnd (setI M4m 340 ((25 + x2).toNatClampNeg) 0) fun M5m =>
    bnd (x2 + 1) fun a1 =>
    rec2 x1 a1 M5m
def f_X11_forgets_b2 (k : Nat) : Int32 → Int32 → Mem → Option Mem := lpN (fun _ _ _ => none) (f_X11_forgets_b2_s) k
def f_X11_forgets (x1 : Int32) (M : Mem) : Option Mem :=
  f_X11_forgets_b2 fuel x1 x1 M
def f_X11_reviewed (x1 : Int32) (x2 : Int32) (M : Mem) : Option (Int32 × Mem) :=
  gd (inb (1 + x1) 114) <|
  cl (f_X11_review x1 (M.1 340 (1 + x1).toNatClampNeg) M) fun r1 M1m =>
  gd (inb (9 + x1) 114) <|
  bnd (setI M1m 340 ((9 + x1).toNatClampNeg) 1) fun M2m =>
  gd (inb (41 + x1) 114) <|
  cl (f_X11_secondsOf x1 M2m) fun r2 M3m =>
  bnd (setI M3m 340 ((41 + x1).toNatClampNeg) ((M2m.1 340 (41 + x1).toNatClampNeg) + r2)) fun M4m =>
  cl (f_X11_secondsOf x1 M4m) fun r3 M5m =>
  clv (f_X11_logs x1 x2 r1 r3 M5m) fun M6m =>
  if r1 = 2 then
    bnd (setI M6m 340 ((1 + x1).toNatClampNeg) (1 - (M6m.1 340 (1 + x1).toNatClampNeg))) fun M7m =>
    gd (inb x1 16) <|
    gd (inb (M7m.1 331 x1.toNatClampNeg) 10) <|
    if (M7m.1 323 (M7m.1 331 x1.toNatClampNeg).toNatClampNeg) = 0 then
      some (r1, M7m)
    else
      clv (f_X11_forgets (x1 + 1) M7m) fun M8m =>
      some (r1, M8m)
  else
    some (r1, M6m)
def f_X11_isAtOnce (x1 : Int32) (M : Mem) : Option (Int32 × Mem) :=
  gd (inb x1 16) <|
  gd (inb (M.1 331 x1.toNatClampNeg) 10) <|
  if (M.1 322 (M.1 331 x1.toNatClampNeg).toNatClampNeg) = 0 then
    if (M.1 330 x1.toNatClampNeg) < (M.1 314 2) then
      some (0, M)
    else
      some (1, M)
  else
    some (1, M)
def f_X11_next (M : Mem) : Option (Int32 × Mem) :=
  bnd (setI M 311 0 0) fun M1m =>
  if (M1m.1 340 0) < (M1m.1 313 4) then
    clv (f_X11_keeps M1m) fun M2m =>
    bnd (M2m.1 340 0) fun a1 =>
    bnd (setI M2m 340 0 ((M2m.1 340 0) + 1)) fun M3m =>
    gd (inb a1 16) <|
    gd (inb (1 + a1) 114) <|
    bnd (setI M3m 340 ((1 + a1).toNatClampNeg) (M3m.1 334 a1.toNatClampNeg)) fun M4m =>
    cl (f_X11_isAtOnce a1 M4m) fun r1 M5m =>
    if r1 = 0 then
      some (3, M5m)
    else
      cl (f_X11_reviewed a1 (-1) M5m) fun r2 M6m =>
      some (r2, M6m)
  else
    some ((-1), M1m)
def f_X11_gains (x1 : Int32) (M : Mem) : Option Mem :=
  gd (inb (33 + x1) 114) <|
  if 9 ≤ (M.1 340 (33 + x1).toNatClampNeg) then
    some M
  else
    bnd (setI M 340 ((33 + x1).toNatClampNeg) ((M.1 340 (33 + x1).toNatClampNeg) + 1)) fun M1m =>
    some M1m
def f_X11_challenge (x1 : Int32) (x2 : Int32) (M : Mem) : Option (Int32 × Mem) :=
  bnd (setI M 311 0 0) fun M1m =>
  cl (f_X11_isSide x1 M1m) fun r1 M2m =>
  if r1 = 0 then
    some ((-1), M2m)
  else
    cl (f_X11_isPlay x2 M2m) fun r2 M3m =>
    if r2 = 0 then
      some ((-1), M3m)
    else
      gd (inb (33 + x1) 114) <|
      if (M3m.1 340 (33 + x1).toNatClampNeg) = 0 then
        some ((-2), M3m)
      else
        if (M3m.1 340 0) ≤ x2 then
          some ((-2), M3m)
        else
          if (M3m.1 314 3) < (((M3m.1 340 0) - 1) - x2) then
            some ((-2), M3m)
          else
            gd (inb (9 + x2) 114) <|
            if (M3m.1 340 (9 + x2).toNatClampNeg) = 1 then
              some ((-2), M3m)
            else
              gd (inb (17 + x2) 114) <|
              if (M3m.1 340 (17 + x2).toNatClampNeg) = 1 then
                some ((-2), M3m)
              else
                clv (f_X11_keeps M3m) fun M4m =>
                cl (f_X11_reviewed x2 x1 M4m) fun r3 M5m =>
                if r3 = 2 then
                  gd (inb (37 + x1) 114) <|
                  bnd (setI M5m 340 ((37 + x1).toNatClampNeg) ((M5m.1 340 (37 + x1).toNatClampNeg) + 1)) fun M6m =>
                  if (M6m.1 314 1) ≤ 0 then
                    some (r3, M6m)
                  else
                    gd (¬ (M6m.1 314 1) = 0) <|
                    if ((M6m.1 340 (37 + x1).toNatClampNeg) - (M6m.1 340 (37 + x1).toNatClampNeg) / (M6m.1 314 1) * (M6m.1 314 1)) = 0 then
                      clv (f_X11_gains x1 M6m) fun M7m =>
                      some (r3, M7m)
                    else
                      some (r3, M6m)
                else
                  bnd (setI M5m 340 ((33 + x1).toNatClampNeg) ((M5m.1 340 (33 + x1).toNatClampNeg) - 1)) fun M8m =>
                  gd (inb (25 + x2) 114) <|
                  bnd (setI M8m 340 ((25 + x2).toNatClampNeg) (x1 + 1)) fun M9m =>
                  some (r3, M9m)
def f_X11_against_b70 (rec12 : Int32 → Int32 → Int32 → Int32 → Int32 → Mem → Option (Int32 × Mem)) (x1 : Int32) (x2 : Int32) (x4 : Int32) (x5 : Int32) (xs0 : Int32) (M : Mem) : Option (Int32 × Mem) :=
  bnd (xs0 ||| 0) fun a1 =>
  bnd (x5 + 1) fun a2 =>
  rec12 x1 x2 a1 x4 a2 M
def f_X11_against_b12_s (rec12 : Int32 → Int32 → Int32 → Int32 → Int32 → Mem → Option (Int32 × Mem)) (x1 : Int32) (x2 : Int32) (x3 : Int32) (x4 : Int32) (x5 : Int32) (M : Mem) : Option (Int32 × Mem) :=
  gd (inb x1 6) <|
  if (M.1 328 x1.toNatClampNeg) ≤ x5 then
    some (x3, M)
  else
    gd (inb ((7 * x1) + x5) 42) <|
    cl (f_X11_framesOf x2 (M.1 329 ((7 * x1) + x5).toNatClampNeg) M) fun r1 M1m =>
    cl (f_X11_verdictOf x2 r1 M1m) fun r2 M2m =>
    cl (f_X11_isSure r2 M2m) fun r3 M3m =>
    if r3 = 0 then
      f_X11_against_b70 rec12 x1 x2 x4 x5 x3 M3m
    else
      if r2 = x4 then
        f_X11_against_b70 rec12 x1 x2 x4 x5 x3 M3m
      else
        bnd (x3 ||| ((1 : Int32) <<< (x5 &&& 31))) fun a1 =>
        bnd (x5 + 1) fun a2 =>
        rec12 x1 x2 a1 x4 a2 M3m
def f_X11_against_b12 (k : Nat) : Int32 → Int32 → Int32 → Int32 → Int32 → Mem → Option (Int32 × Mem) := lpN (fun _ _ _ _ _ _ => none) (f_X11_against_b12_s) k
def f_X11_against (x1 : Int32) (x2 : Int32) (M : Mem) : Option (Int32 × Mem) :=
  cl (f_X11_callOf x2 M) fun r1 M1m =>
  f_X11_against_b12 fuel x1 x2 0 r1 0 M1m
def f_X11_put_b157 (x2 : Int32) (M : Mem) : Option (Int32 × Mem) :=
  gd (inb (25 + x2) 114) <|
  bnd (setI M 340 ((25 + x2).toNatClampNeg) 0) fun M1m =>
  some (1, M1m)
def f_X11_put_b102 (x2 : Int32) (x3 : Int32) (xs1 : Int32) (xs2 : Int32) (xs3 : Int32) (M : Mem) : Option (Int32 × Mem) :=
  clv (f_X11_logs xs1 xs2 xs3 0 M) fun M1m =>
  if x3 = 0 then
    some (0, M1m)
  else
    gd (inb (1 + x2) 114) <|
    bnd (setI M1m 340 ((1 + x2).toNatClampNeg) (1 - (M1m.1 340 (1 + x2).toNatClampNeg))) fun M2m =>
    gd (inb (25 + x2) 114) <|
    if (M2m.1 340 (25 + x2).toNatClampNeg) ≤ 0 then
      f_X11_put_b157 x2 M2m
    else
      clv (f_X11_gains ((M2m.1 340 (25 + x2).toNatClampNeg) - 1) M2m) fun M3m =>
      f_X11_put_b157 x2 M3m
def f_X11_put_b76 (x1 : Int32) (x2 : Int32) (xs0 : Int32) (M : Mem) : Option (Int32 × Mem) :=
  gd (inb (17 + x2) 114) <|
  bnd (setI M 340 ((17 + x2).toNatClampNeg) 1) fun M1m =>
  if xs0 = 0 then
    f_X11_put_b102 x2 xs0 x2 (10 + x1) 0 M1m
  else
    f_X11_put_b102 x2 xs0 x2 (10 + x1) 2 M1m
def f_X11_put (x1 : Int32) (x2 : Int32) (M : Mem) : Option (Int32 × Mem) :=
  bnd (setI M 311 0 0) fun M1m =>
  cl (f_X11_isBoard x1 M1m) fun r1 M2m =>
  if r1 = 0 then
    some ((-1), M2m)
  else
    cl (f_X11_isPlay x2 M2m) fun r2 M3m =>
    if r2 = 0 then
      some ((-1), M3m)
    else
      if (M3m.1 340 0) ≤ x2 then
        some ((-2), M3m)
      else
        gd (inb (17 + x2) 114) <|
        if (M3m.1 340 (17 + x2).toNatClampNeg) = 1 then
          some ((-2), M3m)
        else
          clv (f_X11_keeps M3m) fun M4m =>
          cl (f_X11_against x1 x2 M4m) fun r3 M5m =>
          cl (f_X11_bits r3 M5m) fun r4 M6m =>
          gd (inb x1 6) <|
          if r4 < (M6m.1 327 x1.toNatClampNeg) then
            f_X11_put_b76 x1 x2 0 M6m
          else
            f_X11_put_b76 x1 x2 1 M6m
def f_X11_votes (x1 : Int32) (x2 : Int32) (M : Mem) : Option (Int32 × Mem) :=
  bnd (setI M 311 0 0) fun M1m =>
  cl (f_X11_isBoard x1 M1m) fun r1 M2m =>
  if r1 = 0 then
    some ((-1), M2m)
  else
    cl (f_X11_isPlay x2 M2m) fun r2 M3m =>
    if r2 = 0 then
      some ((-1), M3m)
    else
      cl (f_X11_against x1 x2 M3m) fun r3 M4m =>
      some (r3, M4m)
def f_X11_pivot (x1 : Int32) (x2 : Int32) (M : Mem) : Option (Int32 × Mem) :=
  bnd (setI M 311 0 0) fun M1m =>
  cl (f_X11_isBoard x1 M1m) fun r1 M2m =>
  if r1 = 0 then
    some ((-1), M2m)
  else
    cl (f_X11_isPlay x2 M2m) fun r2 M3m =>
    if r2 = 0 then
      some ((-1), M3m)
    else
      cl (f_X11_against x1 x2 M3m) fun r3 M4m =>
      cl (f_X11_bits r3 M4m) fun r4 M5m =>
      gd (inb x1 6) <|
      if r4 = (M5m.1 327 x1.toNatClampNeg) then
        some (r3, M5m)
      else
        some (0, M5m)
def f_X11_boards_b19_s (rec19 : Int32 → Int32 → Int32 → Mem → Option (Int32 × Mem)) (x1 : Int32) (x2 : Int32) (x3 : Int32) (M : Mem) : Option (Int32 × Mem) :=
  if (M.1 313 3) ≤ x3 then
    some (x2, M)
  else
    cl (f_X11_against x3 x1 M) fun r1 M1m =>
    cl (f_X11_bits r1 M1m) fun r2 M2m =>
    gd (inb x3 6) <|
    if r2 < (M2m.1 327 x3.toNatClampNeg) then
      bnd (x2 ||| 0) fun a1 =>
      bnd (x3 + 1) fun a2 =>
      rec19 x1 a1 a2 M2m
    else
      bnd (x2 ||| ((1 : Int32) <<< (x3 &&& 31))) fun a3 =>
      bnd (x3 + 1) fun a4 =>
      rec19 x1 a3 a4 M2m
def f_X11_boards_b19 (k : Nat) : Int32 → Int32 → Int32 → Mem → Option (Int32 × Mem) := lpN (fun _ _ _ _ => none) (f_X11_boards_b19_s) k
def f_X11_boards (x1 : Int32) (M : Mem) : Option (Int32 × Mem) :=
  bnd (setI M 311 0 0) fun M1m =>
  cl (f_X11_isPlay x1 M1m) fun r1 M2m =>
  if r1 = 0 then
    some ((-1), M2m)
  else
    f_X11_boards_b19 fuel x1 0 0 M2m
def f_X11_trueCall (x1 : Int32) (x2 : Int32) (M : Mem) : Option (Int32 × Mem) :=
  cl (f_X11_byAll x1 M) fun r1 M1m =>
  cl (f_X11_isSure r1 M1m) fun r2 M2m =>
  if r2 = 0 then
    some (x2, M2m)
  else
    some (r1, M2m)
def f_X11_truth_b19_s (rec19 : Int32 → Int32 → Int32 → Mem → Option (Int32 × Mem)) (x1 : Int32) (x2 : Int32) (x3 : Int32) (M : Mem) : Option (Int32 × Mem) :=
  if (M.1 313 4) ≤ x3 then
    some (x2, M)
  else
    gd (inb x3 16) <|
    if (M.1 332 x3.toNatClampNeg) = x1 then
      cl (f_X11_trueCall x3 (M.1 334 x3.toNatClampNeg) M) fun r1 M1m =>
      bnd (x2 + ((M.1 333 x3.toNatClampNeg) * r1)) fun a1 =>
      bnd (x3 + 1) fun a2 =>
      rec19 x1 a1 a2 M1m
    else
      bnd (x2 + 0) fun a3 =>
      bnd (x3 + 1) fun a4 =>
      rec19 x1 a3 a4 M
def f_X11_truth_b19 (k : Nat) : Int32 → Int32 → Int32 → Mem → Option (Int32 × Mem) := lpN (fun _ _ _ _ => none) (f_X11_truth_b19_s) k
def f_X11_truth (x1 : Int32) (M : Mem) : Option (Int32 × Mem) :=
  bnd (setI M 311 0 0) fun M1m =>
  cl (f_X11_isSide x1 M1m) fun r1 M2m =>
  if r1 = 0 then
    some ((-1), M2m)
  else
    f_X11_truth_b19 fuel x1 0 0 M2m
def f_X11_range_b62 (rec20 : Int32 → Int32 → Int32 → Int32 → Mem → Option (Int32 × Mem)) (x1 : Int32) (x2 : Int32) (x4 : Int32) (xs0 : Int32) (xs1 : Int32) (xs3 : Int32) (xs4 : Int32) (M : Mem) : Option (Int32 × Mem) :=
  cl (f_X11_trueCall xs3 xs4 M) fun r1 M1m =>
  bnd (xs0 + (xs1 * r1)) fun a1 =>
  bnd (x4 + 1) fun a2 =>
  rec20 x1 x2 a1 a2 M1m
def f_X11_range_b20_s (rec20 : Int32 → Int32 → Int32 → Int32 → Mem → Option (Int32 × Mem)) (x1 : Int32) (x2 : Int32) (x3 : Int32) (x4 : Int32) (M : Mem) : Option (Int32 × Mem) :=
  if (M.1 313 4) ≤ x4 then
    some (x3, M)
  else
    gd (inb x4 16) <|
    if (M.1 332 x4.toNatClampNeg) = x1 then
      if x2 = 0 then
        f_X11_range_b62 rec20 x1 x2 x4 x3 (M.1 333 x4.toNatClampNeg) x4 0 M
      else
        f_X11_range_b62 rec20 x1 x2 x4 x3 (M.1 333 x4.toNatClampNeg) x4 1 M
    else
      bnd (x3 + 0) fun a1 =>
      bnd (x4 + 1) fun a2 =>
      rec20 x1 x2 a1 a2 M
def f_X11_range_b20 (k : Nat) : Int32 → Int32 → Int32 → Int32 → Mem → Option (Int32 × Mem) := lpN (fun _ _ _ _ _ => none) (f_X11_range_b20_s) k
def f_X11_range (x1 : Int32) (x2 : Int32) (M : Mem) : Option (Int32 × Mem) :=
  bnd (setI M 311 0 0) fun M1m =>
  cl (f_X11_isSide x1 M1m) fun r1 M2m =>
  if r1 = 0 then
    some ((-1), M2m)
  else
    f_X11_range_b20 fuel x1 x2 0 0 M2m
def f_X11_wrong_b9_s (rec9 : Int32 → Int32 → Mem → Option (Int32 × Mem)) (x1 : Int32) (x2 : Int32) (M : Mem) : Option (Int32 × Mem) :=
  if (M.1 313 4) ≤ x2 then
    some (x1, M)
  else
    gd (inb x2 16) <|
    cl (f_X11_trueCall x2 (M.1 334 x2.toNatClampNeg) M) fun r1 M1m =>
    if r1 = (M1m.1 334 x2.toNatClampNeg) then
      bnd (x1 ||| 0) fun a1 =>
      bnd (x2 + 1) fun a2 =>
      rec9 a1 a2 M1m
    else
      bnd (x1 ||| ((1 : Int32) <<< (x2 &&& 31))) fun a3 =>
      bnd (x2 + 1) fun a4 =>
      rec9 a3 a4 M1m
def f_X11_wrong_b9 (k : Nat) : Int32 → Int32 → Mem → Option (Int32 × Mem) := lpN (fun _ _ _ => none) (f_X11_wrong_b9_s) k
def f_X11_wrong (M : Mem) : Option (Int32 × Mem) :=
  bnd (setI M 311 0 0) fun M1m =>
  f_X11_wrong_b9 fuel 0 0 M1m
def f_X11_left_b89 (rec19 : Int32 → Int32 → Int32 → Mem → Option (Int32 × Mem)) (x1 : Int32) (x3 : Int32) (xs0 : Int32) (xs1 : Int32) (xs2 : Int32) (M : Mem) : Option (Int32 × Mem) :=
  if xs1 = xs2 then
    gd (inb x3 16) <|
    bnd (xs0 + (M.1 333 x3.toNatClampNeg)) fun a1 =>
    bnd (x3 + 1) fun a2 =>
    rec19 x1 a1 a2 M
  else
    bnd (xs0 + 0) fun a3 =>
    bnd (x3 + 1) fun a4 =>
    rec19 x1 a3 a4 M
def f_X11_left_b70 (rec19 : Int32 → Int32 → Int32 → Mem → Option (Int32 × Mem)) (x1 : Int32) (x2 : Int32) (x3 : Int32) (xs0 : Int32) (M : Mem) : Option (Int32 × Mem) :=
  gd (inb x3 16) <|
  if (M.1 334 x3.toNatClampNeg) = 0 then
    f_X11_left_b89 rec19 x1 x3 x2 xs0 1 M
  else
    f_X11_left_b89 rec19 x1 x3 x2 xs0 0 M
def f_X11_left_b69 (rec19 : Int32 → Int32 → Int32 → Mem → Option (Int32 × Mem)) (x1 : Int32) (x2 : Int32) (x3 : Int32) (M : Mem) : Option (Int32 × Mem) :=
  f_X11_left_b70 rec19 x1 x2 x3 0 M
def f_X11_left_b19_s (rec19 : Int32 → Int32 → Int32 → Mem → Option (Int32 × Mem)) (x1 : Int32) (x2 : Int32) (x3 : Int32) (M : Mem) : Option (Int32 × Mem) :=
  if (M.1 313 4) ≤ x3 then
    some (x2, M)
  else
    gd (inb x3 16) <|
    if (M.1 332 x3.toNatClampNeg) = x1 then
      cl (f_X11_isAtOnce x3 M) fun r1 M1m =>
      if r1 = 0 then
        f_X11_left_b69 rec19 x1 x2 x3 M1m
      else
        cl (f_X11_review x3 (M1m.1 334 x3.toNatClampNeg) M1m) fun r2 M2m =>
        if r2 = 2 then
          f_X11_left_b70 rec19 x1 x2 x3 1 M2m
        else
          f_X11_left_b69 rec19 x1 x2 x3 M2m
    else
      bnd (x3 + 1) fun a1 =>
      rec19 x1 x2 a1 M
def f_X11_left_b19 (k : Nat) : Int32 → Int32 → Int32 → Mem → Option (Int32 × Mem) := lpN (fun _ _ _ _ => none) (f_X11_left_b19_s) k
def f_X11_left (x1 : Int32) (M : Mem) : Option (Int32 × Mem) :=
  bnd (setI M 311 0 0) fun M1m =>
  cl (f_X11_isSide x1 M1m) fun r1 M2m =>
  if r1 = 0 then
    some ((-1), M2m)
  else
    f_X11_left_b19 fuel x1 0 0 M2m
def f_X11_isEnough_b51 (rec8 : Int32 → Int32 → Int32 → Int32 → Mem → Option (Int32 × Mem)) (x1 : Int32) (x3 : Int32) (x4 : Int32) (x5 : Int32) (xs0 : Int32) (xs1 : Int32) (M : Mem) : Option (Int32 × Mem) :=
  if xs0 = xs1 then
    bnd (x5 + 1) fun a1 =>
    rec8 x1 x3 x4 a1 M
  else
    if x3 = 0 then
      some (0, M)
    else
      gd (inb x5 16) <|
      cl (f_X11_review x5 (M.1 334 x5.toNatClampNeg) M) fun r1 M1m =>
      if r1 = 2 then
        bnd (x4 + 1) fun a2 =>
        if (M1m.1 314 1) ≤ 0 then
          bnd (x5 + 1) fun a3 =>
          rec8 x1 x3 a2 a3 M1m
        else
          gd (¬ (M1m.1 314 1) = 0) <|
          if (a2 - a2 / (M1m.1 314 1) * (M1m.1 314 1)) = 0 then
            if 9 ≤ x3 then
              bnd (x5 + 1) fun a4 =>
              rec8 x1 x3 a2 a4 M1m
            else
              bnd (x3 + 1) fun a5 =>
              bnd (x5 + 1) fun a6 =>
              rec8 x1 a5 a2 a6 M1m
          else
            bnd (x5 + 1) fun a7 =>
            rec8 x1 x3 a2 a7 M1m
      else
        bnd (x3 + (-1)) fun a8 =>
        bnd (x5 + 1) fun a9 =>
        rec8 x1 a8 x4 a9 M1m
def f_X11_isEnough_b8_s (rec8 : Int32 → Int32 → Int32 → Int32 → Mem → Option (Int32 × Mem)) (x1 : Int32) (x3 : Int32) (x4 : Int32) (x5 : Int32) (M : Mem) : Option (Int32 × Mem) :=
  if (M.1 313 4) ≤ x5 then
    some (1, M)
  else
    cl (f_X11_isAtOnce x5 M) fun r1 M1m =>
    if r1 = 0 then
      gd (inb x5 16) <|
      if (M1m.1 332 x5.toNatClampNeg) = x1 then
        f_X11_isEnough_b51 rec8 x1 x3 x4 x5 (M1m.1 334 x5.toNatClampNeg) 1 M1m
      else
        f_X11_isEnough_b51 rec8 x1 x3 x4 x5 (M1m.1 334 x5.toNatClampNeg) 0 M1m
    else
      bnd (x5 + 1) fun a1 =>
      rec8 x1 x3 x4 a1 M1m
def f_X11_isEnough_b8 (k : Nat) : Int32 → Int32 → Int32 → Int32 → Mem → Option (Int32 × Mem) := lpN (fun _ _ _ _ _ => none) (f_X11_isEnough_b8_s) k
def f_X11_isEnough (x1 : Int32) (x2 : Int32) (M : Mem) : Option (Int32 × Mem) :=
  f_X11_isEnough_b8 fuel x1 x2 0 0 M
def f_X11_need_b17_s (rec17 : Int32 → Int32 → Mem → Option (Int32 × Mem)) (x1 : Int32) (x2 : Int32) (M : Mem) : Option (Int32 × Mem) :=
  if 9 ≤ x2 then
    some (9, M)
  else
    cl (f_X11_isEnough x1 x2 M) fun r1 M1m =>
    if r1 = 0 then
      bnd (x2 + 1) fun a1 =>
      rec17 x1 a1 M1m
    else
      some (x2, M1m)
def f_X11_need_b17 (k : Nat) : Int32 → Int32 → Mem → Option (Int32 × Mem) := lpN (fun _ _ _ => none) (f_X11_need_b17_s) k
def f_X11_need (x1 : Int32) (M : Mem) : Option (Int32 × Mem) :=
  bnd (setI M 311 0 0) fun M1m =>
  cl (f_X11_isSide x1 M1m) fun r1 M2m =>
  if r1 = 0 then
    some ((-1), M2m)
  else
    f_X11_need_b17 fuel x1 0 M2m
def f_X11_timeOf_b4_s (rec4 : Int32 → Int32 → Int32 → Mem → Option (Int32 × Mem)) (x1 : Int32) (x2 : Int32) (x3 : Int32) (M : Mem) : Option (Int32 × Mem) :=
  if (M.1 313 4) ≤ x3 then
    some (x2, M)
  else
    gd (inb x3 16) <|
    if (M.1 330 x3.toNatClampNeg) = x1 then
      gd (inb (41 + x3) 114) <|
      bnd (x2 + (M.1 340 (41 + x3).toNatClampNeg)) fun a1 =>
      bnd (x3 + 1) fun a2 =>
      rec4 x1 a1 a2 M
    else
      bnd (x2 + 0) fun a3 =>
      bnd (x3 + 1) fun a4 =>
      rec4 x1 a3 a4 M
def f_X11_timeOf_b4 (k : Nat) : Int32 → Int32 → Int32 → Mem → Option (Int32 × Mem) := lpN (fun _ _ _ _ => none) (f_X11_timeOf_b4_s) k
def f_X11_timeOf (x1 : Int32) (M : Mem) : Option (Int32 × Mem) :=
  f_X11_timeOf_b4 fuel x1 0 0 M
def f_X11_seconds (x1 : Int32) (M : Mem) : Option (Int32 × Mem) :=
  bnd (setI M 311 0 0) fun M1m =>
  cl (f_X11_within (x1.toInt64) 0 999 M1m) fun r1 M2m =>
  if r1 = 0 then
    some ((-1), M2m)
  else
    cl (f_X11_timeOf x1 M2m) fun r2 M3m =>
    some (r2, M3m)
def f_X11_extra_b41 (rec9 : Int32 → Int32 → Mem → Option (Int32 × Mem)) (x2 : Int32) (xs0 : Int32) (M : Mem) : Option (Int32 × Mem) :=
  gd (inb x2 16) <|
  cl (f_X11_timeOf (M.1 330 x2.toNatClampNeg) M) fun r1 M1m =>
  bnd (xs0 + ((r1 + 59) / 60)) fun a1 =>
  bnd (x2 + 1) fun a2 =>
  rec9 a1 a2 M1m
def f_X11_extra_b9_s (rec9 : Int32 → Int32 → Mem → Option (Int32 × Mem)) (x1 : Int32) (x2 : Int32) (M : Mem) : Option (Int32 × Mem) :=
  if (M.1 313 4) ≤ x2 then
    some (x1, M)
  else
    if x2 = 0 then
      f_X11_extra_b41 rec9 x2 x1 M
    else
      gd (inb x2 16) <|
      gd (inb (x2 - 1) 16) <|
      if (M.1 330 x2.toNatClampNeg) = (M.1 330 (x2 - 1).toNatClampNeg) then
        bnd (x1 + 0) fun a1 =>
        bnd (x2 + 1) fun a2 =>
        rec9 a1 a2 M
      else
        f_X11_extra_b41 rec9 x2 x1 M
def f_X11_extra_b9 (k : Nat) : Int32 → Int32 → Mem → Option (Int32 × Mem) := lpN (fun _ _ _ => none) (f_X11_extra_b9_s) k
def f_X11_extra (M : Mem) : Option (Int32 × Mem) :=
  bnd (setI M 311 0 0) fun M1m =>
  f_X11_extra_b9 fuel 0 0 M1m
def f_X11_log_b37 (x1 : Int32) (x2 : Int32) (xs1 : Int32) (M : Mem) : Option (Int32 × Mem) :=
  bnd (setI M 311 0 xs1) fun M1m =>
  if (M1m.1 311 0) = 1 then
    some (0, M1m)
  else
    gd (inb ((50 + (4 * x1)) + x2) 114) <|
    some (M1m.1 340 ((50 + (4 * x1)) + x2).toNatClampNeg, M1m)
def f_X11_log_b36 (x1 : Int32) (x2 : Int32) (M : Mem) : Option (Int32 × Mem) :=
  f_X11_log_b37 x1 x2 1 M
def f_X11_log (x1 : Int32) (x2 : Int32) (M : Mem) : Option (Int32 × Mem) :=
  cl (f_X11_within (x1.toInt64) 0 (((M.1 340 49) - 1).toInt64) M) fun r1 M1m =>
  if r1 = 0 then
    f_X11_log_b36 x1 x2 M1m
  else
    cl (f_X11_within (x2.toInt64) 0 3 M1m) fun r2 M2m =>
    if r2 = 0 then
      f_X11_log_b36 x1 x2 M2m
    else
      f_X11_log_b37 x1 x2 0 M2m
def f_X11_sheet_b108 (rec52 : Int32 → Int32 → Int32 → Mem → Option (Int32 × Mem)) (x1 : Int32) (x2 : Int32) (x4 : Int32) (xs1 : Int32) (xs2 : Int32) (M : Mem) : Option (Int32 × Mem) :=
  gd (inb xs1 16) <|
  bnd (setI M 345 (xs1.toNatClampNeg) xs2) fun M1m =>
  bnd (x4 + 1) fun a1 =>
  rec52 x1 x2 a1 M1m
def f_X11_sheet_b52_s (rec52 : Int32 → Int32 → Int32 → Mem → Option (Int32 × Mem)) (x1 : Int32) (x2 : Int32) (x4 : Int32) (M : Mem) : Option (Int32 × Mem) :=
  if (M.1 311 46) ≤ x4 then
    some (M.1 311 46, M)
  else
    gd (inb ((50 + (4 * (x2 + x4))) + 3) 114) <|
    bnd (M.1 340 ((50 + (4 * (x2 + x4))) + 3).toNatClampNeg) fun a1 =>
    if x1 = 0 then
      f_X11_sheet_b108 rec52 x1 x2 x4 x4 (a1.toInt8.toInt32) M
    else
      if x1 = 1 then
        f_X11_sheet_b108 rec52 x1 x2 x4 x4 (a1.toInt16.toInt32) M
      else
        f_X11_sheet_b108 rec52 x1 x2 x4 x4 a1 M
def f_X11_sheet_b52 (k : Nat) : Int32 → Int32 → Int32 → Mem → Option (Int32 × Mem) := lpN (fun _ _ _ _ => none) (f_X11_sheet_b52_s) k
def f_X11_sheet (x1 : Int32) (x2 : Int32) (x3 : Int32) (M : Mem) : Option (Int32 × Mem) :=
  bnd (setI M 311 0 0) fun M1m =>
  cl (f_X11_within (x1.toInt64) 0 2 M1m) fun r1 M2m =>
  if r1 = 0 then
    some ((-1), M2m)
  else
    if x2 < 0 then
      some ((-1), M2m)
    else
      if x3 ≤ (M2m.1 340 49) then
        if x2 ≤ x3 then
          bnd (setI M2m 311 46 (x3 - x2)) fun M3m =>
          f_X11_sheet_b52 fuel x1 x2 0 M3m
        else
          some ((-2), M2m)
      else
        some ((-1), M2m)
def f_X11_row_b22 (x1 : Int32) (xs1 : Int32) (M : Mem) : Option (Int32 × Mem) :=
  bnd (setI M 311 0 xs1) fun M1m =>
  if (M1m.1 311 0) = 1 then
    some (0, M1m)
  else
    gd (inb x1 16) <|
    some (M1m.1 345 x1.toNatClampNeg, M1m)
def f_X11_row (x1 : Int32) (M : Mem) : Option (Int32 × Mem) :=
  cl (f_X11_within (x1.toInt64) 0 (((M.1 311 46) - 1).toInt64) M) fun r1 M1m =>
  if r1 = 0 then
    f_X11_row_b22 x1 1 M1m
  else
    f_X11_row_b22 x1 0 M1m
def f_X11_undo_b26_s (rec26 : Int32 → Mem → Option (Int32 × Mem)) (x1 : Int32) (M : Mem) : Option (Int32 × Mem) :=
  if 114 ≤ x1 then
    some (M.1 311 40, M)
  else
    gd (inb ((114 * (M.1 311 40)) + x1) 1368) <|
    gd (inb x1 114) <|
    bnd (setI M 340 (x1.toNatClampNeg) (M.1 341 ((114 * (M.1 311 40)) + x1).toNatClampNeg)) fun M1m =>
    bnd (x1 + 1) fun a1 =>
    rec26 a1 M1m
def f_X11_undo_b26 (k : Nat) : Int32 → Mem → Option (Int32 × Mem) := lpN (fun _ _ => none) (f_X11_undo_b26_s) k
def f_X11_undo (M : Mem) : Option (Int32 × Mem) :=
  bnd (setI M 311 0 0) fun M1m =>
  if (M1m.1 311 40) = 0 then
    some ((-1), M1m)
  else
    bnd (setI M1m 311 40 ((M1m.1 311 40) - 1)) fun M2m =>
    f_X11_undo_b26 fuel 0 M2m
def f_X11_keep_b32_s (rec32 : Int32 → Int32 → Int32 → Mem → Option (Int32 × Mem)) (x1 : Int32) (x2 : Int32) (x3 : Int32) (M : Mem) : Option (Int32 × Mem) :=
  if 114 ≤ x3 then
    if x2 = 0 then
      gd (inb x1 2) <|
      bnd (setI M 343 (x1.toNatClampNeg) (vp_nar .boolean 1)) fun M1m =>
      some (1, M1m)
    else
      bnd (setI M 311 40 0) fun M2m =>
      some (1, M2m)
  else
    if x2 = 0 then
      gd (inb x3 114) <|
      gd (inb ((114 * x1) + x3) 228) <|
      bnd (setI M 342 (((114 * x1) + x3).toNatClampNeg) (M.1 340 x3.toNatClampNeg)) fun M3m =>
      bnd (x3 + 1) fun a1 =>
      rec32 x1 x2 a1 M3m
    else
      gd (inb ((114 * x1) + x3) 228) <|
      gd (inb x3 114) <|
      bnd (setI M 340 (x3.toNatClampNeg) (M.1 342 ((114 * x1) + x3).toNatClampNeg)) fun M4m =>
      bnd (x3 + 1) fun a2 =>
      rec32 x1 x2 a2 M4m
def f_X11_keep_b32 (k : Nat) : Int32 → Int32 → Int32 → Mem → Option (Int32 × Mem) := lpN (fun _ _ _ _ => none) (f_X11_keep_b32_s) k
def f_X11_keep (x1 : Int32) (x2 : Int32) (M : Mem) : Option (Int32 × Mem) :=
  bnd (setI M 311 0 0) fun M1m =>
  cl (f_X11_within (x1.toInt64) 0 1 M1m) fun r1 M2m =>
  if r1 = 0 then
    some (0, M2m)
  else
    if x2 = 0 then
      f_X11_keep_b32 fuel x1 x2 0 M2m
    else
      gd (inb x1 2) <|
      if (M2m.1 343 x1.toNatClampNeg) = 0 then
        some (0, M2m)
      else
        f_X11_keep_b32 fuel x1 x2 0 M2m
def f_X11_count (x1 : Int32) (M : Mem) : Option (Int32 × Mem) :=
  bnd (setI M 311 0 0) fun M1m =>
  if x1 = 0 then
    some (M1m.1 313 0, M1m)
  else
  if x1 = 1 then
    some (M1m.1 313 5, M1m)
  else
  if x1 = 2 then
    some (M1m.1 313 1, M1m)
  else
  if x1 = 3 then
    some (M1m.1 313 2, M1m)
  else
  if x1 = 4 then
    some (M1m.1 313 3, M1m)
  else
  if x1 = 5 then
    some (M1m.1 313 4, M1m)
  else
  if x1 = 6 then
    some (M1m.1 340 0, M1m)
  else
  if x1 = 7 then
    some (M1m.1 340 49, M1m)
  else
  if x1 = 8 then
    some (M1m.1 311 40, M1m)
  else
  if x1 = 9 then
    some (M1m.1 311 2, M1m)
  else
  if x1 = 10 then
    some (M1m.1 311 46, M1m)
  else
  if x1 = 11 then
    gd (inb (x1 - 11) 8) <|
    some (M1m.1 314 (x1 - 11).toNatClampNeg, M1m)
  else
  if x1 = 12 then
    gd (inb (x1 - 11) 8) <|
    some (M1m.1 314 (x1 - 11).toNatClampNeg, M1m)
  else
  if x1 = 13 then
    gd (inb (x1 - 11) 8) <|
    some (M1m.1 314 (x1 - 11).toNatClampNeg, M1m)
  else
  if x1 = 14 then
    gd (inb (x1 - 11) 8) <|
    some (M1m.1 314 (x1 - 11).toNatClampNeg, M1m)
  else
    some ((-1), M1m)
def f_X7_isDigit (x0 : Int32) (M : Mem) : Option (Int32 × Mem) :=
  if x0 < 48 then
    some (0, M)
  else
    if 57 < x0 then
      some (0, M)
    else
      some (1, M)
def f_X7_isLetter (x0 : Int32) (M : Mem) : Option (Int32 × Mem) :=
  if x0 < 97 then
    some (0, M)
  else
    if 122 < x0 then
      some (0, M)
    else
      some (1, M)
def f_X7_scanNumber_b106 (ns1 : Nat) (M : Mem) : Option Mem :=
  bnd (setR M 208 4 ns1) fun M1m =>
  some M1m
def f_X7_scanNumber_b83 (M : Mem) : Option Mem :=
  if 4 < ((M.1 208 3) - (M.1 208 5)) then
    f_X7_scanNumber_b106 2 M
  else
    f_X7_scanNumber_b106 4 M
def f_X7_scanNumber_b67 (rec0 : Mem → Option Mem) (xs1 : Int32) (M : Mem) : Option Mem :=
  bnd (setI M 208 6 xs1) fun M1m =>
  bnd (setI M1m 208 3 ((M1m.1 208 3) + 1)) fun M2m =>
  rec0 M2m
def f_X7_scanNumber_b0_s (rec0 : Mem → Option Mem) (M : Mem) : Option Mem :=
  if (M.1 208 2) ≤ (M.1 208 3) then
    f_X7_scanNumber_b83 M
  else
    gd (inb (M.1 208 3) 600) <|
    cl (f_X7_isDigit (M.1 65 (M.1 208 3).toNatClampNeg) M) fun r1 M1m =>
    if r1 = 0 then
      f_X7_scanNumber_b83 M1m
    else
      if 4 ≤ ((M1m.1 208 3) - (M1m.1 208 5)) then
        f_X7_scanNumber_b67 rec0 (M1m.1 208 6) M1m
      else
        gd (inb (M1m.1 208 3) 600) <|
        f_X7_scanNumber_b67 rec0 ((((M1m.1 208 6) * 10) + (M1m.1 65 (M1m.1 208 3).toNatClampNeg)) - 48) M1m
def f_X7_scanNumber_b0 (k : Nat) : Mem → Option Mem := lpN (fun _ => none) (f_X7_scanNumber_b0_s) k
def f_X7_scanNumber (M : Mem) : Option Mem :=
  f_X7_scanNumber_b0 fuel M
def f_X8_ofWord_b2_s (rec2 : Int32 → Int32 → Mem → Option (Nat × Mem)) (x0 : Int32) (x1 : Int32) (M : Mem) : Option (Nat × Mem) :=
  if 25 ≤ x1 then
    some (3, M)
  else
    gd (inb x1 25) <|
    if (tokCode (x1.toNatClampNeg + 1)) = x0 then
      some (x1.toNatClampNeg + 1, M)
    else
      bnd (x1 + 1) fun a1 =>
      rec2 x0 a1 M
def f_X8_ofWord_b2 (k : Nat) : Int32 → Int32 → Mem → Option (Nat × Mem) := lpN (fun _ _ _ => none) (f_X8_ofWord_b2_s) k
def f_X8_ofWord (x0 : Int32) (M : Mem) : Option (Nat × Mem) :=
  f_X8_ofWord_b2 fuel x0 0 M
def f_X8_withLetter (x0 : Int32) (x1 : Int32) (M : Mem) : Option (Int32 × Mem) :=
  some ((((x0 * 32) + x1) - 97) + 1, M)
def f_X7_scanWord_b108 (ns1 : Nat) (M : Mem) : Option Mem :=
  bnd (setR M 208 4 ns1) fun M1m =>
  some M1m
def f_X7_scanWord_b80 (M : Mem) : Option Mem :=
  if 6 < ((M.1 208 3) - (M.1 208 5)) then
    f_X7_scanWord_b108 2 M
  else
    cl (f_X8_ofWord (M.1 208 6) M) fun o1 M1m =>
    f_X7_scanWord_b108 o1 M1m
def f_X7_scanWord_b64 (rec0 : Mem → Option Mem) (xs1 : Int32) (M : Mem) : Option Mem :=
  bnd (setI M 208 6 xs1) fun M1m =>
  bnd (setI M1m 208 3 ((M1m.1 208 3) + 1)) fun M2m =>
  rec0 M2m
def f_X7_scanWord_b0_s (rec0 : Mem → Option Mem) (M : Mem) : Option Mem :=
  if (M.1 208 2) ≤ (M.1 208 3) then
    f_X7_scanWord_b80 M
  else
    gd (inb (M.1 208 3) 600) <|
    cl (f_X7_isLetter (M.1 65 (M.1 208 3).toNatClampNeg) M) fun r1 M1m =>
    if r1 = 0 then
      f_X7_scanWord_b80 M1m
    else
      if 6 ≤ ((M1m.1 208 3) - (M1m.1 208 5)) then
        f_X7_scanWord_b64 rec0 (M1m.1 208 6) M1m
      else
        gd (inb (M1m.1 208 3) 600) <|
        cl (f_X8_withLetter (M1m.1 208 6) (M1m.1 65 (M1m.1 208 3).toNatClampNeg) M1m) fun r2 M2m =>
        f_X7_scanWord_b64 rec0 r2 M2m
def f_X7_scanWord_b0 (k : Nat) : Mem → Option Mem := lpN (fun _ => none) (f_X7_scanWord_b0_s) k
def f_X7_scanWord (M : Mem) : Option Mem :=
  f_X7_scanWord_b0 fuel M
def f_X8_ofSign (x0 : Int32) (M : Mem) : Option (Nat × Mem) :=
  if x0 = 33 then
    some (8, M)
  else
  if x0 = 40 then
    some (6, M)
  else
  if x0 = 41 then
    some (7, M)
  else
  if x0 = 59 then
    some (5, M)
  else
  if x0 = 63 then
    some (9, M)
  else
    some (2, M)
def f_X7_advance_b52 (M : Mem) : Option Mem :=
  bnd (setI M 208 5 (M.1 208 3)) fun M1m =>
  bnd (setI M1m 208 6 0) fun M2m =>
  if (M2m.1 208 3) < (M2m.1 208 2) then
    gd (inb (M2m.1 208 3) 600) <|
    cl (f_X7_isDigit (M2m.1 65 (M2m.1 208 3).toNatClampNeg) M2m) fun r1 M3m =>
    if r1 = 0 then
      gd (inb (M3m.1 208 3) 600) <|
      cl (f_X7_isLetter (M3m.1 65 (M3m.1 208 3).toNatClampNeg) M3m) fun r2 M4m =>
      if r2 = 0 then
        gd (inb (M4m.1 208 3) 600) <|
        cl (f_X8_ofSign (M4m.1 65 (M4m.1 208 3).toNatClampNeg) M4m) fun o1 M5m =>
        bnd (setR M5m 208 4 o1) fun M6m =>
        bnd (setI M6m 208 3 ((M6m.1 208 3) + 1)) fun M7m =>
        some M7m
      else
        clv (f_X7_scanWord M4m) fun M8m =>
        some M8m
    else
      clv (f_X7_scanNumber M3m) fun M9m =>
      some M9m
  else
    bnd (setR M2m 208 4 1) fun M10m =>
    some M10m
def f_X7_advance_b39 (rec0 : Mem → Option Mem) (M : Mem) : Option Mem :=
  bnd (setI M 208 3 ((M.1 208 3) + 1)) fun M1m =>
  rec0 M1m
def f_X7_advance_b0_s (rec0 : Mem → Option Mem) (M : Mem) : Option Mem :=
  if (M.1 208 2) ≤ (M.1 208 3) then
    f_X7_advance_b52 M
  else
    gd (inb (M.1 208 3) 600) <|
    if (M.1 65 (M.1 208 3).toNatClampNeg) = 32 then
      f_X7_advance_b39 rec0 M
    else
      if (M.1 65 (M.1 208 3).toNatClampNeg) = 10 then
        f_X7_advance_b39 rec0 M
      else
        f_X7_advance_b52 M
def f_X7_advance_b0 (k : Nat) : Mem → Option Mem := lpN (fun _ => none) (f_X7_advance_b0_s) k
def f_X7_advance (M : Mem) : Option Mem :=
  f_X7_advance_b0 fuel M
def f_X7_begin (n1 : Nat) (x2 : Int32) (M : Mem) : Option Mem :=
  gd (shc n1 = 8) <|
  clv (f_X9_clear n1 M) fun M1m =>
  bnd (setR M1m 208 1 n1) fun M2m =>
  bnd (setI M2m 208 2 (min32 x2 600)) fun M3m =>
  bnd (setI M3m 208 3 0) fun M4m =>
  bnd (setI M4m 208 9 0) fun M5m =>
  bnd (setI M5m 208 13 0) fun M6m =>
  clv (f_X7_advance M6m) fun M7m =>
  some M7m
def f_X7_fail (x1 : Int32) (M : Mem) : Option (Int32 × Mem) :=
  bnd (setI M 208 8 ((8 * (M.1 208 5)) + x1)) fun M1m =>
  some (0, M1m)
def f_X7_take (n1 : Nat) (M : Mem) : Option (Int32 × Mem) :=
  gd ((M.2.2.1 208 4) < 26) <|
  gd (n1 < 26) <|
  if (M.2.2.1 208 4) = n1 then
    clv (f_X7_advance M) fun M1m =>
    some (1, M1m)
  else
    cl (f_X7_fail 1 M) fun r1 M2m =>
    gd (vp_nar .boolean r1 = r1) <|
    some (r1, M2m)
def f_X7_skip_b13 (xs0 : Int32) (M : Mem) : Option (Int32 × Mem) :=
  if xs0 = 0 then
    gd (vp_nar .boolean xs0 = xs0) <|
    some (xs0, M)
  else
    clv (f_X7_advance M) fun M1m =>
    gd (vp_nar .boolean xs0 = xs0) <|
    some (xs0, M1m)
def f_X7_skip (n1 : Nat) (M : Mem) : Option (Int32 × Mem) :=
  gd ((M.2.2.1 208 4) < 26) <|
  gd (n1 < 26) <|
  if (M.2.2.1 208 4) = n1 then
    f_X7_skip_b13 1 M
  else
    f_X7_skip_b13 0 M
def f_X7_takeNumber_b32 (M : Mem) : Option (Int32 × Mem) :=
  cl (f_X7_fail 3 M) fun r1 M1m =>
  gd (vp_nar .boolean r1 = r1) <|
  some (r1, M1m)
def f_X7_takeNumber (x1 : Int32) (x2 : Int32) (M : Mem) : Option (Int32 × Mem) :=
  gd ((M.2.2.1 208 4) < 26) <|
  if (M.2.2.1 208 4) = 4 then
    if (M.1 208 6) < x1 then
      f_X7_takeNumber_b32 M
    else
      if (M.1 208 6) ≤ x2 then
        bnd (setI M 208 7 (M.1 208 6)) fun M1m =>
        clv (f_X7_advance M1m) fun M2m =>
        some (1, M2m)
      else
        f_X7_takeNumber_b32 M
  else
    cl (f_X7_fail 1 M) fun r1 M3m =>
    gd (vp_nar .boolean r1 = r1) <|
    some (r1, M3m)
def f_X7_takeMark_b35 (M : Mem) : Option (Int32 × Mem) :=
  cl (f_X7_fail 3 M) fun r1 M1m =>
  gd (vp_nar .boolean r1 = r1) <|
  some (r1, M1m)
def f_X7_takeMark (x1 : Int32) (M : Mem) : Option (Int32 × Mem) :=
  gd ((M.2.2.1 208 4) < 26) <|
  if (M.2.2.1 208 4) = 4 then
    if 4 ≤ (M.1 208 6) then
      f_X7_takeMark_b35 M
    else
      if ((x1 >>> ((M.1 208 6) &&& 31)) &&& 1) = 0 then
        bnd (setI M 208 7 (M.1 208 6)) fun M1m =>
        clv (f_X7_advance M1m) fun M2m =>
        some (1, M2m)
      else
        f_X7_takeMark_b35 M
  else
    cl (f_X7_fail 1 M) fun r1 M3m =>
    gd (vp_nar .boolean r1 = r1) <|
    some (r1, M3m)
def f_X7_giveName_b103 (M : Mem) : Option (Int32 × Mem) :=
  clv (f_X7_advance M) fun M1m =>
  some (1, M1m)
def f_X7_giveName_b18_s (rec18 : Nat → Int32 → Int32 → Mem → Option (Int32 × Mem)) (n1 : Nat) (x2 : Int32) (x3 : Int32) (M : Mem) : Option (Int32 × Mem) :=
  if (M.1 208 9) ≤ x3 then
    if 25 ≤ (M.1 208 9) then
      f_X7_giveName_b103 M
    else
      gd (inb (M.1 208 9) 25) <|
      bnd (setI M 209 ((M.1 208 9).toNatClampNeg) (M.1 208 6)) fun M1m =>
      gd (0 < n1 ∧ n1 < 26) <|
      gd (inb (M1m.1 208 9) 25) <|
      bnd (setR M1m 210 ((M1m.1 208 9).toNatClampNeg) n1) fun M2m =>
      gd (inb (M2m.1 208 9) 25) <|
      bnd (setI M2m 211 ((M2m.1 208 9).toNatClampNeg) x2) fun M3m =>
      bnd (setI M3m 208 9 ((M3m.1 208 9) + 1)) fun M4m =>
      f_X7_giveName_b103 M4m
  else
    gd (inb x3 25) <|
    if (M.1 209 x3.toNatClampNeg) = (M.1 208 6) then
      cl (f_X7_fail 2 M) fun r1 M5m =>
      gd (vp_nar .boolean r1 = r1) <|
      some (r1, M5m)
    else
      bnd (x3 + 1) fun a1 =>
      rec18 n1 x2 a1 M
def f_X7_giveName_b18 (k : Nat) : Nat → Int32 → Int32 → Mem → Option (Int32 × Mem) := lpN (fun _ _ _ _ => none) (f_X7_giveName_b18_s) k
def f_X7_giveName (n1 : Nat) (x2 : Int32) (M : Mem) : Option (Int32 × Mem) :=
  gd ((M.2.2.1 208 4) < 26) <|
  if (M.2.2.1 208 4) = 3 then
    f_X7_giveName_b18 fuel n1 x2 0 M
  else
    cl (f_X7_fail 1 M) fun r1 M1m =>
    gd (vp_nar .boolean r1 = r1) <|
    some (r1, M1m)
def f_X7_findName_b20_s (rec20 : Nat → Int32 → Int32 → Mem → Option (Int32 × Mem)) (n1 : Nat) (x2 : Int32) (x3 : Int32) (M : Mem) : Option (Int32 × Mem) :=
  if (M.1 208 9) ≤ x3 then
    cl (f_X7_fail 4 M) fun r1 M1m =>
    some ((-1), M1m)
  else
    gd (inb x3 25) <|
    if (M.1 209 x3.toNatClampNeg) = (M.1 208 6) then
      gd ((M.2.2.1 210 x3.toNatClampNeg) < 26) <|
      gd (n1 < 26) <|
      if (M.2.2.1 210 x3.toNatClampNeg) = n1 then
        if (M.1 211 x3.toNatClampNeg) = x2 then
          bnd (x3 + 1) fun a1 =>
          rec20 n1 x2 a1 M
        else
          some (M.1 211 x3.toNatClampNeg, M)
      else
        bnd (x3 + 1) fun a2 =>
        rec20 n1 x2 a2 M
    else
      bnd (x3 + 1) fun a3 =>
      rec20 n1 x2 a3 M
def f_X7_findName_b20 (k : Nat) : Nat → Int32 → Int32 → Mem → Option (Int32 × Mem) := lpN (fun _ _ _ _ => none) (f_X7_findName_b20_s) k
def f_X7_findName (n1 : Nat) (x2 : Int32) (M : Mem) : Option (Int32 × Mem) :=
  gd ((M.2.2.1 208 4) < 26) <|
  if (M.2.2.1 208 4) = 3 then
    f_X7_findName_b20 fuel n1 x2 0 M
  else
    cl (f_X7_fail 1 M) fun r1 M1m =>
    some ((-1), M1m)
def f_X7_takeName (n1 : Nat) (x2 : Int32) (M : Mem) : Option (Int32 × Mem) :=
  cl (f_X7_findName n1 x2 M) fun r1 M1m =>
  if r1 = (-1) then
    some (r1, M1m)
  else
    clv (f_X7_advance M1m) fun M2m =>
    some (r1, M2m)
def f_X7_roomForSetting (x1 : Int32) (M : Mem) : Option (Int32 × Mem) :=
  some (1 - (((M.1 208 13) >>> (x1 &&& 31)) &&& 1), M)
def f_X7_roomFor (n1 : Nat) (M : Mem) : Option (Int32 × Mem) :=
  gd (0 < n1 ∧ n1 < 26) <|
  gd (inb (Int32.ofNat (n1 - 1)) 25) <|
  if (swm (Int32.ofNat (n1 - 1)).toNatClampNeg) = 1 then
    gd (shc (M.2.2.1 208 1) = 8) <|
    some (5 - (M.1 (M.2.2.1 208 1) 0), M)
  else
  if (swm (Int32.ofNat (n1 - 1)).toNatClampNeg) = 2 then
    gd (shc (M.2.2.1 208 1) = 8) <|
    some (6 - (M.1 (M.2.2.1 208 1) 3), M)
  else
  if (swm (Int32.ofNat (n1 - 1)).toNatClampNeg) = 3 then
    gd (shc (M.2.2.1 208 1) = 8) <|
    some (4 - (M.1 (M.2.2.1 208 1) 5), M)
  else
  if (swm (Int32.ofNat (n1 - 1)).toNatClampNeg) = 4 then
    gd (shc (M.2.2.1 208 1) = 8) <|
    some (5 - (M.1 (M.2.2.1 208 1) 7), M)
  else
  if (swm (Int32.ofNat (n1 - 1)).toNatClampNeg) = 5 then
    gd (shc (M.2.2.1 208 1) = 8) <|
    some (3 - (M.1 (M.2.2.1 208 1) 9), M)
  else
  if (swm (Int32.ofNat (n1 - 1)).toNatClampNeg) = 6 then
    gd (shc (M.2.2.1 208 1) = 8) <|
    some (8 - (M.1 (M.2.2.1 208 1) 11), M)
  else
  if (swm (Int32.ofNat (n1 - 1)).toNatClampNeg) = 7 then
    cl (f_X7_roomForSetting 0 M) fun r1 M1m =>
    some (r1, M1m)
  else
  if (swm (Int32.ofNat (n1 - 1)).toNatClampNeg) = 8 then
    cl (f_X7_roomForSetting 1 M) fun r2 M2m =>
    some (r2, M2m)
  else
  if (swm (Int32.ofNat (n1 - 1)).toNatClampNeg) = 9 then
    cl (f_X7_roomForSetting 2 M) fun r3 M3m =>
    some (r3, M3m)
  else
  if (swm (Int32.ofNat (n1 - 1)).toNatClampNeg) = 10 then
    cl (f_X7_roomForSetting 3 M) fun r4 M4m =>
    some (r4, M4m)
  else
    some ((-1), M)
def f_X7_startLine_b21 (xs1 : Int32) (M : Mem) : Option (Int32 × Mem) :=
  cl (f_X7_fail xs1 M) fun r1 M1m =>
  gd (vp_nar .boolean r1 = r1) <|
  some (r1, M1m)
def f_X7_startLine (n1 : Nat) (M : Mem) : Option (Int32 × Mem) :=
  cl (f_X7_roomFor n1 M) fun r1 M1m =>
  if 0 < r1 then
    clv (f_X7_advance M1m) fun M2m =>
    some (1, M2m)
  else
    if r1 = (-1) then
      f_X7_startLine_b21 1 M1m
    else
      f_X7_startLine_b21 5 M1m
def f_X7_tellMember_b56 (n1 : Nat) (x2 : Int32) (M : Mem) : Option (Int32 × Mem) :=
  gd (shc n1 = 1) <|
  gd (inb (M.1 n1 1) 7) <|
  bnd (setI M (cr n1 2) ((M.1 n1 1).toNatClampNeg) x2) fun M1m =>
  bnd (setI M1m n1 1 ((M1m.1 n1 1) + 1)) fun M2m =>
  cl (f_X7_take 7 M2m) fun r1 M3m =>
  gd (vp_nar .boolean r1 = r1) <|
  some (r1, M3m)
def f_X7_tellMember_b25 (rec4 : Nat → Int32 → Int32 → Mem → Option (Int32 × Mem)) (n1 : Nat) (x2 : Int32) (x3 : Int32) (M : Mem) : Option (Int32 × Mem) :=
  cl (f_X7_takeName 10 (-1) M) fun r1 M1m =>
  if r1 = (-1) then
    some (0, M1m)
  else
    bnd (x2 ||| ((1 : Int32) <<< (r1 &&& 31))) fun a1 =>
    bnd (x3 + 1) fun a2 =>
    rec4 n1 a1 a2 M1m
def f_X7_tellMember_b4_s (rec4 : Nat → Int32 → Int32 → Mem → Option (Int32 × Mem)) (n1 : Nat) (x2 : Int32) (x3 : Int32) (M : Mem) : Option (Int32 × Mem) :=
  if 600 ≤ x3 then
    f_X7_tellMember_b56 n1 x2 M
  else
    if x3 = 0 then
      f_X7_tellMember_b25 rec4 n1 x2 x3 M
    else
      gd ((M.2.2.1 208 4) < 26) <|
      if (M.2.2.1 208 4) = 7 then
        f_X7_tellMember_b56 n1 x2 M
      else
        f_X7_tellMember_b25 rec4 n1 x2 x3 M
def f_X7_tellMember_b4 (k : Nat) : Nat → Int32 → Int32 → Mem → Option (Int32 × Mem) := lpN (fun _ _ _ _ => none) (f_X7_tellMember_b4_s) k
def f_X7_tellMember (n1 : Nat) (M : Mem) : Option (Int32 × Mem) :=
  f_X7_tellMember_b4 fuel n1 0 0 M
def f_X7_tellBoard_b124 (M : Mem) : Option (Int32 × Mem) :=
  gd (shc (M.2.2.1 208 1) = 8) <|
  bnd (setI M (M.2.2.1 208 1) 9 ((M.1 (M.2.2.1 208 1) 9) + 1)) fun M1m =>
  some (1, M1m)
def f_X7_tellBoard_b76_s (rec76 : Nat → Int32 → Mem → Option (Int32 × Mem)) (n1 : Nat) (x2 : Int32) (M : Mem) : Option (Int32 × Mem) :=
  if 7 < x2 then
    f_X7_tellBoard_b124 M
  else
    gd ((M.2.2.1 208 4) < 26) <|
    if (M.2.2.1 208 4) = 6 then
      if x2 = 7 then
        cl (f_X7_fail 5 M) fun r1 M1m =>
        gd (vp_nar .boolean r1 = r1) <|
        some (r1, M1m)
      else
        clv (f_X7_advance M) fun M2m =>
        cl (f_X7_tellMember n1 M2m) fun r2 M3m =>
        if r2 = 0 then
          some (0, M3m)
        else
          bnd (x2 + 1) fun a1 =>
          rec76 n1 a1 M3m
    else
      f_X7_tellBoard_b124 M
def f_X7_tellBoard_b76 (k : Nat) : Nat → Int32 → Mem → Option (Int32 × Mem) := lpN (fun _ _ _ => none) (f_X7_tellBoard_b76_s) k
def f_X7_tellBoard (M : Mem) : Option (Int32 × Mem) :=
  gd (shc (M.2.2.1 208 1) = 8) <|
  gd (inb (M.1 (M.2.2.1 208 1) 9) 3) <|
  bnd (cr (cr (M.2.2.1 208 1) 10) (M.1 (M.2.2.1 208 1) 9).toNatClampNeg) fun o1 =>
  cl (f_X7_giveName 14 (M.1 (M.2.2.1 208 1) 9) M) fun r1 M1m =>
  if r1 = 0 then
    some (0, M1m)
  else
    cl (f_X7_takeNumber 1 9 M1m) fun r2 M2m =>
    if r2 = 0 then
      some (0, M2m)
    else
      bnd (setI M2m o1 0 (M2m.1 208 7)) fun M3m =>
      bnd (setI M3m o1 1 0) fun M4m =>
      gd ((M4m.2.2.1 208 4) < 26) <|
      if (M4m.2.2.1 208 4) = 6 then
        f_X7_tellBoard_b76 fuel o1 0 M4m
      else
        cl (f_X7_fail 1 M4m) fun r3 M5m =>
        gd (vp_nar .boolean r3 = r3) <|
        some (r3, M5m)
def f_X7_tellCamera (M : Mem) : Option (Int32 × Mem) :=
  gd (shc (M.2.2.1 208 1) = 8) <|
  bnd (M.1 (M.2.2.1 208 1) 0) fun a1 =>
  cl (f_X7_giveName 10 a1 M) fun r1 M1m =>
  if r1 = 0 then
    some (0, M1m)
  else
    cl (f_X7_takeNumber 0 999 M1m) fun r2 M2m =>
    if r2 = 0 then
      some (0, M2m)
    else
      gd (shc (M2m.2.2.1 208 1) = 8) <|
      gd (inb a1 5) <|
      bnd (setI M2m (cr (M2m.2.2.1 208 1) 1) (a1.toNatClampNeg) (M2m.1 208 7)) fun M3m =>
      cl (f_X7_takeNumber (M3m.1 208 7) 999 M3m) fun r3 M4m =>
      if r3 = 0 then
        some (0, M4m)
      else
        gd (shc (M4m.2.2.1 208 1) = 8) <|
        bnd (setI M4m (cr (M4m.2.2.1 208 1) 2) (a1.toNatClampNeg) (M4m.1 208 7)) fun M5m =>
        gd (shc (M5m.2.2.1 208 1) = 8) <|
        clv (f_X2_tellLate (cr (M5m.2.2.1 208 1) 4) a1 (M5m.1 (cr (M5m.2.2.1 208 1) 1) a1.toNatClampNeg) (M5m.1 208 7) M5m) fun M6m =>
        gd (shc (M6m.2.2.1 208 1) = 8) <|
        bnd (setI M6m (M6m.2.2.1 208 1) 0 ((M6m.1 (M6m.2.2.1 208 1) 0) + 1)) fun M7m =>
        some (1, M7m)
def f_X7_tellFlash (M : Mem) : Option (Int32 × Mem) :=
  cl (f_X7_takeName 10 (-1) M) fun r1 M1m =>
  if r1 = (-1) then
    some (0, M1m)
  else
    cl (f_X7_takeNumber 0 999 M1m) fun r2 M2m =>
    if r2 = 0 then
      some (0, M2m)
    else
      bnd (M2m.1 208 7) fun a1 =>
      cl (f_X7_takeName 10 r1 M2m) fun r3 M3m =>
      if r3 = (-1) then
        some (0, M3m)
      else
        cl (f_X7_takeNumber 0 999 M3m) fun r4 M4m =>
        if r4 = 0 then
          some (0, M4m)
        else
          gd (shc (M4m.2.2.1 208 1) = 8) <|
          clv (f_X2_tellFlash (cr (M4m.2.2.1 208 1) 4) r1 a1 r3 (M4m.1 208 7) M4m) fun M5m =>
          gd (shc (M5m.2.2.1 208 1) = 8) <|
          bnd (setI M5m (M5m.2.2.1 208 1) 3 ((M5m.1 (M5m.2.2.1 208 1) 3) + 1)) fun M6m =>
          some (1, M6m)
def f_X7_tellPair (n1 : Nat) (M : Mem) : Option (Int32 × Mem) :=
  cl (f_X7_takeMark 0 M) fun r1 M1m =>
  if r1 = 0 then
    some (0, M1m)
  else
    bnd (M1m.1 208 7) fun a1 =>
    cl (f_X7_take 22 M1m) fun r2 M2m =>
    if r2 = 0 then
      some (0, M2m)
    else
      cl (f_X7_takeMark ((1 : Int32) <<< (a1 &&& 31)) M2m) fun r3 M3m =>
      if r3 = 0 then
        some (0, M3m)
      else
        gd (shc n1 = 5) <|
        gd (inb (M3m.1 n1 3) 3) <|
        bnd (setI M3m (cr n1 4) ((M3m.1 n1 3).toNatClampNeg) a1) fun M4m =>
        gd (inb (M4m.1 n1 3) 3) <|
        bnd (setI M4m (cr n1 5) ((M4m.1 n1 3).toNatClampNeg) (M4m.1 208 7)) fun M5m =>
        bnd (setI M5m n1 3 ((M5m.1 n1 3) + 1)) fun M6m =>
        some (1, M6m)
def f_X7_tellKind_b141 (M : Mem) : Option (Int32 × Mem) :=
  gd (shc (M.2.2.1 208 1) = 8) <|
  bnd (setI M (M.2.2.1 208 1) 7 ((M.1 (M.2.2.1 208 1) 7) + 1)) fun M1m =>
  some (1, M1m)
def f_X7_tellKind_b92_s (rec92 : Nat → Int32 → Mem → Option (Int32 × Mem)) (n1 : Nat) (x2 : Int32) (M : Mem) : Option (Int32 × Mem) :=
  if 3 ≤ x2 then
    f_X7_tellKind_b141 M
  else
    gd ((M.2.2.1 208 4) < 26) <|
    if (M.2.2.1 208 4) = 23 then
      gd (shc n1 = 5) <|
      if (M.1 n1 3) = 3 then
        cl (f_X7_fail 5 M) fun r1 M1m =>
        gd (vp_nar .boolean r1 = r1) <|
        some (r1, M1m)
      else
        clv (f_X7_advance M) fun M2m =>
        cl (f_X7_tellPair n1 M2m) fun r2 M3m =>
        if r2 = 0 then
          some (0, M3m)
        else
          bnd (x2 + 1) fun a1 =>
          rec92 n1 a1 M3m
    else
      f_X7_tellKind_b141 M
def f_X7_tellKind_b92 (k : Nat) : Nat → Int32 → Mem → Option (Int32 × Mem) := lpN (fun _ _ _ => none) (f_X7_tellKind_b92_s) k
def f_X7_tellKind (M : Mem) : Option (Int32 × Mem) :=
  gd (shc (M.2.2.1 208 1) = 8) <|
  gd (inb (M.1 (M.2.2.1 208 1) 7) 5) <|
  bnd (cr (cr (M.2.2.1 208 1) 8) (M.1 (M.2.2.1 208 1) 7).toNatClampNeg) fun o1 =>
  cl (f_X7_giveName 13 (M.1 (M.2.2.1 208 1) 7) M) fun r1 M1m =>
  if r1 = 0 then
    some (0, M1m)
  else
    cl (f_X7_takeNumber 1 60 M1m) fun r2 M2m =>
    if r2 = 0 then
      some (0, M2m)
    else
      bnd (setI M2m o1 0 (M2m.1 208 7)) fun M3m =>
      cl (f_X7_skip 20 M3m) fun r3 M4m =>
      gd (vp_nar .boolean r3 = r3) <|
      bnd (setI M4m o1 1 r3) fun M5m =>
      cl (f_X7_skip 21 M5m) fun r4 M6m =>
      gd (vp_nar .boolean r4 = r4) <|
      bnd (setI M6m o1 2 r4) fun M7m =>
      bnd (setI M7m o1 3 0) fun M8m =>
      cl (f_X7_tellPair o1 M8m) fun r5 M9m =>
      if r5 = 0 then
        some (0, M9m)
      else
        f_X7_tellKind_b92 fuel o1 0 M9m
def f_X7_tellFrame_b212 (rec97 : Nat → Int32 → Int32 → Mem → Option (Int32 × Mem)) (n1 : Nat) (x3 : Int32) (x4 : Int32) (ns0 : Nat) (xs1 : Int32) (xs2 : Int32) (xs3 : Int32) (M : Mem) : Option (Int32 × Mem) :=
  gd (shc ns0 = 20) <|
  gd (inb xs1 (shl ns0)) <|
  bnd (setI M ns0 (xs1.toNatClampNeg) (xs2 ||| xs3)) fun M1m =>
  bnd (x4 + 1) fun a1 =>
  rec97 n1 x3 a1 M1m
def f_X7_tellFrame_b188 (rec97 : Nat → Int32 → Int32 → Mem → Option (Int32 × Mem)) (n1 : Nat) (x3 : Int32) (x4 : Int32) (x5 : Int32) (ns0 : Nat) (xs1 : Int32) (xs2 : Int32) (xs3 : Int32) (M : Mem) : Option (Int32 × Mem) :=
  gd (shc ns0 = 20) <|
  gd (inb xs1 (shl ns0)) <|
  bnd (setI M ns0 (xs1.toNatClampNeg) (xs2 ||| xs3)) fun M1m =>
  gd (shc n1 = 6) <|
  gd (inb x3 10) <|
  if x5 = 0 then
    f_X7_tellFrame_b212 rec97 n1 x3 x4 (cr n1 9) x3 (M1m.1 (cr n1 9) x3.toNatClampNeg) ((1 : Int32) <<< ((M1m.1 208 7) &&& 31)) M1m
  else
    f_X7_tellFrame_b212 rec97 n1 x3 x4 (cr n1 9) x3 (M1m.1 (cr n1 9) x3.toNatClampNeg) 0 M1m
def f_X7_tellFrame_b138 (rec97 : Nat → Int32 → Int32 → Mem → Option (Int32 × Mem)) (n1 : Nat) (x3 : Int32) (x4 : Int32) (xs0 : Int32) (M : Mem) : Option (Int32 × Mem) :=
  clv (f_X7_advance M) fun M1m =>
  gd (shc n1 = 6) <|
  gd (inb x3 10) <|
  cl (f_X7_takeMark ((M1m.1 (cr n1 8) x3.toNatClampNeg) ||| (M1m.1 (cr n1 9) x3.toNatClampNeg)) M1m) fun r1 M2m =>
  if r1 = 0 then
    some (0, M2m)
  else
    if xs0 = 0 then
      f_X7_tellFrame_b188 rec97 n1 x3 x4 xs0 (cr n1 8) x3 (M2m.1 (cr n1 8) x3.toNatClampNeg) 0 M2m
    else
      f_X7_tellFrame_b188 rec97 n1 x3 x4 xs0 (cr n1 8) x3 (M2m.1 (cr n1 8) x3.toNatClampNeg) ((1 : Int32) <<< ((M2m.1 208 7) &&& 31)) M2m
def f_X7_tellFrame_b123 (rec97 : Nat → Int32 → Int32 → Mem → Option (Int32 × Mem)) (n1 : Nat) (x3 : Int32) (x4 : Int32) (M : Mem) : Option (Int32 × Mem) :=
  gd ((M.2.2.1 208 4) < 26) <|
  if (M.2.2.1 208 4) = 8 then
    f_X7_tellFrame_b138 rec97 n1 x3 x4 1 M
  else
    f_X7_tellFrame_b138 rec97 n1 x3 x4 0 M
def f_X7_tellFrame_b97_s (rec97 : Nat → Int32 → Int32 → Mem → Option (Int32 × Mem)) (n1 : Nat) (x3 : Int32) (x4 : Int32) (M : Mem) : Option (Int32 × Mem) :=
  if 4 < x4 then
    some (1, M)
  else
    gd ((M.2.2.1 208 4) < 26) <|
    if (M.2.2.1 208 4) = 8 then
      f_X7_tellFrame_b123 rec97 n1 x3 x4 M
    else
      if (M.2.2.1 208 4) = 9 then
        f_X7_tellFrame_b123 rec97 n1 x3 x4 M
      else
        some (1, M)
def f_X7_tellFrame_b97 (k : Nat) : Nat → Int32 → Int32 → Mem → Option (Int32 × Mem) := lpN (fun _ _ _ _ => none) (f_X7_tellFrame_b97_s) k
def f_X7_tellFrame (n1 : Nat) (M : Mem) : Option (Int32 × Mem) :=
  cl (f_X7_findName 10 (-1) M) fun r1 M1m =>
  if r1 = (-1) then
    some (0, M1m)
  else
    gd (shc n1 = 6) <|
    if (M1m.1 n1 5) = 10 then
      cl (f_X7_fail 5 M1m) fun r2 M2m =>
      gd (vp_nar .boolean r2 = r2) <|
      some (r2, M2m)
    else
      clv (f_X7_advance M1m) fun M3m =>
      cl (f_X7_takeNumber 0 999 M3m) fun r3 M4m =>
      if r3 = 0 then
        some (0, M4m)
      else
        bnd (M4m.1 n1 5) fun a1 =>
        gd (inb a1 10) <|
        bnd (setI M4m (cr n1 6) (a1.toNatClampNeg) r1) fun M5m =>
        bnd (setI M5m (cr n1 7) (a1.toNatClampNeg) (M5m.1 208 7)) fun M6m =>
        bnd (setI M6m (cr n1 8) (a1.toNatClampNeg) 0) fun M7m =>
        bnd (setI M7m (cr n1 9) (a1.toNatClampNeg) 0) fun M8m =>
        bnd (setI M8m n1 5 ((M8m.1 n1 5) + 1)) fun M9m =>
        f_X7_tellFrame_b97 fuel n1 a1 0 M9m
def f_X7_tellPlay_b234 (M : Mem) : Option (Int32 × Mem) :=
  gd (shc (M.2.2.1 208 1) = 8) <|
  bnd (setI M (M.2.2.1 208 1) 11 ((M.1 (M.2.2.1 208 1) 11) + 1)) fun M1m =>
  some (1, M1m)
def f_X7_tellPlay_b202_s (rec202 : Nat → Int32 → Mem → Option (Int32 × Mem)) (n1 : Nat) (x3 : Int32) (M : Mem) : Option (Int32 × Mem) :=
  if 10 < x3 then
    f_X7_tellPlay_b234 M
  else
    gd ((M.2.2.1 208 4) < 26) <|
    if (M.2.2.1 208 4) = 5 then
      f_X7_tellPlay_b234 M
    else
      cl (f_X7_tellFrame n1 M) fun r1 M1m =>
      if r1 = 0 then
        some (0, M1m)
      else
        bnd (x3 + 1) fun a1 =>
        rec202 n1 a1 M1m
def f_X7_tellPlay_b202 (k : Nat) : Nat → Int32 → Mem → Option (Int32 × Mem) := lpN (fun _ _ _ => none) (f_X7_tellPlay_b202_s) k
def f_X7_tellPlay_b192 (n1 : Nat) (ns1 : Nat) (M : Mem) : Option (Int32 × Mem) :=
  cl (f_X7_take ns1 M) fun r1 M1m =>
  if r1 = 0 then
    some (0, M1m)
  else
    f_X7_tellPlay_b202 fuel n1 0 M1m
def f_X7_tellPlay_b171 (n1 : Nat) (ns0 : Nat) (xs1 : Int32) (M : Mem) : Option (Int32 × Mem) :=
  gd (shc ns0 = 6) <|
  bnd (setI M ns0 4 xs1) fun M1m =>
  gd (shc n1 = 6) <|
  if (M1m.1 n1 4) = 1 then
    f_X7_tellPlay_b192 n1 24 M1m
  else
    f_X7_tellPlay_b192 n1 25 M1m
def f_X7_tellPlay_b54 (n1 : Nat) (xs0 : Int32) (M : Mem) : Option (Int32 × Mem) :=
  gd (shc (M.2.2.1 208 1) = 8) <|
  cl (f_X7_giveName 15 (M.1 (M.2.2.1 208 1) 11) M) fun r1 M1m =>
  if r1 = 0 then
    some (0, M1m)
  else
    cl (f_X7_takeNumber xs0 999 M1m) fun r2 M2m =>
    if r2 = 0 then
      some (0, M2m)
    else
      gd (shc n1 = 6) <|
      bnd (setI M2m n1 0 (M2m.1 208 7)) fun M3m =>
      cl (f_X7_takeName 13 (-1) M3m) fun r3 M4m =>
      bnd (setI M4m n1 1 r3) fun M5m =>
      if (M5m.1 n1 1) = (-1) then
        some (0, M5m)
      else
        cl (f_X7_takeName 12 (-1) M5m) fun r4 M6m =>
        bnd (setI M6m n1 2 r4) fun M7m =>
        if (M7m.1 n1 2) = (-1) then
          some (0, M7m)
        else
          cl (f_X7_takeNumber 0 99 M7m) fun r5 M8m =>
          if r5 = 0 then
            some (0, M8m)
          else
            bnd (setI M8m n1 3 (M8m.1 208 7)) fun M9m =>
            gd ((M9m.2.2.1 208 4) < 26) <|
            if (M9m.2.2.1 208 4) = 24 then
              f_X7_tellPlay_b171 n1 n1 1 M9m
            else
              f_X7_tellPlay_b171 n1 n1 0 M9m
def f_X7_tellPlay (M : Mem) : Option (Int32 × Mem) :=
  gd (shc (M.2.2.1 208 1) = 8) <|
  gd (inb (M.1 (M.2.2.1 208 1) 11) 8) <|
  bnd (cr (cr (M.2.2.1 208 1) 12) (M.1 (M.2.2.1 208 1) 11).toNatClampNeg) fun o1 =>
  clv (f_X6_clear o1 M) fun M1m =>
  gd (shc (M1m.2.2.1 208 1) = 8) <|
  if (M1m.1 (M1m.2.2.1 208 1) 11) = 0 then
    f_X7_tellPlay_b54 o1 0 M1m
  else
    gd (inb ((M1m.1 (M1m.2.2.1 208 1) 11) - 1) 8) <|
    f_X7_tellPlay_b54 o1 (M1m.1 (cr (cr (M1m.2.2.1 208 1) 12) ((M1m.1 (M1m.2.2.1 208 1) 11) - 1).toNatClampNeg) 0) M1m
def f_X7_tellSetting (x1 : Int32) (x2 : Int32) (M : Mem) : Option (Int32 × Mem) :=
  cl (f_X7_takeNumber 0 x2 M) fun r1 M1m =>
  if r1 = 0 then
    some (0, M1m)
  else
    gd (shc (M1m.2.2.1 208 1) = 8) <|
    gd (inb x1 4) <|
    bnd (setI M1m (cr (M1m.2.2.1 208 1) 13) (x1.toNatClampNeg) (M1m.1 208 7)) fun M2m =>
    bnd (setI M2m 208 13 ((M2m.1 208 13) ||| ((1 : Int32) <<< (x1 &&& 31)))) fun M3m =>
    some (1, M3m)
def f_X7_tellSide (M : Mem) : Option (Int32 × Mem) :=
  gd (shc (M.2.2.1 208 1) = 8) <|
  cl (f_X7_giveName 12 (M.1 (M.2.2.1 208 1) 5) M) fun r1 M1m =>
  if r1 = 0 then
    some (0, M1m)
  else
    cl (f_X7_takeNumber 0 9 M1m) fun r2 M2m =>
    if r2 = 0 then
      some (0, M2m)
    else
      gd (shc (M2m.2.2.1 208 1) = 8) <|
      gd (inb (M2m.1 (M2m.2.2.1 208 1) 5) 4) <|
      bnd (setI M2m (cr (M2m.2.2.1 208 1) 6) ((M2m.1 (M2m.2.2.1 208 1) 5).toNatClampNeg) (M2m.1 208 7)) fun M3m =>
      gd (shc (M3m.2.2.1 208 1) = 8) <|
      bnd (setI M3m (M3m.2.2.1 208 1) 5 ((M3m.1 (M3m.2.2.1 208 1) 5) + 1)) fun M4m =>
      some (1, M4m)
def f_X7_tellLine (M : Mem) : Option (Int32 × Mem) :=
  bnd (M.2.2.1 208 4) fun o1 =>
  cl (f_X7_startLine o1 M) fun r1 M1m =>
  if r1 = 0 then
    some (0, M1m)
  else
    gd (0 < o1 ∧ o1 < 26) <|
    gd (inb (Int32.ofNat (o1 - 1)) 25) <|
    if (swm (Int32.ofNat (o1 - 1)).toNatClampNeg) = 1 then
      cl (f_X7_tellCamera M1m) fun r2 M2m =>
      gd (vp_nar .boolean r2 = r2) <|
      some (r2, M2m)
    else
    if (swm (Int32.ofNat (o1 - 1)).toNatClampNeg) = 2 then
      cl (f_X7_tellFlash M1m) fun r3 M3m =>
      gd (vp_nar .boolean r3 = r3) <|
      some (r3, M3m)
    else
    if (swm (Int32.ofNat (o1 - 1)).toNatClampNeg) = 3 then
      cl (f_X7_tellSide M1m) fun r4 M4m =>
      gd (vp_nar .boolean r4 = r4) <|
      some (r4, M4m)
    else
    if (swm (Int32.ofNat (o1 - 1)).toNatClampNeg) = 4 then
      cl (f_X7_tellKind M1m) fun r5 M5m =>
      gd (vp_nar .boolean r5 = r5) <|
      some (r5, M5m)
    else
    if (swm (Int32.ofNat (o1 - 1)).toNatClampNeg) = 5 then
      cl (f_X7_tellBoard M1m) fun r6 M6m =>
      gd (vp_nar .boolean r6 = r6) <|
      some (r6, M6m)
    else
    if (swm (Int32.ofNat (o1 - 1)).toNatClampNeg) = 6 then
      cl (f_X7_tellPlay M1m) fun r7 M7m =>
      gd (vp_nar .boolean r7 = r7) <|
      some (r7, M7m)
    else
    if (swm (Int32.ofNat (o1 - 1)).toNatClampNeg) = 7 then
      cl (f_X7_tellSetting 0 999 M1m) fun r8 M8m =>
      gd (vp_nar .boolean r8 = r8) <|
      some (r8, M8m)
    else
    if (swm (Int32.ofNat (o1 - 1)).toNatClampNeg) = 8 then
      cl (f_X7_tellSetting 1 9 M1m) fun r9 M9m =>
      gd (vp_nar .boolean r9 = r9) <|
      some (r9, M9m)
    else
    if (swm (Int32.ofNat (o1 - 1)).toNatClampNeg) = 9 then
      cl (f_X7_tellSetting 2 999 M1m) fun r10 M10m =>
      gd (vp_nar .boolean r10 = r10) <|
      some (r10, M10m)
    else
    if (swm (Int32.ofNat (o1 - 1)).toNatClampNeg) = 10 then
      cl (f_X7_tellSetting 3 9 M1m) fun r11 M11m =>
      gd (vp_nar .boolean r11 = r11) <|
      some (r11, M11m)
    else
      cl (f_X7_fail 1 M1m) fun r12 M12m =>
      gd (vp_nar .boolean r12 = r12) <|
      some (r12, M12m)
def f_X10_tapeNumber_b3_s (rec3 : Int32 → Int32 → Mem → Option Mem) (x1 : Int32) (x2 : Int32) (M : Mem) : Option Mem :=
  if x2 < 0 then
    some M
  else
    if 600 ≤ (M.1 64 1) then
      some M
    else
      gd (inb (M.1 64 1) 600) <|
      bnd (setI M 65 ((M.1 64 1).toNatClampNeg) (vp_nar .byte ((x1 >>> (x2 &&& 31)).toInt8.toInt32))) fun M1m =>
      bnd (setI M1m 64 1 ((M1m.1 64 1) + 1)) fun M2m =>
      bnd (x2 + (-8)) fun a1 =>
      rec3 x1 a1 M2m
def f_X10_tapeNumber_b3 (k : Nat) : Int32 → Int32 → Mem → Option Mem := lpN (fun _ _ _ => none) (f_X10_tapeNumber_b3_s) k
def f_X10_tapeNumber (x1 : Int32) (M : Mem) : Option Mem :=
  f_X10_tapeNumber_b3 fuel x1 24 M
def f_X10_feed (x1 : Int32) (x2 : Int32) (x3 : Int32) (x4 : Int32) (x5 : Int32) (M : Mem) : Option (Int32 × Mem) :=
  if ((M.1 64 1) + 20) ≤ 600 then
    clv (f_X10_tapeNumber x1 M) fun M1m =>
    clv (f_X10_tapeNumber x2 M1m) fun M2m =>
    clv (f_X10_tapeNumber x3 M2m) fun M3m =>
    clv (f_X10_tapeNumber x4 M3m) fun M4m =>
    clv (f_X10_tapeNumber x5 M4m) fun M5m =>
    some (M5m.1 64 1, M5m)
  else
    some ((-1), M)
def f_X10_text_b129_s (rec129 : Int32 → Mem → Option (Int32 × Mem)) (x3 : Int32) (M : Mem) : Option (Int32 × Mem) :=
  if 2 ≤ x3 then
    gd (shc (M.2.2.1 64 2) = 8) <|
    some (M.1 (M.2.2.1 64 2) 11, M)
  else
    gd (inb x3 2) <|
    bnd (setI M 225 (x3.toNatClampNeg) (vp_nar .boolean 0)) fun M1m =>
    bnd (x3 + 1) fun a1 =>
    rec129 a1 M1m
def f_X10_text_b129 (k : Nat) : Int32 → Mem → Option (Int32 × Mem) := lpN (fun _ _ => none) (f_X10_text_b129_s) k
def f_X10_text_b93 (M : Mem) : Option (Int32 × Mem) :=
  bnd (M.2.2.1 64 2) fun o1 =>
  bnd (setR M 64 2 (M.2.2.1 64 3)) fun M1m =>
  bnd (setR M1m 64 3 o1) fun M2m =>
  clv (f_X3_begin 217 (M2m.2.2.1 64 2) M2m) fun M3m =>
  bnd (setI M3m 64 9 0) fun M4m =>
  f_X10_text_b129 fuel 0 M4m
def f_X10_text_b76 (M : Mem) : Option (Int32 × Mem) :=
  some ((-2) - (M.1 208 8), M)
def f_X10_text_b33_s (rec33 : Int32 → Mem → Option (Int32 × Mem)) (x2 : Int32) (M : Mem) : Option (Int32 × Mem) :=
  if 600 < x2 then
    f_X10_text_b93 M
  else
    gd ((M.2.2.1 208 4) < 26) <|
    if (M.2.2.1 208 4) = 1 then
      f_X10_text_b93 M
    else
      cl (f_X7_tellLine M) fun r1 M1m =>
      if r1 = 0 then
        f_X10_text_b76 M1m
      else
        cl (f_X7_take 5 M1m) fun r2 M2m =>
        if r2 = 0 then
          f_X10_text_b76 M2m
        else
          bnd (x2 + 1) fun a1 =>
          rec33 a1 M2m
def f_X10_text_b33 (k : Nat) : Int32 → Mem → Option (Int32 × Mem) := lpN (fun _ _ => none) (f_X10_text_b33_s) k
def f_X10_text (x1 : Int32) (M : Mem) : Option (Int32 × Mem) :=
  if x1 < 0 then
    some ((-1), M)
  else
    if x1 ≤ (M.1 64 1) then
      bnd (setI M 64 1 0) fun M1m =>
      clv (f_X7_begin (M1m.2.2.1 64 3) x1 M1m) fun M2m =>
      f_X10_text_b33 fuel 0 M2m
    else
      some ((-1), M)
def f_X10_camera (x1 : Int32) (x2 : Int32) (M : Mem) : Option (Int32 × Mem) :=
  if x1 < 0 then
    some ((-1), M)
  else
    gd (shc (M.2.2.1 64 2) = 8) <|
    if x1 < (M.1 (M.2.2.1 64 2) 0) then
      if x2 = 0 then
        gd (inb x1 5) <|
        some (M.1 (cr (M.2.2.1 64 2) 1) x1.toNatClampNeg, M)
      else
      if x2 = 1 then
        gd (inb x1 5) <|
        some (M.1 (cr (M.2.2.1 64 2) 2) x1.toNatClampNeg, M)
      else
      if x2 = 2 then
        if (M.1 (cr (M.2.2.1 64 2) 4) 1) = 0 then
          cl (f_X2_lateLeast (cr (M.2.2.1 64 2) 4) x1 M) fun r1 M1m =>
          some (r1, M1m)
        else
          some ((-2), M)
      else
      if x2 = 3 then
        if (M.1 (cr (M.2.2.1 64 2) 4) 1) = 0 then
          cl (f_X2_lateMost (cr (M.2.2.1 64 2) 4) x1 M) fun r2 M2m =>
          some (r2, M2m)
        else
          some ((-2), M)
      else
        some ((-1), M)
    else
      some ((-1), M)
def f_X10_kind (x1 : Int32) (x2 : Int32) (M : Mem) : Option (Int32 × Mem) :=
  if x1 < 0 then
    some ((-1), M)
  else
    gd (shc (M.2.2.1 64 2) = 8) <|
    if x1 < (M.1 (M.2.2.1 64 2) 7) then
      gd (inb x1 5) <|
      bnd (cr (cr (M.2.2.1 64 2) 8) x1.toNatClampNeg) fun o1 =>
      if x2 = 0 then
        some (M.1 o1 0, M)
      else
      if x2 = 1 then
        if (M.1 o1 1) = 0 then
          some (0, M)
        else
          some (1, M)
      else
      if x2 = 2 then
        if (M.1 o1 2) = 0 then
          some (0, M)
        else
          some (1, M)
      else
      if x2 = 3 then
        some (M.1 o1 3, M)
      else
        some ((-1), M)
    else
      some ((-1), M)
def f_X10_isSide (x1 : Int32) (M : Mem) : Option (Int32 × Mem) :=
  if x1 < 0 then
    some (0, M)
  else
    gd (shc (M.2.2.1 64 2) = 8) <|
    if (M.1 (M.2.2.1 64 2) 5) ≤ x1 then
      some (0, M)
    else
      some (1, M)
def f_X10_pointsNow_b4_s (rec4 : Int32 → Int32 → Int32 → Mem → Option (Int32 × Mem)) (x1 : Int32) (x2 : Int32) (x3 : Int32) (M : Mem) : Option (Int32 × Mem) :=
  if (M.1 217 0) ≤ x3 then
    some (x2, M)
  else
    gd (shc (M.2.2.1 64 2) = 8) <|
    gd (inb x3 8) <|
    if (M.1 (cr (cr (M.2.2.1 64 2) 12) x3.toNatClampNeg) 2) = x1 then
      cl (f_X3_call 217 x3 M) fun r1 M1m =>
      if r1 = 1 then
        gd (shc (M1m.2.2.1 64 2) = 8) <|
        bnd (x2 + (M1m.1 (cr (cr (M1m.2.2.1 64 2) 12) x3.toNatClampNeg) 3)) fun a1 =>
        bnd (x3 + 1) fun a2 =>
        rec4 x1 a1 a2 M1m
      else
        bnd (x3 + 1) fun a3 =>
        rec4 x1 x2 a3 M1m
    else
      bnd (x3 + 1) fun a4 =>
      rec4 x1 x2 a4 M
def f_X10_pointsNow_b4 (k : Nat) : Int32 → Int32 → Int32 → Mem → Option (Int32 × Mem) := lpN (fun _ _ _ _ => none) (f_X10_pointsNow_b4_s) k
def f_X10_pointsNow (x1 : Int32) (M : Mem) : Option (Int32 × Mem) :=
  f_X10_pointsNow_b4 fuel x1 0 0 M
def f_X10_side (x1 : Int32) (x2 : Int32) (M : Mem) : Option (Int32 × Mem) :=
  cl (f_X10_isSide x1 M) fun r1 M1m =>
  if r1 = 0 then
    some ((-1), M1m)
  else
    if x2 = 0 then
      gd (shc (M1m.2.2.1 64 2) = 8) <|
      gd (inb x1 4) <|
      some (M1m.1 (cr (M1m.2.2.1 64 2) 6) x1.toNatClampNeg, M1m)
    else
    if x2 = 1 then
      gd (inb x1 4) <|
      some (M1m.1 219 x1.toNatClampNeg, M1m)
    else
    if x2 = 2 then
      gd (inb x1 4) <|
      some (M1m.1 220 x1.toNatClampNeg, M1m)
    else
    if x2 = 3 then
      cl (f_X10_pointsNow x1 M1m) fun r2 M2m =>
      some (r2, M2m)
    else
      some ((-1), M1m)
def f_X10_isPlay (x1 : Int32) (M : Mem) : Option (Int32 × Mem) :=
  if x1 < 0 then
    some (0, M)
  else
    gd (shc (M.2.2.1 64 2) = 8) <|
    if (M.1 (M.2.2.1 64 2) 11) ≤ x1 then
      some (0, M)
    else
      some (1, M)
def f_X10_play (x1 : Int32) (x2 : Int32) (M : Mem) : Option (Int32 × Mem) :=
  cl (f_X10_isPlay x1 M) fun r1 M1m =>
  if r1 = 0 then
    some ((-1), M1m)
  else
    gd (shc (M1m.2.2.1 64 2) = 8) <|
    gd (inb x1 8) <|
    bnd (cr (cr (M1m.2.2.1 64 2) 12) x1.toNatClampNeg) fun o1 =>
    if x2 = 0 then
      some (M1m.1 o1 0, M1m)
    else
    if x2 = 1 then
      some (M1m.1 o1 1, M1m)
    else
    if x2 = 2 then
      some (M1m.1 o1 2, M1m)
    else
    if x2 = 3 then
      some (M1m.1 o1 3, M1m)
    else
    if x2 = 4 then
      some (M1m.1 o1 4, M1m)
    else
    if x2 = 5 then
      some (M1m.1 o1 5, M1m)
    else
    if x2 = 6 then
      if (M1m.1 217 0) ≤ x1 then
        some ((-2), M1m)
      else
        cl (f_X3_call 217 x1 M1m) fun r2 M2m =>
        some (r2, M2m)
    else
    if x2 = 7 then
      cl (f_X3_isReviewed 217 x1 M1m) fun r3 M3m =>
      if r3 = 0 then
        some (0, M3m)
      else
        some (1, M3m)
    else
    if x2 = 8 then
      cl (f_X3_isBoarded 217 x1 M1m) fun r4 M4m =>
      if r4 = 0 then
        some (0, M4m)
      else
        some (1, M4m)
    else
      some ((-1), M1m)
def f_X10_isBoard (x1 : Int32) (M : Mem) : Option (Int32 × Mem) :=
  if x1 < 0 then
    some (0, M)
  else
    gd (shc (M.2.2.1 64 2) = 8) <|
    if (M.1 (M.2.2.1 64 2) 9) ≤ x1 then
      some (0, M)
    else
      some (1, M)
def f_X10_verdict (x1 : Int32) (x2 : Int32) (M : Mem) : Option (Int32 × Mem) :=
  cl (f_X10_isPlay x1 M) fun r1 M1m =>
  if r1 = 0 then
    some ((-1), M1m)
  else
    if x2 < 0 then
      some ((-1), M1m)
    else
      gd (shc (M1m.2.2.1 64 2) = 8) <|
      gd (inb x1 8) <|
      if x2 ≤ (M1m.1 (cr (cr (M1m.2.2.1 64 2) 12) x1.toNatClampNeg) 5) then
        cl (f_X4_byFrames (M1m.2.2.1 64 2) (cr (cr (M1m.2.2.1 64 2) 12) x1.toNatClampNeg) (((1 : Int32) <<< (x2 &&& 31)) - 1) M1m) fun r2 M2m =>
        some (r2, M2m)
      else
        some ((-1), M1m)
def f_X10_by (x1 : Int32) (x2 : Int32) (M : Mem) : Option (Int32 × Mem) :=
  cl (f_X10_isPlay x1 M) fun r1 M1m =>
  if r1 = 0 then
    some ((-1), M1m)
  else
    gd (shc (M1m.2.2.1 64 2) = 8) <|
    cl (f_X9_allCameras (M1m.2.2.1 64 2) M1m) fun r2 M2m =>
    if (x2 &&& (r2 ^^^ (-1))) = 0 then
      gd (shc (M2m.2.2.1 64 2) = 8) <|
      gd (inb x1 8) <|
      cl (f_X6_framesOf (cr (cr (M2m.2.2.1 64 2) 12) x1.toNatClampNeg) x2 M2m) fun r3 M3m =>
      cl (f_X4_byFrames (M2m.2.2.1 64 2) (cr (cr (M2m.2.2.1 64 2) 12) x1.toNatClampNeg) r3 M3m) fun r4 M4m =>
      some (r4, M4m)
    else
      some ((-1), M2m)
def f_X10_gap_b96 (x4 : Int32) (xs0 : Int32) (M : Mem) : Option (Int32 × Mem) :=
  if xs0 = 268435456 then
    some (1000000, M)
  else
    if x4 = 0 then
      some (-xs0, M)
    else
      some (xs0, M)
def f_X10_gap (x1 : Int32) (x2 : Int32) (x3 : Int32) (x4 : Int32) (M : Mem) : Option (Int32 × Mem) :=
  cl (f_X10_isPlay x1 M) fun r1 M1m =>
  if r1 = 0 then
    some (3000000, M1m)
  else
    if x2 < 0 then
      some (3000000, M1m)
    else
      if 4 ≤ x2 then
        some (3000000, M1m)
      else
        if x3 < 0 then
          some (3000000, M1m)
        else
          if x3 < 4 then
            gd (shc (M1m.2.2.1 64 2) = 8) <|
            gd (inb x1 8) <|
            cl (f_X6_allFrames (cr (cr (M1m.2.2.1 64 2) 12) x1.toNatClampNeg) M1m) fun r2 M2m =>
            cl (f_X4_sureOf (M1m.2.2.1 64 2) (cr (cr (M1m.2.2.1 64 2) 12) x1.toNatClampNeg) r2 M2m) fun o1 M3m =>
            gd (shc o1 = 2) <|
            if (M3m.1 o1 1) = 0 then
              if x4 = 0 then
                cl (f_X2_markLess o1 x2 x3 M3m) fun r3 M4m =>
                f_X10_gap_b96 x4 r3 M4m
              else
                cl (f_X2_markLess o1 x3 x2 M3m) fun r4 M5m =>
                f_X10_gap_b96 x4 r4 M5m
            else
              some (2000000, M3m)
          else
            some (3000000, M1m)
def f_X10_fewest (x1 : Int32) (M : Mem) : Option (Int32 × Mem) :=
  cl (f_X10_isPlay x1 M) fun r1 M1m =>
  if r1 = 0 then
    some ((-1), M1m)
  else
    gd (shc (M1m.2.2.1 64 2) = 8) <|
    gd (inb x1 8) <|
    cl (f_X4_fewestFrames (M1m.2.2.1 64 2) (cr (cr (M1m.2.2.1 64 2) 12) x1.toNatClampNeg) M1m) fun r2 M2m =>
    some (r2, M2m)
def f_X10_key (x1 : Int32) (M : Mem) : Option (Int32 × Mem) :=
  cl (f_X10_isPlay x1 M) fun r1 M1m =>
  if r1 = 0 then
    some ((-1), M1m)
  else
    gd (shc (M1m.2.2.1 64 2) = 8) <|
    gd (inb x1 8) <|
    cl (f_X4_keyFrames (M1m.2.2.1 64 2) (cr (cr (M1m.2.2.1 64 2) 12) x1.toNatClampNeg) M1m) fun r2 M2m =>
    some (r2, M2m)
def f_X10_enough (x1 : Int32) (M : Mem) : Option (Int32 × Mem) :=
  cl (f_X10_isPlay x1 M) fun r1 M1m =>
  if r1 = 0 then
    some ((-1), M1m)
  else
    gd (shc (M1m.2.2.1 64 2) = 8) <|
    gd (inb x1 8) <|
    cl (f_X4_fewestCameras (M1m.2.2.1 64 2) (cr (cr (M1m.2.2.1 64 2) 12) x1.toNatClampNeg) M1m) fun r2 M2m =>
    some (r2, M2m)
def f_X10_mend (x1 : Int32) (M : Mem) : Option (Int32 × Mem) :=
  cl (f_X10_isPlay x1 M) fun r1 M1m =>
  if r1 = 0 then
    some ((-1), M1m)
  else
    gd (shc (M1m.2.2.1 64 2) = 8) <|
    gd (inb x1 8) <|
    cl (f_X4_fewestLeftOut (M1m.2.2.1 64 2) (cr (cr (M1m.2.2.1 64 2) 12) x1.toNatClampNeg) M1m) fun r2 M2m =>
    some (r2, M2m)
def f_X10_callNow (x1 : Int32) (M : Mem) : Option (Int32 × Mem) :=
  if (M.1 217 0) ≤ x1 then
    gd (shc (M.2.2.1 64 2) = 8) <|
    gd (inb x1 8) <|
    some (M.1 (cr (cr (M.2.2.1 64 2) 12) x1.toNatClampNeg) 4, M)
  else
    cl (f_X3_call 217 x1 M) fun r1 M1m =>
    some (r1, M1m)
def f_X10_look (x1 : Int32) (x2 : Int32) (M : Mem) : Option (Int32 × Mem) :=
  cl (f_X10_isPlay x1 M) fun r1 M1m =>
  if r1 = 0 then
    some ((-1), M1m)
  else
    if x2 < 0 then
      some ((-1), M1m)
    else
      if x2 ≤ 2 then
        gd (shc (M1m.2.2.1 64 2) = 8) <|
        gd (inb x1 8) <|
        cl (f_X10_callNow x1 M1m) fun r2 M2m =>
        cl (f_X4_review (M1m.2.2.1 64 2) (cr (cr (M1m.2.2.1 64 2) 12) x1.toNatClampNeg) r2 M2m) fun r3 M3m =>
        if x2 = 0 then
          some (r3, M3m)
        else
          if x2 = 1 then
            some (M3m.1 212 2, M3m)
          else
            some (M3m.1 212 3, M3m)
      else
        some ((-1), M1m)
def f_X10_reviewNow (x1 : Int32) (x2 : Int32) (M : Mem) : Option (Int32 × Mem) :=
  gd (shc (M.2.2.1 64 2) = 8) <|
  gd (inb x1 8) <|
  cl (f_X3_call 217 x1 M) fun r1 M1m =>
  cl (f_X4_review (M.2.2.1 64 2) (cr (cr (M.2.2.1 64 2) 12) x1.toNatClampNeg) r1 M1m) fun r2 M2m =>
  bnd (setI M2m 217 2 ((M2m.1 217 2) ||| ((1 : Int32) <<< (x1 &&& 31)))) fun M3m =>
  bnd (setI M3m 221 (x1.toNatClampNeg) ((M3m.1 221 x1.toNatClampNeg) + (M3m.1 212 2))) fun M4m =>
  clv (f_X3_addLog 217 x1 x2 r2 (M4m.1 212 2) M4m) fun M5m =>
  if r2 = 2 then
    clv (f_X3_turn 217 x1 M5m) fun M6m =>
    gd (shc (M6m.2.2.1 64 2) = 8) <|
    gd (inb (M6m.1 (cr (cr (M6m.2.2.1 64 2) 12) x1.toNatClampNeg) 1) 5) <|
    if (M6m.1 (cr (cr (M6m.2.2.1 64 2) 8) (M6m.1 (cr (cr (M6m.2.2.1 64 2) 12) x1.toNatClampNeg) 1).toNatClampNeg) 2) = 0 then
      some (r2, M6m)
    else
      clv (f_X3_restartBehind 217 x1 M6m) fun M7m =>
      some (r2, M7m)
  else
    some (r2, M5m)
def f_X10_startAct (M : Mem) : Option Mem :=
  gd (inb (M.1 64 8) 12) <|
  clv (f_X3_copyFrom (cr 223 (M.1 64 8).toNatClampNeg) 217 M) fun M1m =>
  bnd (setI M1m 64 8 (((M1m.1 64 8) + 1) - ((M1m.1 64 8) + 1) / 12 * 12)) fun M2m =>
  bnd (setI M2m 64 9 (min32 ((M2m.1 64 9) + 1) 12)) fun M3m =>
  some M3m
def f_X10_next (M : Mem) : Option (Int32 × Mem) :=
  bnd (M.1 217 0) fun a1 =>
  cl (f_X10_isPlay a1 M) fun r1 M1m =>
  if r1 = 0 then
    some ((-1), M1m)
  else
    clv (f_X10_startAct M1m) fun M2m =>
    gd (shc (M2m.2.2.1 64 2) = 8) <|
    gd (inb a1 8) <|
    clv (f_X3_happen 217 a1 (M2m.1 (cr (cr (M2m.2.2.1 64 2) 12) a1.toNatClampNeg) 4) M2m) fun M3m =>
    gd (shc (M3m.2.2.1 64 2) = 8) <|
    cl (f_X9_isReviewedAtOnce (M3m.2.2.1 64 2) a1 M3m) fun r2 M4m =>
    if r2 = 0 then
      some (3, M4m)
    else
      cl (f_X10_reviewNow a1 (-1) M4m) fun r3 M5m =>
      some (r3, M5m)
def f_X10_canChallenge (x1 : Int32) (x2 : Int32) (M : Mem) : Option (Int32 × Mem) :=
  gd (inb x1 4) <|
  if (M.1 219 x1.toNatClampNeg) ≤ 0 then
    some (0, M)
  else
    if (M.1 217 0) ≤ x2 then
      some (0, M)
    else
      gd (shc (M.2.2.1 64 2) = 8) <|
      if (M.1 (cr (M.2.2.1 64 2) 13) 3) < (((M.1 217 0) - 1) - x2) then
        some (0, M)
      else
        cl (f_X3_isReviewed 217 x2 M) fun r1 M1m =>
        if r1 = 0 then
          cl (f_X3_isBoarded 217 x2 M1m) fun r2 M2m =>
          if r2 = 0 then
            some (1, M2m)
          else
            some (0, M2m)
        else
          some (0, M1m)
def f_X10_challenge (x1 : Int32) (x2 : Int32) (M : Mem) : Option (Int32 × Mem) :=
  cl (f_X10_isSide x1 M) fun r1 M1m =>
  if r1 = 0 then
    some ((-1), M1m)
  else
    cl (f_X10_isPlay x2 M1m) fun r2 M2m =>
    if r2 = 0 then
      some ((-1), M2m)
    else
      cl (f_X10_canChallenge x1 x2 M2m) fun r3 M3m =>
      if r3 = 0 then
        some ((-2), M3m)
      else
        clv (f_X10_startAct M3m) fun M4m =>
        cl (f_X10_reviewNow x2 x1 M4m) fun r4 M5m =>
        if r4 = 2 then
          gd (inb x1 4) <|
          bnd (setI M5m 220 (x1.toNatClampNeg) ((M5m.1 220 x1.toNatClampNeg) + 1)) fun M6m =>
          gd (shc (M6m.2.2.1 64 2) = 8) <|
          cl (f_X9_leftWhenWon (M6m.2.2.1 64 2) (M6m.1 219 x1.toNatClampNeg) (M6m.1 220 x1.toNatClampNeg) M6m) fun r5 M7m =>
          bnd (setI M7m 219 (x1.toNatClampNeg) r5) fun M8m =>
          some (r4, M8m)
        else
          gd (inb x1 4) <|
          bnd (setI M5m 219 (x1.toNatClampNeg) ((M5m.1 219 x1.toNatClampNeg) - 1)) fun M9m =>
          gd (inb x2 8) <|
          bnd (setI M9m 218 (x2.toNatClampNeg) x1) fun M10m =>
          some (r4, M10m)
def f_X10_wouldOverturn (x1 : Int32) (x2 : Int32) (M : Mem) : Option (Int32 × Mem) :=
  gd (shc (M.2.2.1 64 2) = 8) <|
  gd (inb x1 3) <|
  bnd (cr (cr (M.2.2.1 64 2) 10) x1.toNatClampNeg) fun o1 =>
  gd (inb x2 8) <|
  cl (f_X10_callNow x2 M) fun r1 M1m =>
  cl (f_X4_membersAgainst (M.2.2.1 64 2) o1 (cr (cr (M.2.2.1 64 2) 12) x2.toNatClampNeg) r1 M1m) fun r2 M2m =>
  cl (f_J6_bitCount_0f7a4 r2 M2m) fun r3 M3m =>
  if r3 < (M3m.1 o1 0) then
    some (0, M3m)
  else
    some (1, M3m)
def f_X10_put_b111 (x3 : Int32) (M : Mem) : Option (Int32 × Mem) :=
  if x3 = 0 then
    some (0, M)
  else
    some (1, M)
def f_X10_put_b87 (x2 : Int32) (x3 : Int32) (xs1 : Int32) (xs2 : Int32) (xs3 : Int32) (M : Mem) : Option (Int32 × Mem) :=
  clv (f_X3_addLog 217 xs1 xs2 xs3 0 M) fun M1m =>
  if x3 = 0 then
    f_X10_put_b111 x3 M1m
  else
    clv (f_X3_turn 217 x2 M1m) fun M2m =>
    clv (f_X3_giveBack 217 x2 M2m) fun M3m =>
    f_X10_put_b111 x3 M3m
def f_X10_put (x1 : Int32) (x2 : Int32) (M : Mem) : Option (Int32 × Mem) :=
  cl (f_X10_isBoard x1 M) fun r1 M1m =>
  if r1 = 0 then
    some ((-1), M1m)
  else
    cl (f_X10_isPlay x2 M1m) fun r2 M2m =>
    if r2 = 0 then
      some ((-1), M2m)
    else
      if (M2m.1 217 0) ≤ x2 then
        some ((-2), M2m)
      else
        cl (f_X3_isBoarded 217 x2 M2m) fun r3 M3m =>
        if r3 = 0 then
          clv (f_X10_startAct M3m) fun M4m =>
          cl (f_X10_wouldOverturn x1 x2 M4m) fun r4 M5m =>
          bnd (setI M5m 217 3 ((M5m.1 217 3) ||| ((1 : Int32) <<< (x2 &&& 31)))) fun M6m =>
          if r4 = 0 then
            f_X10_put_b87 x2 r4 x2 (10 + x1) 0 M6m
          else
            f_X10_put_b87 x2 r4 x2 (10 + x1) 2 M6m
        else
          some ((-2), M3m)
def f_X10_votes (x1 : Int32) (x2 : Int32) (M : Mem) : Option (Int32 × Mem) :=
  cl (f_X10_isBoard x1 M) fun r1 M1m =>
  if r1 = 0 then
    some ((-1), M1m)
  else
    cl (f_X10_isPlay x2 M1m) fun r2 M2m =>
    if r2 = 0 then
      some ((-1), M2m)
    else
      gd (shc (M2m.2.2.1 64 2) = 8) <|
      gd (inb x1 3) <|
      gd (inb x2 8) <|
      cl (f_X10_callNow x2 M2m) fun r3 M3m =>
      cl (f_X4_membersAgainst (M2m.2.2.1 64 2) (cr (cr (M2m.2.2.1 64 2) 10) x1.toNatClampNeg) (cr (cr (M2m.2.2.1 64 2) 12) x2.toNatClampNeg) r3 M3m) fun r4 M4m =>
      some (r4, M4m)
def f_X10_pivot (x1 : Int32) (x2 : Int32) (M : Mem) : Option (Int32 × Mem) :=
  cl (f_X10_isBoard x1 M) fun r1 M1m =>
  if r1 = 0 then
    some ((-1), M1m)
  else
    cl (f_X10_isPlay x2 M1m) fun r2 M2m =>
    if r2 = 0 then
      some ((-1), M2m)
    else
      gd (shc (M2m.2.2.1 64 2) = 8) <|
      gd (inb x1 3) <|
      gd (inb x2 8) <|
      cl (f_X10_callNow x2 M2m) fun r3 M3m =>
      cl (f_X4_membersAgainst (M2m.2.2.1 64 2) (cr (cr (M2m.2.2.1 64 2) 10) x1.toNatClampNeg) (cr (cr (M2m.2.2.1 64 2) 12) x2.toNatClampNeg) r3 M3m) fun r4 M4m =>
      cl (f_J6_bitCount_0f7a4 r4 M4m) fun r5 M5m =>
      gd (shc (M5m.2.2.1 64 2) = 8) <|
      if r5 = (M5m.1 (cr (cr (M5m.2.2.1 64 2) 10) x1.toNatClampNeg) 0) then
        some (r4, M5m)
      else
        some (0, M5m)
def f_X10_boards_b14_s (rec14 : Int32 → Int32 → Int32 → Mem → Option (Int32 × Mem)) (x1 : Int32) (x2 : Int32) (x3 : Int32) (M : Mem) : Option (Int32 × Mem) :=
  gd (shc (M.2.2.1 64 2) = 8) <|
  if (M.1 (M.2.2.1 64 2) 9) ≤ x3 then
    some (x2, M)
  else
    cl (f_X10_wouldOverturn x3 x1 M) fun r1 M1m =>
    if r1 = 0 then
      bnd (x3 + 1) fun a1 =>
      rec14 x1 x2 a1 M1m
    else
      bnd (x2 ||| ((1 : Int32) <<< (x3 &&& 31))) fun a2 =>
      bnd (x3 + 1) fun a3 =>
      rec14 x1 a2 a3 M1m
def f_X10_boards_b14 (k : Nat) : Int32 → Int32 → Int32 → Mem → Option (Int32 × Mem) := lpN (fun _ _ _ _ => none) (f_X10_boards_b14_s) k
def f_X10_boards (x1 : Int32) (M : Mem) : Option (Int32 × Mem) :=
  cl (f_X10_isPlay x1 M) fun r1 M1m =>
  if r1 = 0 then
    some ((-1), M1m)
  else
    f_X10_boards_b14 fuel x1 0 0 M1m
def f_X10_pointsInTruth_b43 (rec5 : Int32 → Int32 → Int32 → Int32 → Mem → Option (Int32 × Mem)) (x1 : Int32) (x2 : Int32) (x3 : Int32) (x4 : Int32) (n5 : Nat) (xs0 : Int32) (M : Mem) : Option (Int32 × Mem) :=
  gd (shc n5 = 6) <|
  if (M.1 n5 2) = x1 then
    cl (f_X4_trueCall (M.2.2.1 64 2) n5 xs0 M) fun r1 M1m =>
    if r1 = 1 then
      bnd (x3 + (M1m.1 n5 3)) fun a1 =>
      bnd (x4 + 1) fun a2 =>
      rec5 x1 x2 a1 a2 M1m
    else
      bnd (x4 + 1) fun a3 =>
      rec5 x1 x2 x3 a3 M1m
  else
    bnd (x4 + 1) fun a4 =>
    rec5 x1 x2 x3 a4 M
def f_X10_pointsInTruth_b5_s (rec5 : Int32 → Int32 → Int32 → Int32 → Mem → Option (Int32 × Mem)) (x1 : Int32) (x2 : Int32) (x3 : Int32) (x4 : Int32) (M : Mem) : Option (Int32 × Mem) :=
  gd (shc (M.2.2.1 64 2) = 8) <|
  if (M.1 (M.2.2.1 64 2) 11) ≤ x4 then
    some (x3, M)
  else
    gd (inb x4 8) <|
    bnd (cr (cr (M.2.2.1 64 2) 12) x4.toNatClampNeg) fun o1 =>
    if x2 = (-1) then
      f_X10_pointsInTruth_b43 rec5 x1 x2 x3 x4 o1 (M.1 o1 4) M
    else
      f_X10_pointsInTruth_b43 rec5 x1 x2 x3 x4 o1 x2 M
def f_X10_pointsInTruth_b5 (k : Nat) : Int32 → Int32 → Int32 → Int32 → Mem → Option (Int32 × Mem) := lpN (fun _ _ _ _ _ => none) (f_X10_pointsInTruth_b5_s) k
def f_X10_pointsInTruth (x1 : Int32) (x2 : Int32) (M : Mem) : Option (Int32 × Mem) :=
  f_X10_pointsInTruth_b5 fuel x1 x2 0 0 M
def f_X10_truth (x1 : Int32) (M : Mem) : Option (Int32 × Mem) :=
  cl (f_X10_isSide x1 M) fun r1 M1m =>
  if r1 = 0 then
    some ((-1), M1m)
  else
    cl (f_X10_pointsInTruth x1 (-1) M1m) fun r2 M2m =>
    some (r2, M2m)
def f_X10_range_b19 (xs1 : Int32) (xs2 : Int32) (M : Mem) : Option (Int32 × Mem) :=
  cl (f_X10_pointsInTruth xs1 xs2 M) fun r1 M1m =>
  some (r1, M1m)
def f_X10_range (x1 : Int32) (x2 : Int32) (M : Mem) : Option (Int32 × Mem) :=
  cl (f_X10_isSide x1 M) fun r1 M1m =>
  if r1 = 0 then
    some ((-1), M1m)
  else
    if x2 = 0 then
      f_X10_range_b19 x1 0 M1m
    else
      f_X10_range_b19 x1 1 M1m
def f_X10_wrong_b4_s (rec4 : Int32 → Int32 → Mem → Option (Int32 × Mem)) (x1 : Int32) (x2 : Int32) (M : Mem) : Option (Int32 × Mem) :=
  gd (shc (M.2.2.1 64 2) = 8) <|
  if (M.1 (M.2.2.1 64 2) 11) ≤ x2 then
    some (x1, M)
  else
    gd (inb x2 8) <|
    bnd (cr (cr (M.2.2.1 64 2) 12) x2.toNatClampNeg) fun o1 =>
    cl (f_X4_trueCall (M.2.2.1 64 2) o1 (M.1 o1 4) M) fun r1 M1m =>
    if r1 = (M1m.1 o1 4) then
      bnd (x2 + 1) fun a1 =>
      rec4 x1 a1 M1m
    else
      bnd (x1 ||| ((1 : Int32) <<< (x2 &&& 31))) fun a2 =>
      bnd (x2 + 1) fun a3 =>
      rec4 a2 a3 M1m
def f_X10_wrong_b4 (k : Nat) : Int32 → Int32 → Mem → Option (Int32 × Mem) := lpN (fun _ _ _ => none) (f_X10_wrong_b4_s) k
def f_X10_wrong (M : Mem) : Option (Int32 × Mem) :=
  f_X10_wrong_b4 fuel 0 0 M
def f_X10_callUnchallenged_b46 (n2 : Nat) (xs0 : Int32) (M : Mem) : Option (Int32 × Mem) :=
  if xs0 = 0 then
    gd (shc n2 = 6) <|
    some (M.1 n2 4, M)
  else
    gd (shc n2 = 6) <|
    some (1 - (M.1 n2 4), M)
def f_X10_callUnchallenged_b45 (n2 : Nat) (M : Mem) : Option (Int32 × Mem) :=
  f_X10_callUnchallenged_b46 n2 0 M
def f_X10_callUnchallenged (x1 : Int32) (M : Mem) : Option (Int32 × Mem) :=
  gd (shc (M.2.2.1 64 2) = 8) <|
  gd (inb x1 8) <|
  bnd (cr (cr (M.2.2.1 64 2) 12) x1.toNatClampNeg) fun o1 =>
  cl (f_X9_isReviewedAtOnce (M.2.2.1 64 2) x1 M) fun r1 M1m =>
  if r1 = 0 then
    f_X10_callUnchallenged_b45 o1 M1m
  else
    cl (f_X4_review (M1m.2.2.1 64 2) o1 (M1m.1 o1 4) M1m) fun r2 M2m =>
    if r2 = 2 then
      f_X10_callUnchallenged_b46 o1 1 M2m
    else
      f_X10_callUnchallenged_b45 o1 M2m
def f_X10_left_b14_s (rec14 : Int32 → Int32 → Int32 → Mem → Option (Int32 × Mem)) (x1 : Int32) (x2 : Int32) (x3 : Int32) (M : Mem) : Option (Int32 × Mem) :=
  gd (shc (M.2.2.1 64 2) = 8) <|
  if (M.1 (M.2.2.1 64 2) 11) ≤ x3 then
    some (x2, M)
  else
    gd (inb x3 8) <|
    if (M.1 (cr (cr (M.2.2.1 64 2) 12) x3.toNatClampNeg) 2) = x1 then
      cl (f_X10_callUnchallenged x3 M) fun r1 M1m =>
      if r1 = 1 then
        gd (shc (M1m.2.2.1 64 2) = 8) <|
        bnd (x2 + (M1m.1 (cr (cr (M1m.2.2.1 64 2) 12) x3.toNatClampNeg) 3)) fun a1 =>
        bnd (x3 + 1) fun a2 =>
        rec14 x1 a1 a2 M1m
      else
        bnd (x3 + 1) fun a3 =>
        rec14 x1 x2 a3 M1m
    else
      bnd (x3 + 1) fun a4 =>
      rec14 x1 x2 a4 M
def f_X10_left_b14 (k : Nat) : Int32 → Int32 → Int32 → Mem → Option (Int32 × Mem) := lpN (fun _ _ _ _ => none) (f_X10_left_b14_s) k
def f_X10_left (x1 : Int32) (M : Mem) : Option (Int32 × Mem) :=
  cl (f_X10_isSide x1 M) fun r1 M1m =>
  if r1 = 0 then
    some ((-1), M1m)
  else
    f_X10_left_b14 fuel x1 0 0 M1m
def f_X10_isAgainst (x0 : Int32) (n1 : Nat) (M : Mem) : Option (Int32 × Mem) :=
  gd (shc n1 = 6) <|
  if (M.1 n1 2) = x0 then
    if (M.1 n1 4) = 0 then
      some (1, M)
    else
      some (0, M)
  else
    if (M.1 n1 4) = 1 then
      some (1, M)
    else
      some (0, M)
def f_X10_neverLacks_b9_s (rec9 : Int32 → Int32 → Int32 → Int32 → Int32 → Mem → Option (Int32 × Mem)) (x2 : Int32) (x3 : Int32) (x4 : Int32) (x5 : Int32) (x6 : Int32) (M : Mem) : Option (Int32 × Mem) :=
  gd (shc (M.2.2.1 64 2) = 8) <|
  if (M.1 (M.2.2.1 64 2) 11) ≤ x6 then
    some (1, M)
  else
    if ((x2 >>> (x6 &&& 31)) &&& 1) = 0 then
      bnd (x6 + 1) fun a1 =>
      rec9 x2 x3 x4 x5 a1 M
    else
      if x4 = 0 then
        some (0, M)
      else
        if ((x3 >>> (x6 &&& 31)) &&& 1) = 0 then
          bnd (x4 + (-1)) fun a2 =>
          bnd (x6 + 1) fun a3 =>
          rec9 x2 x3 a2 x5 a3 M
        else
          bnd (x5 + 1) fun a4 =>
          cl (f_X9_leftWhenWon (M.2.2.1 64 2) x4 a4 M) fun r1 M1m =>
          bnd (x6 + 1) fun a5 =>
          rec9 x2 x3 r1 a4 a5 M1m
def f_X10_neverLacks_b9 (k : Nat) : Int32 → Int32 → Int32 → Int32 → Int32 → Mem → Option (Int32 × Mem) := lpN (fun _ _ _ _ _ _ => none) (f_X10_neverLacks_b9_s) k
def f_X10_neverLacks (x1 : Int32) (x2 : Int32) (x3 : Int32) (M : Mem) : Option (Int32 × Mem) :=
  f_X10_neverLacks_b9 fuel x2 x3 x1 0 0 M
def f_X10_need_b119_s (rec119 : Int32 → Int32 → Int32 → Mem → Option (Int32 × Mem)) (x2 : Int32) (x3 : Int32) (x4 : Int32) (M : Mem) : Option (Int32 × Mem) :=
  if 9 ≤ x4 then
    some (9, M)
  else
    cl (f_X10_neverLacks x4 x2 x3 M) fun r1 M1m =>
    if r1 = 0 then
      bnd (x4 + 1) fun a1 =>
      rec119 x2 x3 a1 M1m
    else
      some (x4, M1m)
def f_X10_need_b119 (k : Nat) : Int32 → Int32 → Int32 → Mem → Option (Int32 × Mem) := lpN (fun _ _ _ _ => none) (f_X10_need_b119_s) k
def f_X10_need_b17_s (rec17 : Int32 → Int32 → Int32 → Int32 → Mem → Option (Int32 × Mem)) (x1 : Int32) (x2 : Int32) (x3 : Int32) (x4 : Int32) (M : Mem) : Option (Int32 × Mem) :=
  gd (shc (M.2.2.1 64 2) = 8) <|
  if (M.1 (M.2.2.1 64 2) 11) ≤ x4 then
    f_X10_need_b119 fuel x2 x3 0 M
  else
    gd (inb x4 8) <|
    cl (f_X10_isAgainst x1 (cr (cr (M.2.2.1 64 2) 12) x4.toNatClampNeg) M) fun r1 M1m =>
    if r1 = 0 then
      bnd (x4 + 1) fun a1 =>
      rec17 x1 x2 x3 a1 M1m
    else
      gd (shc (M1m.2.2.1 64 2) = 8) <|
      cl (f_X9_isReviewedAtOnce (M1m.2.2.1 64 2) x4 M1m) fun r2 M2m =>
      if r2 = 0 then
        bnd (x2 ||| ((1 : Int32) <<< (x4 &&& 31))) fun a2 =>
        gd (shc (M2m.2.2.1 64 2) = 8) <|
        cl (f_X4_review (M2m.2.2.1 64 2) (cr (cr (M2m.2.2.1 64 2) 12) x4.toNatClampNeg) (M2m.1 (cr (cr (M2m.2.2.1 64 2) 12) x4.toNatClampNeg) 4) M2m) fun r3 M3m =>
        if r3 = 2 then
          bnd (x3 ||| ((1 : Int32) <<< (x4 &&& 31))) fun a3 =>
          bnd (x4 + 1) fun a4 =>
          rec17 x1 a2 a3 a4 M3m
        else
          bnd (x4 + 1) fun a5 =>
          rec17 x1 a2 x3 a5 M3m
      else
        bnd (x4 + 1) fun a6 =>
        rec17 x1 x2 x3 a6 M2m
def f_X10_need_b17 (k : Nat) : Int32 → Int32 → Int32 → Int32 → Mem → Option (Int32 × Mem) := lpN (fun _ _ _ _ _ => none) (f_X10_need_b17_s) k
def f_X10_need (x1 : Int32) (M : Mem) : Option (Int32 × Mem) :=
  cl (f_X10_isSide x1 M) fun r1 M1m =>
  if r1 = 0 then
    some ((-1), M1m)
  else
    f_X10_need_b17 fuel x1 0 0 0 M1m
def f_X10_secondsOf_b4_s (rec4 : Int32 → Int32 → Int32 → Mem → Option (Int32 × Mem)) (x1 : Int32) (x2 : Int32) (x3 : Int32) (M : Mem) : Option (Int32 × Mem) :=
  gd (shc (M.2.2.1 64 2) = 8) <|
  if (M.1 (M.2.2.1 64 2) 11) ≤ x3 then
    some (x2, M)
  else
    gd (inb x3 8) <|
    if (M.1 (cr (cr (M.2.2.1 64 2) 12) x3.toNatClampNeg) 0) = x1 then
      bnd (x2 + (M.1 221 x3.toNatClampNeg)) fun a1 =>
      bnd (x3 + 1) fun a2 =>
      rec4 x1 a1 a2 M
    else
      bnd (x3 + 1) fun a3 =>
      rec4 x1 x2 a3 M
def f_X10_secondsOf_b4 (k : Nat) : Int32 → Int32 → Int32 → Mem → Option (Int32 × Mem) := lpN (fun _ _ _ _ => none) (f_X10_secondsOf_b4_s) k
def f_X10_secondsOf (x1 : Int32) (M : Mem) : Option (Int32 × Mem) :=
  f_X10_secondsOf_b4 fuel x1 0 0 M
def f_X10_seconds (x1 : Int32) (M : Mem) : Option (Int32 × Mem) :=
  if x1 < 0 then
    some ((-1), M)
  else
    if 999 < x1 then
      some ((-1), M)
    else
      cl (f_X10_secondsOf x1 M) fun r1 M1m =>
      some (r1, M1m)
def f_X10_extra_b50 (rec4 : Int32 → Int32 → Mem → Option (Int32 × Mem)) (x1 : Int32) (x2 : Int32) (x3 : Int32) (M : Mem) : Option (Int32 × Mem) :=
  cl (f_X10_secondsOf x3 M) fun r1 M1m =>
  bnd (x1 + ((r1 + 59) / 60)) fun a1 =>
  bnd (x2 + 1) fun a2 =>
  rec4 a1 a2 M1m
def f_X10_extra_b4_s (rec4 : Int32 → Int32 → Mem → Option (Int32 × Mem)) (x1 : Int32) (x2 : Int32) (M : Mem) : Option (Int32 × Mem) :=
  gd (shc (M.2.2.1 64 2) = 8) <|
  if (M.1 (M.2.2.1 64 2) 11) ≤ x2 then
    some (x1, M)
  else
    gd (inb x2 8) <|
    bnd (M.1 (cr (cr (M.2.2.1 64 2) 12) x2.toNatClampNeg) 0) fun a1 =>
    if x2 = 0 then
      f_X10_extra_b50 rec4 x1 x2 a1 M
    else
      gd (inb (x2 - 1) 8) <|
      if (M.1 (cr (cr (M.2.2.1 64 2) 12) (x2 - 1).toNatClampNeg) 0) = a1 then
        bnd (x2 + 1) fun a2 =>
        rec4 x1 a2 M
      else
        f_X10_extra_b50 rec4 x1 x2 a1 M
def f_X10_extra_b4 (k : Nat) : Int32 → Int32 → Mem → Option (Int32 × Mem) := lpN (fun _ _ _ => none) (f_X10_extra_b4_s) k
def f_X10_extra (M : Mem) : Option (Int32 × Mem) :=
  f_X10_extra_b4 fuel 0 0 M
def f_X10_narrowed (x0 : Int32) (x1 : Int32) (M : Mem) : Option (Int32 × Mem) :=
  if x0 = 0 then
    some (x1.toInt8.toInt32, M)
  else
    if x0 = 1 then
      some (x1.toInt16.toInt32, M)
    else
      some (x1, M)
def f_X10_sheet_b37_s (rec37 : Int32 → Int32 → Int32 → Int32 → Mem → Option (Int32 × Mem)) (x1 : Int32) (x2 : Int32) (x3 : Int32) (x4 : Int32) (M : Mem) : Option (Int32 × Mem) :=
  if x3 ≤ x4 then
    bnd (setI M 64 13 (x3 - x2)) fun M1m =>
    some (M1m.1 64 13, M1m)
  else
    gd (inb ((x4 * 4) + 3) 64) <|
    cl (f_X10_narrowed x1 (M.1 222 ((x4 * 4) + 3).toNatClampNeg) M) fun r1 M2m =>
    gd (inb (x4 - x2) 16) <|
    bnd (setI M2m 226 ((x4 - x2).toNatClampNeg) r1) fun M3m =>
    bnd (x4 + 1) fun a1 =>
    rec37 x1 x2 x3 a1 M3m
def f_X10_sheet_b37 (k : Nat) : Int32 → Int32 → Int32 → Int32 → Mem → Option (Int32 × Mem) := lpN (fun _ _ _ _ _ => none) (f_X10_sheet_b37_s) k
def f_X10_sheet (x1 : Int32) (x2 : Int32) (x3 : Int32) (M : Mem) : Option (Int32 × Mem) :=
  if x1 < 0 then
    some ((-1), M)
  else
    if 2 < x1 then
      some ((-1), M)
    else
      if x2 < 0 then
        some ((-1), M)
      else
        if x3 ≤ (M.1 217 9) then
          if x2 ≤ x3 then
            f_X10_sheet_b37 fuel x1 x2 x3 x2 M
          else
            some ((-2), M)
        else
          some ((-1), M)
def f_X10_undo (M : Mem) : Option (Int32 × Mem) :=
  if (M.1 64 9) = 0 then
    some ((-1), M)
  else
    bnd (setI M 64 8 ((((M.1 64 8) + 12) - 1) - (((M.1 64 8) + 12) - 1) / 12 * 12)) fun M1m =>
    gd (inb (M1m.1 64 8) 12) <|
    clv (f_X3_copyFrom 217 (cr 223 (M1m.1 64 8).toNatClampNeg) M1m) fun M2m =>
    bnd (setI M2m 64 9 ((M2m.1 64 9) - 1)) fun M3m =>
    some (M3m.1 64 9, M3m)
def f_X10_keep (x1 : Int32) (x2 : Int32) (M : Mem) : Option (Int32 × Mem) :=
  if x1 < 0 then
    some (0, M)
  else
    if x1 < 2 then
      if x2 = 0 then
        gd (inb x1 2) <|
        clv (f_X3_copyFrom (cr 224 x1.toNatClampNeg) 217 M) fun M1m =>
        bnd (setI M1m 225 (x1.toNatClampNeg) (vp_nar .boolean 1)) fun M2m =>
        some (1, M2m)
      else
        gd (inb x1 2) <|
        if (M.1 225 x1.toNatClampNeg) = 0 then
          some (0, M)
        else
          clv (f_X3_copyFrom 217 (cr 224 x1.toNatClampNeg) M) fun M3m =>
          bnd (setI M3m 64 9 0) fun M4m =>
          some (1, M4m)
    else
      some (0, M)
def f_X10_count (x1 : Int32) (M : Mem) : Option (Int32 × Mem) :=
  if x1 = 0 then
    gd (shc (M.2.2.1 64 2) = 8) <|
    some (M.1 (M.2.2.1 64 2) 0, M)
  else
  if x1 = 1 then
    gd (shc (M.2.2.1 64 2) = 8) <|
    some (M.1 (M.2.2.1 64 2) 3, M)
  else
  if x1 = 2 then
    gd (shc (M.2.2.1 64 2) = 8) <|
    some (M.1 (M.2.2.1 64 2) 5, M)
  else
  if x1 = 3 then
    gd (shc (M.2.2.1 64 2) = 8) <|
    some (M.1 (M.2.2.1 64 2) 7, M)
  else
  if x1 = 4 then
    gd (shc (M.2.2.1 64 2) = 8) <|
    some (M.1 (M.2.2.1 64 2) 9, M)
  else
  if x1 = 5 then
    gd (shc (M.2.2.1 64 2) = 8) <|
    some (M.1 (M.2.2.1 64 2) 11, M)
  else
  if x1 = 6 then
    some (M.1 217 0, M)
  else
  if x1 = 7 then
    some (M.1 217 9, M)
  else
  if x1 = 8 then
    some (M.1 64 9, M)
  else
  if x1 = 9 then
    some (M.1 64 1, M)
  else
  if x1 = 10 then
    some (M.1 64 13, M)
  else
  if x1 = 11 then
    gd (shc (M.2.2.1 64 2) = 8) <|
    some (M.1 (cr (M.2.2.1 64 2) 13) 0, M)
  else
  if x1 = 12 then
    gd (shc (M.2.2.1 64 2) = 8) <|
    some (M.1 (cr (M.2.2.1 64 2) 13) 1, M)
  else
  if x1 = 13 then
    gd (shc (M.2.2.1 64 2) = 8) <|
    some (M.1 (cr (M.2.2.1 64 2) 13) 2, M)
  else
  if x1 = 14 then
    gd (shc (M.2.2.1 64 2) = 8) <|
    some (M.1 (cr (M.2.2.1 64 2) 13) 3, M)
  else
    some ((-1), M)
