/-! a frame's data, as the class answers (p37): what it answers where it doesn't throw -/
def f_X10_frame_b37 (M : Mem) : Option (Int32 × Mem) :=
  none
def f_X10_frame (x1 : Int32) (x2 : Int32) (x3 : Int32) (M : Mem) : Option (Int32 × Mem) :=
  cl (f_X10_isPlay x1 M) fun r1 M1m =>
  if r1 = 0 then
    f_X10_frame_b37 M1m
  else
    if x2 < 0 then
      f_X10_frame_b37 M1m
    else
      gd (shc (M1m.2.2.1 64 2) = 8) <|
      gd (inb x1 8) <|
      if (M1m.1 (cr (cr (M1m.2.2.1 64 2) 12) x1.toNatClampNeg) 5) ≤ x2 then
        f_X10_frame_b37 M1m
      else
        if x3 < 0 then
          f_X10_frame_b37 M1m
        else
          if x3 ≤ 3 then
            bnd (cr (cr (M1m.2.2.1 64 2) 12) x1.toNatClampNeg) fun o1 =>
            if x3 = 0 then
              gd (inb x2 10) <|
              some (M1m.1 (cr o1 6) x2.toNatClampNeg, M1m)
            else
              if x3 = 1 then
                gd (inb x2 10) <|
                some (M1m.1 (cr o1 7) x2.toNatClampNeg, M1m)
              else
                if x3 = 2 then
                  gd (inb x2 10) <|
                  some (M1m.1 (cr o1 8) x2.toNatClampNeg, M1m)
                else
                  gd (inb x2 10) <|
                  some (M1m.1 (cr o1 9) x2.toNatClampNeg, M1m)
          else
            f_X10_frame_b37 M1m
