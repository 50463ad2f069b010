theorem q_216 : Cond.fieldLink RX10 210 "ReplayBooth$Play" "camera" "[I" ∈ tblG := tblG_of 216 (by decide +kernel) rfl
theorem q_220 : Cond.fieldLink RX10 213 "ReplayBooth$Play" "tick" "[I" ∈ tblG := tblG_of 220 (by decide +kernel) rfl
theorem q_224 : Cond.fieldLink RX10 216 "ReplayBooth$Play" "there" "[I" ∈ tblG := tblG_of 224 (by decide +kernel) rfl
theorem q_228 : Cond.fieldLink RX10 219 "ReplayBooth$Play" "notYet" "[I" ∈ tblG := tblG_of 228 (by decide +kernel) rfl
def f_X10_frame_b37 (M : Mem) : Option (Int32 × Mem) :=
  none
set_option maxRecDepth 100000 in
set_option maxHeartbeats 4000000 in
theorem b_X10_frame_b37 {K : Kt} {X : Xt} (hp : St K) (hB : Bx K X { frames := 1, cells := 0, slots := 0, locals := 21 } cX10_frame 5 RX10 (some .int)) {r : Int32} {M1 : Mem} {M : Mem} (hF : f_X10_frame_b37 M = some (r, M1)) : Wt K X (QM K X (some (vi r)) M1 0 0) 0 0 M 37 [] [] := by
  unfold f_X10_frame_b37 at hF
  cases hF
def f_X10_frame (x1 : Int32) (x2 : Int32) (x3 : Int32) (M : Mem) : Option (Int32 × Mem) :=
  cl (f_X10_isPlay x1 M) fun r1 M1m =>
  if r1 = 0 then
    f_X10_frame_b37 M1m
  else
    if x2 < 0 then
      f_X10_frame_b37 M1m
    else
      gd (shc (M1m.2.2.1 64 2) = 8) <|
      gd (inb x1 8) <|
      if (M1m.1 (cr (cr (M1m.2.2.1 64 2) 12) x1.toNatClampNeg) 5) ≤ x2 then
        f_X10_frame_b37 M1m
      else
        if x3 < 0 then
          f_X10_frame_b37 M1m
        else
          if x3 ≤ 3 then
            bnd (cr (cr (M1m.2.2.1 64 2) 12) x1.toNatClampNeg) fun o1 =>
            if x3 = 0 then
              gd (inb x2 10) <|
              some (M1m.1 (cr o1 6) x2.toNatClampNeg, M1m)
            else
              if x3 = 1 then
                gd (inb x2 10) <|
                some (M1m.1 (cr o1 7) x2.toNatClampNeg, M1m)
              else
                if x3 = 2 then
                  gd (inb x2 10) <|
                  some (M1m.1 (cr o1 8) x2.toNatClampNeg, M1m)
                else
                  gd (inb x2 10) <|
                  some (M1m.1 (cr o1 9) x2.toNatClampNeg, M1m)
          else
            f_X10_frame_b37 M1m
set_option maxRecDepth 100000 in
set_option maxHeartbeats 4000000 in
theorem b_X10_frame {K : Kt} {X : Xt} (hp : St K) (hB : Bx K X { frames := 1, cells := 0, slots := 0, locals := 21 } cX10_frame 5 RX10 (some .int)) {r : Int32} {M1 : Mem} {x1 : Int32} {x2 : Int32} {x3 : Int32} {M : Mem} (hF : f_X10_frame x1 x2 x3 M = some (r, M1)) : Wt K X (QM K X (some (vi r)) M1 0 0) 0 0 M 0 [(0, vr 64), (1, vi x1), (2, vi x2), (3, vi x3)] [] := by
  unfold f_X10_frame at hF
  refine w_aload_n hB 0 dX10_frame_0 rfl rfl ?_
  refine w_iload_n hB 1 dX10_frame_1 rfl rfl ?_
  obtain ⟨r1, M1m, hc_M1m, hF⟩ := clS hF
  refine w_callV hB (ci := 8) (As := [vi x1]) (st := []) cw_X10_184 q_769 q_3 rfl sh_64 (Or.inl hp.1) (c_X10_isPlay hp hc_M1m) ⟨rfl, rfl⟩ (by decide) (by decide) rfl (Nat.le_of_ble_eq_true rfl) dX10_frame_2 rfl ?_
  refine w_if_eq hB 37 dX10_frame_5 (by decide) (fun hc => ?_) (fun hc => ?_)
  · replace hF := ifT hc hF
    exact Wt.sub (L' := []) [] rfl (b_X10_frame_b37 hp hB hF)
  · replace hF := ifF hc hF
    refine w_iload_n hB 2 dX10_frame_8 rfl rfl ?_
    refine w_if_lt hB 37 dX10_frame_9 (by decide) (fun hc => ?_) (fun hc => ?_)
    · replace hF := ifT hc hF
      exact Wt.sub (L' := []) [] rfl (b_X10_frame_b37 hp hB hF)
    · replace hF := ifF hc hF
      refine w_iload_n hB 2 dX10_frame_12 rfl rfl ?_
      refine w_aload_n hB 0 dX10_frame_13 rfl rfl ?_
      refine w_getR hB ff_X10_2 sh_64 (Or.inl hp.1) q_475 dX10_frame_14 ?_
      obtain ⟨g1, hF⟩ := gdS hF
      refine w_getC hB (v := cr (M1m.2.2.1 64 2) 12) ff_X9_12 g1 hp.1 rfl (shc_ne (crc_8_12 g1).1) q_313 dX10_frame_17 ?_
      refine w_iload_n hB 1 dX10_frame_20 rfl rfl ?_
      obtain ⟨g2, hF⟩ := gdS hF
      refine w_aaldC hB (c := 6) (v := cr (cr (M1m.2.2.1 64 2) 12) x1.toNatClampNeg) (crc_8_12 g1).1 rfl (by decide) hp.1 (crc_8_12 g1).2 g2 rfl (shc_ne (cre_26 (crc_8_12 g1).1 (by rw [(crc_8_12 g1).2]; exact inb_lt g2))) dX10_frame_21 ?_
      refine w_getI hB ff_X6_5 (cre_26 (crc_8_12 g1).1 (by rw [(crc_8_12 g1).2]; exact inb_lt g2)) (Or.inl hp.1) q_212 dX10_frame_22 ?_
      refine w_icmp_ge hB 37 dX10_frame_25 (by decide) (fun hc => ?_) (fun hc => ?_)
      · replace hF := ifT hc hF
        exact Wt.sub (L' := []) [] rfl (b_X10_frame_b37 hp hB hF)
      · replace hF := ifF hc hF
        refine w_iload_n hB 3 dX10_frame_28 rfl rfl ?_
        refine w_if_lt hB 37 dX10_frame_29 (by decide) (fun hc => ?_) (fun hc => ?_)
        · replace hF := ifT hc hF
          exact Wt.sub (L' := []) [] rfl (b_X10_frame_b37 hp hB hF)
        · replace hF := ifF hc hF
          refine w_iload_n hB 3 dX10_frame_32 rfl rfl ?_
          refine w_iconst hB 3 (by decide) dX10_frame_33 ?_
          refine w_icmp_le hB 47 dX10_frame_34 (by decide) (fun hc => ?_) (fun hc => ?_)
          · replace hF := ifT hc hF
            refine w_aload_n hB 0 dX10_frame_47 rfl rfl ?_
            refine w_getR hB ff_X10_2 sh_64 (Or.inl hp.1) q_475 dX10_frame_48 ?_
            refine w_getC hB (v := cr (M1m.2.2.1 64 2) 12) ff_X9_12 g1 hp.1 rfl (shc_ne (crc_8_12 g1).1) q_313 dX10_frame_51 ?_
            refine w_iload_n hB 1 dX10_frame_54 rfl rfl ?_
            refine w_aaldC hB (c := 6) (v := cr (cr (M1m.2.2.1 64 2) 12) x1.toNatClampNeg) (crc_8_12 g1).1 rfl (by decide) hp.1 (crc_8_12 g1).2 g2 rfl (shc_ne (cre_26 (crc_8_12 g1).1 (by rw [(crc_8_12 g1).2]; exact inb_lt g2))) dX10_frame_55 ?_
            obtain ⟨o1, e_o1, hF⟩ := bndS hF
            rw [← e_o1]
            refine w_astore hB (L' := [(4, vr o1), (0, vr 64), (1, vi x1), (2, vi x2), (3, vi x3)]) dX10_frame_56 (by decide) rfl ?_
            refine w_iload_n hB 4 dX10_frame_58 rfl rfl ?_
            refine w_if_ne hB 70 dX10_frame_59 (by decide) (fun hc => ?_) (fun hc => ?_)
            · replace hF := ifF hc hF
              refine w_iload_n hB 4 dX10_frame_70 rfl rfl ?_
              refine w_iconst hB 1 (by decide) dX10_frame_71 ?_
              refine w_icmp_ne hB 83 dX10_frame_72 (by decide) (fun hc => ?_) (fun hc => ?_)
              · replace hF := ifF hc hF
                refine w_iload_n hB 4 dX10_frame_83 rfl rfl ?_
                refine w_iconst hB 2 (by decide) dX10_frame_84 ?_
                refine w_icmp_ne hB 98 dX10_frame_85 (by decide) (fun hc => ?_) (fun hc => ?_)
                · replace hF := ifF hc hF
                  refine w_aload hB 0 dX10_frame_98 rfl ?_
                  refine w_getC hB (v := cr o1 9) ff_X6_9 (by rw [e_o1]; exact (cre_26 (crc_8_12 g1).1 (by rw [(crc_8_12 g1).2]; exact inb_lt g2))) hp.1 rfl (shc_ne (crc_6_9 (by rw [e_o1]; exact (cre_26 (crc_8_12 g1).1 (by rw [(crc_8_12 g1).2]; exact inb_lt g2)))).1) q_228 dX10_frame_100 ?_
                  refine w_iload_n hB 3 dX10_frame_103 rfl rfl ?_
                  obtain ⟨g6, hF⟩ := gdS hF
                  refine w_iald hB (crc_6_9 (by rw [e_o1]; exact (cre_26 (crc_8_12 g1).1 (by rw [(crc_8_12 g1).2]; exact inb_lt g2)))).1 (Or.inl hp.1) (crc_6_9 (by rw [e_o1]; exact (cre_26 (crc_8_12 g1).1 (by rw [(crc_8_12 g1).2]; exact inb_lt g2)))).2 g6 dX10_frame_104 ?_
                  obtain ⟨e1, e2⟩ := retS hF
                  subst e2
                  exact w_iret hB dX10_frame_105 e1
                · replace hF := ifT hc hF
                  refine w_aload hB 0 dX10_frame_88 rfl ?_
                  refine w_getC hB (v := cr o1 8) ff_X6_8 (by rw [e_o1]; exact (cre_26 (crc_8_12 g1).1 (by rw [(crc_8_12 g1).2]; exact inb_lt g2))) hp.1 rfl (shc_ne (crc_6_8 (by rw [e_o1]; exact (cre_26 (crc_8_12 g1).1 (by rw [(crc_8_12 g1).2]; exact inb_lt g2)))).1) q_224 dX10_frame_90 ?_
                  refine w_iload_n hB 3 dX10_frame_93 rfl rfl ?_
                  obtain ⟨g5, hF⟩ := gdS hF
                  refine w_iald hB (crc_6_8 (by rw [e_o1]; exact (cre_26 (crc_8_12 g1).1 (by rw [(crc_8_12 g1).2]; exact inb_lt g2)))).1 (Or.inl hp.1) (crc_6_8 (by rw [e_o1]; exact (cre_26 (crc_8_12 g1).1 (by rw [(crc_8_12 g1).2]; exact inb_lt g2)))).2 g5 dX10_frame_94 ?_
                  refine w_goto hB 105 dX10_frame_95 (by decide) ?_
                  obtain ⟨e1, e2⟩ := retS hF
                  subst e2
                  exact w_iret hB dX10_frame_105 e1
              · replace hF := ifT hc hF
                refine w_aload hB 0 dX10_frame_75 rfl ?_
                refine w_getC hB (v := cr o1 7) ff_X6_7 (by rw [e_o1]; exact (cre_26 (crc_8_12 g1).1 (by rw [(crc_8_12 g1).2]; exact inb_lt g2))) hp.1 rfl (shc_ne (crc_6_7 (by rw [e_o1]; exact (cre_26 (crc_8_12 g1).1 (by rw [(crc_8_12 g1).2]; exact inb_lt g2)))).1) q_220 dX10_frame_77 ?_
                refine w_iload_n hB 3 dX10_frame_80 rfl rfl ?_
                obtain ⟨g4, hF⟩ := gdS hF
                refine w_iald hB (crc_6_7 (by rw [e_o1]; exact (cre_26 (crc_8_12 g1).1 (by rw [(crc_8_12 g1).2]; exact inb_lt g2)))).1 (Or.inl hp.1) (crc_6_7 (by rw [e_o1]; exact (cre_26 (crc_8_12 g1).1 (by rw [(crc_8_12 g1).2]; exact inb_lt g2)))).2 g4 dX10_frame_81 ?_
                obtain ⟨e1, e2⟩ := retS hF
                subst e2
                exact w_iret hB dX10_frame_82 e1
            · replace hF := ifT hc hF
              refine w_aload hB 0 dX10_frame_62 rfl ?_
              refine w_getC hB (v := cr o1 6) ff_X6_6 (by rw [e_o1]; exact (cre_26 (crc_8_12 g1).1 (by rw [(crc_8_12 g1).2]; exact inb_lt g2))) hp.1 rfl (shc_ne (crc_6_6 (by rw [e_o1]; exact (cre_26 (crc_8_12 g1).1 (by rw [(crc_8_12 g1).2]; exact inb_lt g2)))).1) q_216 dX10_frame_64 ?_
              refine w_iload_n hB 3 dX10_frame_67 rfl rfl ?_
              obtain ⟨g3, hF⟩ := gdS hF
              refine w_iald hB (crc_6_6 (by rw [e_o1]; exact (cre_26 (crc_8_12 g1).1 (by rw [(crc_8_12 g1).2]; exact inb_lt g2)))).1 (Or.inl hp.1) (crc_6_6 (by rw [e_o1]; exact (cre_26 (crc_8_12 g1).1 (by rw [(crc_8_12 g1).2]; exact inb_lt g2)))).2 g3 dX10_frame_68 ?_
              obtain ⟨e1, e2⟩ := retS hF
              subst e2
              exact w_iret hB dX10_frame_69 e1
          · replace hF := ifF hc hF
            exact Wt.sub (L' := []) [] rfl (b_X10_frame_b37 hp hB hF)
theorem c_X10_frame {K : Kt} {l : Launch} (hp : St K) {r : Int32} {M1 : Mem} {x1 : Int32} {x2 : Int32} {x3 : Int32} {M : Mem} (hF : f_X10_frame x1 x2 x3 M = some (r, M1)) : MT K l yX10_frame cX10_frame 5 (some .int) { frames := 1, cells := 0, slots := 0, locals := 21 } [vr 64, vi x1, vi x2, vi x3] M (some (vi r)) M1 0 0 :=
  MT_of (by decide) rfl (Nat.le_of_ble_eq_true rfl) (fun X _ hB _ => b_X10_frame hp hB hF)
def f_X10_frameT_b37 (M : Mem) : Option (Int32 × Mem) :=
  some (0, M)
set_option maxRecDepth 100000 in
set_option maxHeartbeats 4000000 in
theorem b_X10_frameT_b37 {K : Kt} {X : Xt} (hp : St K) (ht : KThr K) (hst : X.2.1.stackTraces = false) (hex : ∀ x ∈ (xC X).exceptionTable.toList, False) (hB : Bx K X { frames := 6, cells := 1, slots := 6, locals := 82 } cX10_frame 5 RX10 (some .int)) {r : Int32} {M1 : Mem} {M : Mem} (hF : f_X10_frameT_b37 M = some (r, M1)) : Wt K X (QX K X M1 1 6) 0 0 M 37 [] [] := by
  unfold f_X10_frameT_b37 at hF
  obtain ⟨e1, e2⟩ := retS hF
  subst e2
  exact w_throwE hB ht hst hex ht.1 (by decide) dX10_frame_37 dX10_frame_40 dX10_frame_41 dX10_frame_43 dX10_frame_46
def f_X10_frameT (x1 : Int32) (x2 : Int32) (x3 : Int32) (M : Mem) : Option (Int32 × Mem) :=
  cl (f_X10_isPlay x1 M) fun r1 M1m =>
  if r1 = 0 then
    f_X10_frameT_b37 M1m
  else
    if x2 < 0 then
      f_X10_frameT_b37 M1m
    else
      gd (shc (M1m.2.2.1 64 2) = 8) <|
      gd (inb x1 8) <|
      if (M1m.1 (cr (cr (M1m.2.2.1 64 2) 12) x1.toNatClampNeg) 5) ≤ x2 then
        f_X10_frameT_b37 M1m
      else
        if x3 < 0 then
          f_X10_frameT_b37 M1m
        else
          if x3 ≤ 3 then
            bnd (cr (cr (M1m.2.2.1 64 2) 12) x1.toNatClampNeg) fun o1 =>
            if x3 = 0 then
              gd (inb x2 10) <|
              none
            else
              if x3 = 1 then
                gd (inb x2 10) <|
                none
              else
                if x3 = 2 then
                  gd (inb x2 10) <|
                  none
                else
                  gd (inb x2 10) <|
                  none
          else
            f_X10_frameT_b37 M1m
set_option maxRecDepth 100000 in
set_option maxHeartbeats 4000000 in
theorem b_X10_frameT {K : Kt} {X : Xt} (hp : St K) (ht : KThr K) (hst : X.2.1.stackTraces = false) (hex : ∀ x ∈ (xC X).exceptionTable.toList, False) (hB : Bx K X { frames := 6, cells := 1, slots := 6, locals := 82 } cX10_frame 5 RX10 (some .int)) {r : Int32} {M1 : Mem} {x1 : Int32} {x2 : Int32} {x3 : Int32} {M : Mem} (hF : f_X10_frameT x1 x2 x3 M = some (r, M1)) : Wt K X (QX K X M1 1 6) 0 0 M 0 [(0, vr 64), (1, vi x1), (2, vi x2), (3, vi x3)] [] := by
  unfold f_X10_frameT at hF
  refine w_aload_n hB 0 dX10_frame_0 rfl rfl ?_
  refine w_iload_n hB 1 dX10_frame_1 rfl rfl ?_
  obtain ⟨r1, M1m, hc_M1m, hF⟩ := clS hF
  refine w_callV hB (ci := 8) (As := [vi x1]) (st := []) cw_X10_184 q_769 q_3 rfl sh_64 (Or.inl hp.1) (c_X10_isPlay hp hc_M1m) ⟨rfl, rfl⟩ (by decide) (by decide) rfl (Nat.le_of_ble_eq_true rfl) dX10_frame_2 rfl ?_
  refine w_if_eq hB 37 dX10_frame_5 (by decide) (fun hc => ?_) (fun hc => ?_)
  · replace hF := ifT hc hF
    exact Wt.sub (L' := []) [] rfl (b_X10_frameT_b37 hp ht hst hex hB hF)
  · replace hF := ifF hc hF
    refine w_iload_n hB 2 dX10_frame_8 rfl rfl ?_
    refine w_if_lt hB 37 dX10_frame_9 (by decide) (fun hc => ?_) (fun hc => ?_)
    · replace hF := ifT hc hF
      exact Wt.sub (L' := []) [] rfl (b_X10_frameT_b37 hp ht hst hex hB hF)
    · replace hF := ifF hc hF
      refine w_iload_n hB 2 dX10_frame_12 rfl rfl ?_
      refine w_aload_n hB 0 dX10_frame_13 rfl rfl ?_
      refine w_getR hB ff_X10_2 sh_64 (Or.inl hp.1) q_475 dX10_frame_14 ?_
      obtain ⟨g1, hF⟩ := gdS hF
      refine w_getC hB (v := cr (M1m.2.2.1 64 2) 12) ff_X9_12 g1 hp.1 rfl (shc_ne (crc_8_12 g1).1) q_313 dX10_frame_17 ?_
      refine w_iload_n hB 1 dX10_frame_20 rfl rfl ?_
      obtain ⟨g2, hF⟩ := gdS hF
      refine w_aaldC hB (c := 6) (v := cr (cr (M1m.2.2.1 64 2) 12) x1.toNatClampNeg) (crc_8_12 g1).1 rfl (by decide) hp.1 (crc_8_12 g1).2 g2 rfl (shc_ne (cre_26 (crc_8_12 g1).1 (by rw [(crc_8_12 g1).2]; exact inb_lt g2))) dX10_frame_21 ?_
      refine w_getI hB ff_X6_5 (cre_26 (crc_8_12 g1).1 (by rw [(crc_8_12 g1).2]; exact inb_lt g2)) (Or.inl hp.1) q_212 dX10_frame_22 ?_
      refine w_icmp_ge hB 37 dX10_frame_25 (by decide) (fun hc => ?_) (fun hc => ?_)
      · replace hF := ifT hc hF
        exact Wt.sub (L' := []) [] rfl (b_X10_frameT_b37 hp ht hst hex hB hF)
      · replace hF := ifF hc hF
        refine w_iload_n hB 3 dX10_frame_28 rfl rfl ?_
        refine w_if_lt hB 37 dX10_frame_29 (by decide) (fun hc => ?_) (fun hc => ?_)
        · replace hF := ifT hc hF
          exact Wt.sub (L' := []) [] rfl (b_X10_frameT_b37 hp ht hst hex hB hF)
        · replace hF := ifF hc hF
          refine w_iload_n hB 3 dX10_frame_32 rfl rfl ?_
          refine w_iconst hB 3 (by decide) dX10_frame_33 ?_
          refine w_icmp_le hB 47 dX10_frame_34 (by decide) (fun hc => ?_) (fun hc => ?_)
          · replace hF := ifT hc hF
            refine w_aload_n hB 0 dX10_frame_47 rfl rfl ?_
            refine w_getR hB ff_X10_2 sh_64 (Or.inl hp.1) q_475 dX10_frame_48 ?_
            refine w_getC hB (v := cr (M1m.2.2.1 64 2) 12) ff_X9_12 g1 hp.1 rfl (shc_ne (crc_8_12 g1).1) q_313 dX10_frame_51 ?_
            refine w_iload_n hB 1 dX10_frame_54 rfl rfl ?_
            refine w_aaldC hB (c := 6) (v := cr (cr (M1m.2.2.1 64 2) 12) x1.toNatClampNeg) (crc_8_12 g1).1 rfl (by decide) hp.1 (crc_8_12 g1).2 g2 rfl (shc_ne (cre_26 (crc_8_12 g1).1 (by rw [(crc_8_12 g1).2]; exact inb_lt g2))) dX10_frame_55 ?_
            obtain ⟨o1, e_o1, hF⟩ := bndS hF
            rw [← e_o1]
            refine w_astore hB (L' := [(4, vr o1), (0, vr 64), (1, vi x1), (2, vi x2), (3, vi x3)]) dX10_frame_56 (by decide) rfl ?_
            refine w_iload_n hB 4 dX10_frame_58 rfl rfl ?_
            refine w_if_ne hB 70 dX10_frame_59 (by decide) (fun hc => ?_) (fun hc => ?_)
            · replace hF := ifF hc hF
              refine w_iload_n hB 4 dX10_frame_70 rfl rfl ?_
              refine w_iconst hB 1 (by decide) dX10_frame_71 ?_
              refine w_icmp_ne hB 83 dX10_frame_72 (by decide) (fun hc => ?_) (fun hc => ?_)
              · replace hF := ifF hc hF
                refine w_iload_n hB 4 dX10_frame_83 rfl rfl ?_
                refine w_iconst hB 2 (by decide) dX10_frame_84 ?_
                refine w_icmp_ne hB 98 dX10_frame_85 (by decide) (fun hc => ?_) (fun hc => ?_)
                · replace hF := ifF hc hF
                  refine w_aload hB 0 dX10_frame_98 rfl ?_
                  refine w_getC hB (v := cr o1 9) ff_X6_9 (by rw [e_o1]; exact (cre_26 (crc_8_12 g1).1 (by rw [(crc_8_12 g1).2]; exact inb_lt g2))) hp.1 rfl (shc_ne (crc_6_9 (by rw [e_o1]; exact (cre_26 (crc_8_12 g1).1 (by rw [(crc_8_12 g1).2]; exact inb_lt g2)))).1) q_228 dX10_frame_100 ?_
                  refine w_iload_n hB 3 dX10_frame_103 rfl rfl ?_
                  obtain ⟨g6, hF⟩ := gdS hF
                  refine w_iald hB (crc_6_9 (by rw [e_o1]; exact (cre_26 (crc_8_12 g1).1 (by rw [(crc_8_12 g1).2]; exact inb_lt g2)))).1 (Or.inl hp.1) (crc_6_9 (by rw [e_o1]; exact (cre_26 (crc_8_12 g1).1 (by rw [(crc_8_12 g1).2]; exact inb_lt g2)))).2 g6 dX10_frame_104 ?_
                  cases hF
                · replace hF := ifT hc hF
                  refine w_aload hB 0 dX10_frame_88 rfl ?_
                  refine w_getC hB (v := cr o1 8) ff_X6_8 (by rw [e_o1]; exact (cre_26 (crc_8_12 g1).1 (by rw [(crc_8_12 g1).2]; exact inb_lt g2))) hp.1 rfl (shc_ne (crc_6_8 (by rw [e_o1]; exact (cre_26 (crc_8_12 g1).1 (by rw [(crc_8_12 g1).2]; exact inb_lt g2)))).1) q_224 dX10_frame_90 ?_
                  refine w_iload_n hB 3 dX10_frame_93 rfl rfl ?_
                  obtain ⟨g5, hF⟩ := gdS hF
                  refine w_iald hB (crc_6_8 (by rw [e_o1]; exact (cre_26 (crc_8_12 g1).1 (by rw [(crc_8_12 g1).2]; exact inb_lt g2)))).1 (Or.inl hp.1) (crc_6_8 (by rw [e_o1]; exact (cre_26 (crc_8_12 g1).1 (by rw [(crc_8_12 g1).2]; exact inb_lt g2)))).2 g5 dX10_frame_94 ?_
                  refine w_goto hB 105 dX10_frame_95 (by decide) ?_
                  cases hF
              · replace hF := ifT hc hF
                refine w_aload hB 0 dX10_frame_75 rfl ?_
                refine w_getC hB (v := cr o1 7) ff_X6_7 (by rw [e_o1]; exact (cre_26 (crc_8_12 g1).1 (by rw [(crc_8_12 g1).2]; exact inb_lt g2))) hp.1 rfl (shc_ne (crc_6_7 (by rw [e_o1]; exact (cre_26 (crc_8_12 g1).1 (by rw [(crc_8_12 g1).2]; exact inb_lt g2)))).1) q_220 dX10_frame_77 ?_
                refine w_iload_n hB 3 dX10_frame_80 rfl rfl ?_
                obtain ⟨g4, hF⟩ := gdS hF
                refine w_iald hB (crc_6_7 (by rw [e_o1]; exact (cre_26 (crc_8_12 g1).1 (by rw [(crc_8_12 g1).2]; exact inb_lt g2)))).1 (Or.inl hp.1) (crc_6_7 (by rw [e_o1]; exact (cre_26 (crc_8_12 g1).1 (by rw [(crc_8_12 g1).2]; exact inb_lt g2)))).2 g4 dX10_frame_81 ?_
                cases hF
            · replace hF := ifT hc hF
              refine w_aload hB 0 dX10_frame_62 rfl ?_
              refine w_getC hB (v := cr o1 6) ff_X6_6 (by rw [e_o1]; exact (cre_26 (crc_8_12 g1).1 (by rw [(crc_8_12 g1).2]; exact inb_lt g2))) hp.1 rfl (shc_ne (crc_6_6 (by rw [e_o1]; exact (cre_26 (crc_8_12 g1).1 (by rw [(crc_8_12 g1).2]; exact inb_lt g2)))).1) q_216 dX10_frame_64 ?_
              refine w_iload_n hB 3 dX10_frame_67 rfl rfl ?_
              obtain ⟨g3, hF⟩ := gdS hF
              refine w_iald hB (crc_6_6 (by rw [e_o1]; exact (cre_26 (crc_8_12 g1).1 (by rw [(crc_8_12 g1).2]; exact inb_lt g2)))).1 (Or.inl hp.1) (crc_6_6 (by rw [e_o1]; exact (cre_26 (crc_8_12 g1).1 (by rw [(crc_8_12 g1).2]; exact inb_lt g2)))).2 g3 dX10_frame_68 ?_
              cases hF
          · replace hF := ifF hc hF
            exact Wt.sub (L' := []) [] rfl (b_X10_frameT_b37 hp ht hst hex hB hF)
theorem c_X10_frameT {K : Kt} {l : Launch} (hp : St K) (ht : KThr K) (hst : l.stackTraces = false) {r : Int32} {M1 : Mem} {x1 : Int32} {x2 : Int32} {x3 : Int32} {M : Mem} (hF : f_X10_frameT x1 x2 x3 M = some (r, M1)) : MX K l yX10_frame cX10_frame 5 (some .int) { frames := 6, cells := 1, slots := 6, locals := 82 } [vr 64, vi x1, vi x2, vi x3] M M1 1 6 :=
  MX_of (by decide) rfl (Nat.le_of_ble_eq_true rfl) (fun X e hB hex => b_X10_frameT hp ht (by rw [e]; exact hst) hex hB hF)
def f_X10_log_b24 (M : Mem) : Option (Int32 × Mem) :=
  none
set_option maxRecDepth 100000 in
set_option maxHeartbeats 4000000 in
theorem b_X10_log_b24 {K : Kt} {X : Xt} (hp : St K) (hB : Bx K X { frames := 0, cells := 0, slots := 0, locals := 0 } cX10_log 3 RX10 (some .int)) {r : Int32} {M1 : Mem} {M : Mem} (hF : f_X10_log_b24 M = some (r, M1)) : Wt K X (QM K X (some (vi r)) M1 0 0) 0 0 M 24 [] [] := by
  unfold f_X10_log_b24 at hF
  cases hF
def f_X10_log (x1 : Int32) (x2 : Int32) (M : Mem) : Option (Int32 × Mem) :=
  if x1 < 0 then
    f_X10_log_b24 M
  else
    if (M.1 217 9) ≤ x1 then
      f_X10_log_b24 M
    else
      if x2 < 0 then
        f_X10_log_b24 M
      else
        if x2 < 4 then
          gd (inb ((x1 * 4) + x2) 64) <|
          some (M.1 222 ((x1 * 4) + x2).toNatClampNeg, M)
        else
          f_X10_log_b24 M
set_option maxRecDepth 100000 in
set_option maxHeartbeats 4000000 in
theorem b_X10_log {K : Kt} {X : Xt} (hp : St K) (hB : Bx K X { frames := 0, cells := 0, slots := 0, locals := 0 } cX10_log 3 RX10 (some .int)) {r : Int32} {M1 : Mem} {x1 : Int32} {x2 : Int32} {M : Mem} (hF : f_X10_log x1 x2 M = some (r, M1)) : Wt K X (QM K X (some (vi r)) M1 0 0) 0 0 M 0 [(0, vr 64), (1, vi x1), (2, vi x2)] [] := by
  unfold f_X10_log at hF
  refine w_iload_n hB 1 dX10_log_0 rfl rfl ?_
  refine w_if_lt hB 24 dX10_log_1 (by decide) (fun hc => ?_) (fun hc => ?_)
  · replace hF := ifT hc hF
    exact Wt.sub (L' := []) [] rfl (b_X10_log_b24 hp hB hF)
  · replace hF := ifF hc hF
    refine w_iload_n hB 1 dX10_log_4 rfl rfl ?_
    refine w_aload_n hB 0 dX10_log_5 rfl rfl ?_
    refine w_getC hB (v := 217) ff_X10_6 sh_64 hp.1 cr_64_6 (by decide) q_479 dX10_log_6 ?_
    refine w_getI hB ff_X3_9 sh_217 (Or.inl hp.1) q_450 dX10_log_9 ?_
    refine w_icmp_ge hB 24 dX10_log_12 (by decide) (fun hc => ?_) (fun hc => ?_)
    · replace hF := ifT hc hF
      exact Wt.sub (L' := []) [] rfl (b_X10_log_b24 hp hB hF)
    · replace hF := ifF hc hF
      refine w_iload_n hB 2 dX10_log_15 rfl rfl ?_
      refine w_if_lt hB 24 dX10_log_16 (by decide) (fun hc => ?_) (fun hc => ?_)
      · replace hF := ifT hc hF
        exact Wt.sub (L' := []) [] rfl (b_X10_log_b24 hp hB hF)
      · replace hF := ifF hc hF
        refine w_iload_n hB 2 dX10_log_19 rfl rfl ?_
        refine w_iconst hB 4 (by decide) dX10_log_20 ?_
        refine w_icmp_lt hB 35 dX10_log_21 (by decide) (fun hc => ?_) (fun hc => ?_)
        · replace hF := ifT hc hF
          refine w_aload_n hB 0 dX10_log_35 rfl rfl ?_
          refine w_getC hB (v := 217) ff_X10_6 sh_64 hp.1 cr_64_6 (by decide) q_479 dX10_log_36 ?_
          refine w_getC hB (v := 222) ff_X3_8 sh_217 hp.1 cr_217_8 (by decide) q_448 dX10_log_39 ?_
          refine w_iload_n hB 1 dX10_log_42 rfl rfl ?_
          refine w_iconst hB 4 (by decide) dX10_log_43 ?_
          refine w_imul hB dX10_log_44 ?_
          refine w_iload_n hB 2 dX10_log_45 rfl rfl ?_
          refine w_iadd hB dX10_log_46 ?_
          obtain ⟨g1, hF⟩ := gdS hF
          refine w_iald hB sh_222 (Or.inl hp.1) sl_222 g1 dX10_log_47 ?_
          obtain ⟨e1, e2⟩ := retS hF
          subst e2
          exact w_iret hB dX10_log_48 e1
        · replace hF := ifF hc hF
          exact Wt.sub (L' := []) [] rfl (b_X10_log_b24 hp hB hF)
theorem c_X10_log {K : Kt} {l : Launch} (hp : St K) {r : Int32} {M1 : Mem} {x1 : Int32} {x2 : Int32} {M : Mem} (hF : f_X10_log x1 x2 M = some (r, M1)) : MT K l yX10_log cX10_log 3 (some .int) { frames := 0, cells := 0, slots := 0, locals := 0 } [vr 64, vi x1, vi x2] M (some (vi r)) M1 0 0 :=
  MT_of (by decide) rfl (Nat.le_of_ble_eq_true rfl) (fun X _ hB _ => b_X10_log hp hB hF)
def f_X10_logT_b24 (M : Mem) : Option (Int32 × Mem) :=
  some (0, M)
set_option maxRecDepth 100000 in
set_option maxHeartbeats 4000000 in
theorem b_X10_logT_b24 {K : Kt} {X : Xt} (hp : St K) (ht : KThr K) (hst : X.2.1.stackTraces = false) (hex : ∀ x ∈ (xC X).exceptionTable.toList, False) (hB : Bx K X { frames := 6, cells := 1, slots := 6, locals := 82 } cX10_log 3 RX10 (some .int)) {r : Int32} {M1 : Mem} {M : Mem} (hF : f_X10_logT_b24 M = some (r, M1)) : Wt K X (QX K X M1 1 6) 0 0 M 24 [] [] := by
  unfold f_X10_logT_b24 at hF
  obtain ⟨e1, e2⟩ := retS hF
  subst e2
  exact w_throwW hB ht hst hex ht.2.1 (by decide) dX10_log_24 dX10_log_27 dX10_log_28 dX10_log_31 dX10_log_34
def f_X10_logT (x1 : Int32) (x2 : Int32) (M : Mem) : Option (Int32 × Mem) :=
  if x1 < 0 then
    f_X10_logT_b24 M
  else
    if (M.1 217 9) ≤ x1 then
      f_X10_logT_b24 M
    else
      if x2 < 0 then
        f_X10_logT_b24 M
      else
        if x2 < 4 then
          gd (inb ((x1 * 4) + x2) 64) <|
          none
        else
          f_X10_logT_b24 M
set_option maxRecDepth 100000 in
set_option maxHeartbeats 4000000 in
theorem b_X10_logT {K : Kt} {X : Xt} (hp : St K) (ht : KThr K) (hst : X.2.1.stackTraces = false) (hex : ∀ x ∈ (xC X).exceptionTable.toList, False) (hB : Bx K X { frames := 6, cells := 1, slots := 6, locals := 82 } cX10_log 3 RX10 (some .int)) {r : Int32} {M1 : Mem} {x1 : Int32} {x2 : Int32} {M : Mem} (hF : f_X10_logT x1 x2 M = some (r, M1)) : Wt K X (QX K X M1 1 6) 0 0 M 0 [(0, vr 64), (1, vi x1), (2, vi x2)] [] := by
  unfold f_X10_logT at hF
  refine w_iload_n hB 1 dX10_log_0 rfl rfl ?_
  refine w_if_lt hB 24 dX10_log_1 (by decide) (fun hc => ?_) (fun hc => ?_)
  · replace hF := ifT hc hF
    exact Wt.sub (L' := []) [] rfl (b_X10_logT_b24 hp ht hst hex hB hF)
  · replace hF := ifF hc hF
    refine w_iload_n hB 1 dX10_log_4 rfl rfl ?_
    refine w_aload_n hB 0 dX10_log_5 rfl rfl ?_
    refine w_getC hB (v := 217) ff_X10_6 sh_64 hp.1 cr_64_6 (by decide) q_479 dX10_log_6 ?_
    refine w_getI hB ff_X3_9 sh_217 (Or.inl hp.1) q_450 dX10_log_9 ?_
    refine w_icmp_ge hB 24 dX10_log_12 (by decide) (fun hc => ?_) (fun hc => ?_)
    · replace hF := ifT hc hF
      exact Wt.sub (L' := []) [] rfl (b_X10_logT_b24 hp ht hst hex hB hF)
    · replace hF := ifF hc hF
      refine w_iload_n hB 2 dX10_log_15 rfl rfl ?_
      refine w_if_lt hB 24 dX10_log_16 (by decide) (fun hc => ?_) (fun hc => ?_)
      · replace hF := ifT hc hF
        exact Wt.sub (L' := []) [] rfl (b_X10_logT_b24 hp ht hst hex hB hF)
      · replace hF := ifF hc hF
        refine w_iload_n hB 2 dX10_log_19 rfl rfl ?_
        refine w_iconst hB 4 (by decide) dX10_log_20 ?_
        refine w_icmp_lt hB 35 dX10_log_21 (by decide) (fun hc => ?_) (fun hc => ?_)
        · replace hF := ifT hc hF
          refine w_aload_n hB 0 dX10_log_35 rfl rfl ?_
          refine w_getC hB (v := 217) ff_X10_6 sh_64 hp.1 cr_64_6 (by decide) q_479 dX10_log_36 ?_
          refine w_getC hB (v := 222) ff_X3_8 sh_217 hp.1 cr_217_8 (by decide) q_448 dX10_log_39 ?_
          refine w_iload_n hB 1 dX10_log_42 rfl rfl ?_
          refine w_iconst hB 4 (by decide) dX10_log_43 ?_
          refine w_imul hB dX10_log_44 ?_
          refine w_iload_n hB 2 dX10_log_45 rfl rfl ?_
          refine w_iadd hB dX10_log_46 ?_
          obtain ⟨g1, hF⟩ := gdS hF
          refine w_iald hB sh_222 (Or.inl hp.1) sl_222 g1 dX10_log_47 ?_
          cases hF
        · replace hF := ifF hc hF
          exact Wt.sub (L' := []) [] rfl (b_X10_logT_b24 hp ht hst hex hB hF)
theorem c_X10_logT {K : Kt} {l : Launch} (hp : St K) (ht : KThr K) (hst : l.stackTraces = false) {r : Int32} {M1 : Mem} {x1 : Int32} {x2 : Int32} {M : Mem} (hF : f_X10_logT x1 x2 M = some (r, M1)) : MX K l yX10_log cX10_log 3 (some .int) { frames := 6, cells := 1, slots := 6, locals := 82 } [vr 64, vi x1, vi x2] M M1 1 6 :=
  MX_of (by decide) rfl (Nat.le_of_ble_eq_true rfl) (fun X e hB hex => b_X10_logT hp ht (by rw [e]; exact hst) hex hB hF)
def f_X10_row_b12 (M : Mem) : Option (Int32 × Mem) :=
  none
set_option maxRecDepth 100000 in
set_option maxHeartbeats 4000000 in
theorem b_X10_row_b12 {K : Kt} {X : Xt} (hp : St K) (hB : Bx K X { frames := 0, cells := 0, slots := 0, locals := 0 } cX10_row 2 RX10 (some .int)) {r : Int32} {M1 : Mem} {M : Mem} (hF : f_X10_row_b12 M = some (r, M1)) : Wt K X (QM K X (some (vi r)) M1 0 0) 0 0 M 12 [] [] := by
  unfold f_X10_row_b12 at hF
  cases hF
def f_X10_row (x1 : Int32) (M : Mem) : Option (Int32 × Mem) :=
  if x1 < 0 then
    f_X10_row_b12 M
  else
    if x1 < (M.1 64 13) then
      gd (inb x1 16) <|
      some (M.1 226 x1.toNatClampNeg, M)
    else
      f_X10_row_b12 M
set_option maxRecDepth 100000 in
set_option maxHeartbeats 4000000 in
theorem b_X10_row {K : Kt} {X : Xt} (hp : St K) (hB : Bx K X { frames := 0, cells := 0, slots := 0, locals := 0 } cX10_row 2 RX10 (some .int)) {r : Int32} {M1 : Mem} {x1 : Int32} {M : Mem} (hF : f_X10_row x1 M = some (r, M1)) : Wt K X (QM K X (some (vi r)) M1 0 0) 0 0 M 0 [(0, vr 64), (1, vi x1)] [] := by
  unfold f_X10_row at hF
  refine w_iload_n hB 1 dX10_row_0 rfl rfl ?_
  refine w_if_lt hB 12 dX10_row_1 (by decide) (fun hc => ?_) (fun hc => ?_)
  · replace hF := ifT hc hF
    exact Wt.sub (L' := []) [] rfl (b_X10_row_b12 hp hB hF)
  · replace hF := ifF hc hF
    refine w_iload_n hB 1 dX10_row_4 rfl rfl ?_
    refine w_aload_n hB 0 dX10_row_5 rfl rfl ?_
    refine w_getI hB ff_X10_13 sh_64 (Or.inl hp.1) q_486 dX10_row_6 ?_
    refine w_icmp_lt hB 23 dX10_row_9 (by decide) (fun hc => ?_) (fun hc => ?_)
    · replace hF := ifT hc hF
      refine w_aload_n hB 0 dX10_row_23 rfl rfl ?_
      refine w_getC hB (v := 226) ff_X10_12 sh_64 hp.1 cr_64_12 (by decide) q_485 dX10_row_24 ?_
      refine w_iload_n hB 1 dX10_row_27 rfl rfl ?_
      obtain ⟨g1, hF⟩ := gdS hF
      refine w_iald hB sh_226 (Or.inl hp.1) sl_226 g1 dX10_row_28 ?_
      obtain ⟨e1, e2⟩ := retS hF
      subst e2
      exact w_iret hB dX10_row_29 e1
    · replace hF := ifF hc hF
      exact Wt.sub (L' := []) [] rfl (b_X10_row_b12 hp hB hF)
theorem c_X10_row {K : Kt} {l : Launch} (hp : St K) {r : Int32} {M1 : Mem} {x1 : Int32} {M : Mem} (hF : f_X10_row x1 M = some (r, M1)) : MT K l yX10_row cX10_row 2 (some .int) { frames := 0, cells := 0, slots := 0, locals := 0 } [vr 64, vi x1] M (some (vi r)) M1 0 0 :=
  MT_of (by decide) rfl (Nat.le_of_ble_eq_true rfl) (fun X _ hB _ => b_X10_row hp hB hF)
def f_X10_rowT_b12 (M : Mem) : Option (Int32 × Mem) :=
  some (0, M)
set_option maxRecDepth 100000 in
set_option maxHeartbeats 4000000 in
theorem b_X10_rowT_b12 {K : Kt} {X : Xt} (hp : St K) (ht : KThr K) (hst : X.2.1.stackTraces = false) (hex : ∀ x ∈ (xC X).exceptionTable.toList, False) (hB : Bx K X { frames := 6, cells := 1, slots := 6, locals := 82 } cX10_row 2 RX10 (some .int)) {r : Int32} {M1 : Mem} {M : Mem} (hF : f_X10_rowT_b12 M = some (r, M1)) : Wt K X (QX K X M1 1 6) 0 0 M 12 [] [] := by
  unfold f_X10_rowT_b12 at hF
  obtain ⟨e1, e2⟩ := retS hF
  subst e2
  exact w_throwW hB ht hst hex ht.2.2.1 (by decide) dX10_row_12 dX10_row_15 dX10_row_16 dX10_row_19 dX10_row_22
def f_X10_rowT (x1 : Int32) (M : Mem) : Option (Int32 × Mem) :=
  if x1 < 0 then
    f_X10_rowT_b12 M
  else
    if x1 < (M.1 64 13) then
      gd (inb x1 16) <|
      none
    else
      f_X10_rowT_b12 M
set_option maxRecDepth 100000 in
set_option maxHeartbeats 4000000 in
theorem b_X10_rowT {K : Kt} {X : Xt} (hp : St K) (ht : KThr K) (hst : X.2.1.stackTraces = false) (hex : ∀ x ∈ (xC X).exceptionTable.toList, False) (hB : Bx K X { frames := 6, cells := 1, slots := 6, locals := 82 } cX10_row 2 RX10 (some .int)) {r : Int32} {M1 : Mem} {x1 : Int32} {M : Mem} (hF : f_X10_rowT x1 M = some (r, M1)) : Wt K X (QX K X M1 1 6) 0 0 M 0 [(0, vr 64), (1, vi x1)] [] := by
  unfold f_X10_rowT at hF
  refine w_iload_n hB 1 dX10_row_0 rfl rfl ?_
  refine w_if_lt hB 12 dX10_row_1 (by decide) (fun hc => ?_) (fun hc => ?_)
  · replace hF := ifT hc hF
    exact Wt.sub (L' := []) [] rfl (b_X10_rowT_b12 hp ht hst hex hB hF)
  · replace hF := ifF hc hF
    refine w_iload_n hB 1 dX10_row_4 rfl rfl ?_
    refine w_aload_n hB 0 dX10_row_5 rfl rfl ?_
    refine w_getI hB ff_X10_13 sh_64 (Or.inl hp.1) q_486 dX10_row_6 ?_
    refine w_icmp_lt hB 23 dX10_row_9 (by decide) (fun hc => ?_) (fun hc => ?_)
    · replace hF := ifT hc hF
      refine w_aload_n hB 0 dX10_row_23 rfl rfl ?_
      refine w_getC hB (v := 226) ff_X10_12 sh_64 hp.1 cr_64_12 (by decide) q_485 dX10_row_24 ?_
      refine w_iload_n hB 1 dX10_row_27 rfl rfl ?_
      obtain ⟨g1, hF⟩ := gdS hF
      refine w_iald hB sh_226 (Or.inl hp.1) sl_226 g1 dX10_row_28 ?_
      cases hF
    · replace hF := ifF hc hF
      exact Wt.sub (L' := []) [] rfl (b_X10_rowT_b12 hp ht hst hex hB hF)
theorem c_X10_rowT {K : Kt} {l : Launch} (hp : St K) (ht : KThr K) (hst : l.stackTraces = false) {r : Int32} {M1 : Mem} {x1 : Int32} {M : Mem} (hF : f_X10_rowT x1 M = some (r, M1)) : MX K l yX10_row cX10_row 2 (some .int) { frames := 6, cells := 1, slots := 6, locals := 82 } [vr 64, vi x1] M M1 1 6 :=
  MX_of (by decide) rfl (Nat.le_of_ble_eq_true rfl) (fun X e hB hex => b_X10_rowT hp ht (by rw [e]; exact hst) hex hB hF)
