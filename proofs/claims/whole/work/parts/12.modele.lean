def f_X11_count (x1 : Int32) (M : Mem) : Option (Int32 × Mem) :=
  bnd (setI M 311 0 0) fun M1m =>
  if x1 = 0 then
    some (M1m.1 313 0, M1m)
  else
  if x1 = 1 then
    some (M1m.1 313 5, M1m)
  else
  if x1 = 2 then
    some (M1m.1 313 1, M1m)
  else
  if x1 = 3 then
    some (M1m.1 313 2, M1m)
  else
  if x1 = 4 then
    some (M1m.1 313 3, M1m)
  else
  if x1 = 5 then
    some (M1m.1 313 4, M1m)
  else
  if x1 = 6 then
    some (M1m.1 340 0, M1m)
  else
  if x1 = 7 then
    some (M1m.1 340 49, M1m)
  else
  if x1 = 8 then
    some (M1m.1 311 40, M1m)
  else
  if x1 = 9 then
    some (M1m.1 311 2, M1m)
  else
  if x1 = 10 then
    some (M1m.1 311 46, M1m)
  else
  if x1 = 11 then
    gd (inb (x1 - 11) 8) <|
    some (M1m.1 314 (x1 - 11).toNatClampNeg, M1m)
  else
  if x1 = 12 then
    gd (inb (x1 - 11) 8) <|
    some (M1m.1 314 (x1 - 11).toNatClampNeg, M1m)
  else
  if x1 = 13 then
    gd (inb (x1 - 11) 8) <|
    some (M1m.1 314 (x1 - 11).toNatClampNeg, M1m)
  else
  if x1 = 14 then
    gd (inb (x1 - 11) 8) <|
    some (M1m.1 314 (x1 - 11).toNatClampNeg, M1m)
  else
    some ((-1), M1m)
set_option maxRecDepth 100000 in
set_option maxHeartbeats 4000000 in
theorem b_X11_count {K : Kt} {X : Xt} (hp : St K) (hB : Bx K X { frames := 0, cells := 0, slots := 0, locals := 0 } cX11_count 2 RX11 (some .int)) {r : Int32} {M1 : Mem} {x1 : Int32} {M : Mem} (hF : f_X11_count x1 M = some (r, M1)) : Wt K X (QM K X (some (vi r)) M1 0 0) 0 0 M 0 [(0, vr 311), (1, vi x1)] [] := by
  unfold f_X11_count at hF
  refine w_aload_n hB 0 dX11_count_0 rfl rfl ?_
  refine w_iconst hB 0 (by decide) dX11_count_1 ?_
  obtain ⟨M1m, e_M1m, hF⟩ := bndS hF
  refine w_putI hB ff_X11_0 sh_311 (Or.inl hp.1) q_1159 e_M1m dX11_count_2 ?_
  refine w_iload_n hB 1 dX11_count_5 rfl rfl ?_
  by_cases ht0 : x1 = 0
  · replace hF := ifT ht0 hF
    refine w_tsIn hB 80 dX11_count_6 (off := 74) (by rw [ht0]; decide) (by rw [ht0]; decide) (by rw [ht0]; rfl) (by decide) ?_
    refine w_aload_n hB 0 dX11_count_80 rfl rfl ?_
    refine w_getC hB (v := 313) ff_X11_11 sh_311 hp.1 cr_311_11 (by decide) q_1170 dX11_count_81 ?_
    refine w_iconst hB 0 (by decide) dX11_count_84 ?_
    refine w_iald hB sh_313 (Or.inl hp.1) sl_313 (by decide) dX11_count_85 ?_
    rw [show (0 : Int32).toNatClampNeg = 0 by decide]
    cases hF
    exact w_iret hB dX11_count_86 rfl
  replace hF := ifF ht0 hF
  by_cases ht1 : x1 = 1
  · replace hF := ifT ht1 hF
    refine w_tsIn hB 87 dX11_count_6 (off := 81) (by rw [ht1]; decide) (by rw [ht1]; decide) (by rw [ht1]; rfl) (by decide) ?_
    refine w_aload_n hB 0 dX11_count_87 rfl rfl ?_
    refine w_getC hB (v := 313) ff_X11_11 sh_311 hp.1 cr_311_11 (by decide) q_1170 dX11_count_88 ?_
    refine w_iconst hB 5 (by decide) dX11_count_91 ?_
    refine w_iald hB sh_313 (Or.inl hp.1) sl_313 (by decide) dX11_count_92 ?_
    rw [show (5 : Int32).toNatClampNeg = 5 by decide]
    cases hF
    exact w_iret hB dX11_count_93 rfl
  replace hF := ifF ht1 hF
  by_cases ht2 : x1 = 2
  · replace hF := ifT ht2 hF
    refine w_tsIn hB 94 dX11_count_6 (off := 88) (by rw [ht2]; decide) (by rw [ht2]; decide) (by rw [ht2]; rfl) (by decide) ?_
    refine w_aload_n hB 0 dX11_count_94 rfl rfl ?_
    refine w_getC hB (v := 313) ff_X11_11 sh_311 hp.1 cr_311_11 (by decide) q_1170 dX11_count_95 ?_
    refine w_iconst hB 1 (by decide) dX11_count_98 ?_
    refine w_iald hB sh_313 (Or.inl hp.1) sl_313 (by decide) dX11_count_99 ?_
    rw [show (1 : Int32).toNatClampNeg = 1 by decide]
    cases hF
    exact w_iret hB dX11_count_100 rfl
  replace hF := ifF ht2 hF
  by_cases ht3 : x1 = 3
  · replace hF := ifT ht3 hF
    refine w_tsIn hB 101 dX11_count_6 (off := 95) (by rw [ht3]; decide) (by rw [ht3]; decide) (by rw [ht3]; rfl) (by decide) ?_
    refine w_aload_n hB 0 dX11_count_101 rfl rfl ?_
    refine w_getC hB (v := 313) ff_X11_11 sh_311 hp.1 cr_311_11 (by decide) q_1170 dX11_count_102 ?_
    refine w_iconst hB 2 (by decide) dX11_count_105 ?_
    refine w_iald hB sh_313 (Or.inl hp.1) sl_313 (by decide) dX11_count_106 ?_
    rw [show (2 : Int32).toNatClampNeg = 2 by decide]
    cases hF
    exact w_iret hB dX11_count_107 rfl
  replace hF := ifF ht3 hF
  by_cases ht4 : x1 = 4
  · replace hF := ifT ht4 hF
    refine w_tsIn hB 108 dX11_count_6 (off := 102) (by rw [ht4]; decide) (by rw [ht4]; decide) (by rw [ht4]; rfl) (by decide) ?_
    refine w_aload_n hB 0 dX11_count_108 rfl rfl ?_
    refine w_getC hB (v := 313) ff_X11_11 sh_311 hp.1 cr_311_11 (by decide) q_1170 dX11_count_109 ?_
    refine w_iconst hB 3 (by decide) dX11_count_112 ?_
    refine w_iald hB sh_313 (Or.inl hp.1) sl_313 (by decide) dX11_count_113 ?_
    rw [show (3 : Int32).toNatClampNeg = 3 by decide]
    cases hF
    exact w_iret hB dX11_count_114 rfl
  replace hF := ifF ht4 hF
  by_cases ht5 : x1 = 5
  · replace hF := ifT ht5 hF
    refine w_tsIn hB 115 dX11_count_6 (off := 109) (by rw [ht5]; decide) (by rw [ht5]; decide) (by rw [ht5]; rfl) (by decide) ?_
    refine w_aload_n hB 0 dX11_count_115 rfl rfl ?_
    refine w_getC hB (v := 313) ff_X11_11 sh_311 hp.1 cr_311_11 (by decide) q_1170 dX11_count_116 ?_
    refine w_iconst hB 4 (by decide) dX11_count_119 ?_
    refine w_iald hB sh_313 (Or.inl hp.1) sl_313 (by decide) dX11_count_120 ?_
    rw [show (4 : Int32).toNatClampNeg = 4 by decide]
    cases hF
    exact w_iret hB dX11_count_121 rfl
  replace hF := ifF ht5 hF
  by_cases ht6 : x1 = 6
  · replace hF := ifT ht6 hF
    refine w_tsIn hB 122 dX11_count_6 (off := 116) (by rw [ht6]; decide) (by rw [ht6]; decide) (by rw [ht6]; rfl) (by decide) ?_
    refine w_aload_n hB 0 dX11_count_122 rfl rfl ?_
    refine w_getC hB (v := 340) ff_X11_38 sh_311 hp.1 cr_311_38 (by decide) q_1197 dX11_count_123 ?_
    refine w_iconst hB 0 (by decide) dX11_count_126 ?_
    refine w_iald hB sh_340 (Or.inl hp.1) sl_340 (by decide) dX11_count_127 ?_
    rw [show (0 : Int32).toNatClampNeg = 0 by decide]
    cases hF
    exact w_iret hB dX11_count_128 rfl
  replace hF := ifF ht6 hF
  by_cases ht7 : x1 = 7
  · replace hF := ifT ht7 hF
    refine w_tsIn hB 129 dX11_count_6 (off := 123) (by rw [ht7]; decide) (by rw [ht7]; decide) (by rw [ht7]; rfl) (by decide) ?_
    refine w_aload_n hB 0 dX11_count_129 rfl rfl ?_
    refine w_getC hB (v := 340) ff_X11_38 sh_311 hp.1 cr_311_38 (by decide) q_1197 dX11_count_130 ?_
    refine w_bipush hB 49 (by decide) dX11_count_133 ?_
    refine w_iald hB sh_340 (Or.inl hp.1) sl_340 (by decide) dX11_count_135 ?_
    rw [show (49 : Int32).toNatClampNeg = 49 by decide]
    cases hF
    exact w_iret hB dX11_count_136 rfl
  replace hF := ifF ht7 hF
  by_cases ht8 : x1 = 8
  · replace hF := ifT ht8 hF
    refine w_tsIn hB 137 dX11_count_6 (off := 131) (by rw [ht8]; decide) (by rw [ht8]; decide) (by rw [ht8]; rfl) (by decide) ?_
    refine w_aload_n hB 0 dX11_count_137 rfl rfl ?_
    refine w_getI hB ff_X11_40 sh_311 (Or.inl hp.1) q_1199 dX11_count_138 ?_
    cases hF
    exact w_iret hB dX11_count_141 rfl
  replace hF := ifF ht8 hF
  by_cases ht9 : x1 = 9
  · replace hF := ifT ht9 hF
    refine w_tsIn hB 142 dX11_count_6 (off := 136) (by rw [ht9]; decide) (by rw [ht9]; decide) (by rw [ht9]; rfl) (by decide) ?_
    refine w_aload_n hB 0 dX11_count_142 rfl rfl ?_
    refine w_getI hB ff_X11_2 sh_311 (Or.inl hp.1) q_1161 dX11_count_143 ?_
    cases hF
    exact w_iret hB dX11_count_146 rfl
  replace hF := ifF ht9 hF
  by_cases ht10 : x1 = 10
  · replace hF := ifT ht10 hF
    refine w_tsIn hB 147 dX11_count_6 (off := 141) (by rw [ht10]; decide) (by rw [ht10]; decide) (by rw [ht10]; rfl) (by decide) ?_
    refine w_aload_n hB 0 dX11_count_147 rfl rfl ?_
    refine w_getI hB ff_X11_46 sh_311 (Or.inl hp.1) q_1205 dX11_count_148 ?_
    cases hF
    exact w_iret hB dX11_count_151 rfl
  replace hF := ifF ht10 hF
  by_cases ht11 : x1 = 11
  · replace hF := ifT ht11 hF
    refine w_tsIn hB 152 dX11_count_6 (off := 146) (by rw [ht11]; decide) (by rw [ht11]; decide) (by rw [ht11]; rfl) (by decide) ?_
    refine w_aload_n hB 0 dX11_count_152 rfl rfl ?_
    refine w_getC hB (v := 314) ff_X11_12 sh_311 hp.1 cr_311_12 (by decide) q_1171 dX11_count_153 ?_
    refine w_iload_n hB 1 dX11_count_156 rfl rfl ?_
    refine w_bipush hB 11 (by decide) dX11_count_157 ?_
    refine w_isub hB dX11_count_159 ?_
    obtain ⟨g1, hF⟩ := gdS hF
    refine w_iald hB sh_314 (Or.inl hp.1) sl_314 g1 dX11_count_160 ?_
    cases hF
    exact w_iret hB dX11_count_161 rfl
  replace hF := ifF ht11 hF
  by_cases ht12 : x1 = 12
  · replace hF := ifT ht12 hF
    refine w_tsIn hB 152 dX11_count_6 (off := 146) (by rw [ht12]; decide) (by rw [ht12]; decide) (by rw [ht12]; rfl) (by decide) ?_
    refine w_aload_n hB 0 dX11_count_152 rfl rfl ?_
    refine w_getC hB (v := 314) ff_X11_12 sh_311 hp.1 cr_311_12 (by decide) q_1171 dX11_count_153 ?_
    refine w_iload_n hB 1 dX11_count_156 rfl rfl ?_
    refine w_bipush hB 11 (by decide) dX11_count_157 ?_
    refine w_isub hB dX11_count_159 ?_
    obtain ⟨g2, hF⟩ := gdS hF
    refine w_iald hB sh_314 (Or.inl hp.1) sl_314 g2 dX11_count_160 ?_
    cases hF
    exact w_iret hB dX11_count_161 rfl
  replace hF := ifF ht12 hF
  by_cases ht13 : x1 = 13
  · replace hF := ifT ht13 hF
    refine w_tsIn hB 152 dX11_count_6 (off := 146) (by rw [ht13]; decide) (by rw [ht13]; decide) (by rw [ht13]; rfl) (by decide) ?_
    refine w_aload_n hB 0 dX11_count_152 rfl rfl ?_
    refine w_getC hB (v := 314) ff_X11_12 sh_311 hp.1 cr_311_12 (by decide) q_1171 dX11_count_153 ?_
    refine w_iload_n hB 1 dX11_count_156 rfl rfl ?_
    refine w_bipush hB 11 (by decide) dX11_count_157 ?_
    refine w_isub hB dX11_count_159 ?_
    obtain ⟨g3, hF⟩ := gdS hF
    refine w_iald hB sh_314 (Or.inl hp.1) sl_314 g3 dX11_count_160 ?_
    cases hF
    exact w_iret hB dX11_count_161 rfl
  replace hF := ifF ht13 hF
  by_cases ht14 : x1 = 14
  · replace hF := ifT ht14 hF
    refine w_tsIn hB 152 dX11_count_6 (off := 146) (by rw [ht14]; decide) (by rw [ht14]; decide) (by rw [ht14]; rfl) (by decide) ?_
    refine w_aload_n hB 0 dX11_count_152 rfl rfl ?_
    refine w_getC hB (v := 314) ff_X11_12 sh_311 hp.1 cr_311_12 (by decide) q_1171 dX11_count_153 ?_
    refine w_iload_n hB 1 dX11_count_156 rfl rfl ?_
    refine w_bipush hB 11 (by decide) dX11_count_157 ?_
    refine w_isub hB dX11_count_159 ?_
    obtain ⟨g4, hF⟩ := gdS hF
    refine w_iald hB sh_314 (Or.inl hp.1) sl_314 g4 dX11_count_160 ?_
    cases hF
    exact w_iret hB dX11_count_161 rfl
  replace hF := ifF ht14 hF
  have tht0 := lv_neT ht0 (show (0 : Int32).toInt = 0 by decide)
  have tht1 := lv_neT ht1 (show (1 : Int32).toInt = 1 by decide)
  have tht2 := lv_neT ht2 (show (2 : Int32).toInt = 2 by decide)
  have tht3 := lv_neT ht3 (show (3 : Int32).toInt = 3 by decide)
  have tht4 := lv_neT ht4 (show (4 : Int32).toInt = 4 by decide)
  have tht5 := lv_neT ht5 (show (5 : Int32).toInt = 5 by decide)
  have tht6 := lv_neT ht6 (show (6 : Int32).toInt = 6 by decide)
  have tht7 := lv_neT ht7 (show (7 : Int32).toInt = 7 by decide)
  have tht8 := lv_neT ht8 (show (8 : Int32).toInt = 8 by decide)
  have tht9 := lv_neT ht9 (show (9 : Int32).toInt = 9 by decide)
  have tht10 := lv_neT ht10 (show (10 : Int32).toInt = 10 by decide)
  have tht11 := lv_neT ht11 (show (11 : Int32).toInt = 11 by decide)
  have tht12 := lv_neT ht12 (show (12 : Int32).toInt = 12 by decide)
  have tht13 := lv_neT ht13 (show (13 : Int32).toInt = 13 by decide)
  have tht14 := lv_neT ht14 (show (14 : Int32).toInt = 14 by decide)
  refine w_tsOut hB 162 dX11_count_6 (by omega) (by decide) ?_
  refine w_iconst hB (-1) (by decide) dX11_count_162 ?_
  cases hF
  exact w_iret hB dX11_count_163 rfl
theorem c_X11_count {K : Kt} {l : Launch} (hp : St K) {r : Int32} {M1 : Mem} {x1 : Int32} {M : Mem} (hF : f_X11_count x1 M = some (r, M1)) : MT K l yX11_count cX11_count 2 (some .int) { frames := 0, cells := 0, slots := 0, locals := 0 } [vr 311, vi x1] M (some (vi r)) M1 0 0 :=
  MT_of (by decide) rfl (Nat.le_of_ble_eq_true rfl) (fun X _ hB _ => b_X11_count hp hB hF)
