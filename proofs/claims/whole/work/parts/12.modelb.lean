def f_X11_readFrame_b238 (x1 : Int32) (M : Mem) : Option Mem :=
  gd (inb x1 16) <|
  bnd (setI M 335 (x1.toNatClampNeg) ((M.1 335 x1.toNatClampNeg) + 1)) fun M1m =>
  some M1m
set_option maxRecDepth 100000 in
set_option maxHeartbeats 4000000 in
theorem b_X11_readFrame_b238 {K : Kt} {X : Xt} (hp : St K) (hB : Bx K X { frames := 9, cells := 0, slots := 0, locals := 191 } cX11_readFrame 5 RX11 none) {M1 : Mem} {x1 : Int32} {M : Mem} (hF : f_X11_readFrame_b238 x1 M = some M1) : Wt K X (QM K X none M1 0 0) 0 0 M 238 [(0, vr 311), (1, vi x1)] [] := by
  unfold f_X11_readFrame_b238 at hF
  refine w_aload_n hB 0 dX11_readFrame_238 rfl rfl ?_
  refine w_getC hB (v := 335) ff_X11_33 sh_311 hp.1 cr_311_33 (by decide) q_1193 dX11_readFrame_239 ?_
  refine w_iload_n hB 1 dX11_readFrame_242 rfl rfl ?_
  refine w_dup2 hB rfl rfl dX11_readFrame_243 ?_
  obtain ⟨g1, hF⟩ := gdS hF
  refine w_iald hB sh_335 (Or.inl hp.1) sl_335 g1 dX11_readFrame_244 ?_
  refine w_iconst hB 1 (by decide) dX11_readFrame_245 ?_
  refine w_iadd hB dX11_readFrame_246 ?_
  obtain ⟨M1m, e_M1m, hF⟩ := bndS hF
  refine w_iast hB sh_335 (Or.inl hp.1) sl_335 g1 e_M1m dX11_readFrame_247 ?_
  cases hF
  exact w_vret hB dX11_readFrame_248
def f_X11_readFrame_b231 (rec82 : Int32 → Int32 → Mem → Option Mem) (x1 : Int32) (x2 : Int32) (M : Mem) : Option Mem :=
  clv (f_X11_steps M) fun M1m =>
  rec82 x1 x2 M1m
set_option maxRecDepth 100000 in
set_option maxHeartbeats 4000000 in
theorem b_X11_readFrame_b231 {K : Kt} {X : Xt} (hp : St K) (hB : Bx K X { frames := 9, cells := 0, slots := 0, locals := 191 } cX11_readFrame 5 RX11 none) {M1 : Mem} {rec82 : Int32 → Int32 → Mem → Option Mem}
    (h82 : ∀ x1 x2 M, rec82 x1 x2 M = some M1 → Wt K X (QM K X none M1 0 0) 0 0 M 82 [(0, vr 311), (1, vi x1), (2, vi x2)] []) {x1 : Int32} {x2 : Int32} {M : Mem} (hF : f_X11_readFrame_b231 rec82 x1 x2 M = some M1) : Wt K X (QM K X none M1 0 0) 0 0 M 231 [(0, vr 311), (1, vi x1), (2, vi x2)] [] := by
  unfold f_X11_readFrame_b231 at hF
  refine w_aload_n hB 0 dX11_readFrame_231 rfl rfl ?_
  obtain ⟨M1m, hc_M1m, hF⟩ := clvS hF
  refine w_callV hB (ci := 9) (As := []) (st := []) cw_X11_228 q_1324 q_22 rfl sh_311 (Or.inl hp.1) (c_X11_steps hp hc_M1m) ⟨rfl, rfl⟩ (by decide) (by decide) rfl (Nat.le_of_ble_eq_true rfl) dX11_readFrame_232 rfl ?_
  refine w_goto hB 82 dX11_readFrame_235 (by decide) ?_
  exact Wt.sub (L' := [(0, vr 311), (1, vi x1), (2, vi x2)]) [0, 1, 2] rfl (h82 _ _ M1m hF)
def f_X11_readFrame_b185 (rec82 : Int32 → Int32 → Mem → Option Mem) (x1 : Int32) (x2 : Int32) (x4 : Int32) (xs1 : Int32) (M : Mem) : Option Mem :=
  cl (f_X11_must xs1 3 M) fun r1 M1m =>
  if r1 = 0 then
    some M1m
  else
    if x4 = 0 then
      gd (inb x2 160) <|
      bnd (setI M1m 339 (x2.toNatClampNeg) ((M1m.1 339 x2.toNatClampNeg) ||| ((1 : Int32) <<< ((M1m.1 311 7) &&& 31)))) fun M2m =>
      f_X11_readFrame_b231 rec82 x1 x2 M2m
    else
      gd (inb x2 160) <|
      bnd (setI M1m 338 (x2.toNatClampNeg) ((M1m.1 338 x2.toNatClampNeg) ||| ((1 : Int32) <<< ((M1m.1 311 7) &&& 31)))) fun M3m =>
      f_X11_readFrame_b231 rec82 x1 x2 M3m
set_option maxRecDepth 100000 in
set_option maxHeartbeats 4000000 in
theorem b_X11_readFrame_b185 {K : Kt} {X : Xt} (hp : St K) (hB : Bx K X { frames := 9, cells := 0, slots := 0, locals := 191 } cX11_readFrame 5 RX11 none) {M1 : Mem} {rec82 : Int32 → Int32 → Mem → Option Mem}
    (h82 : ∀ x1 x2 M, rec82 x1 x2 M = some M1 → Wt K X (QM K X none M1 0 0) 0 0 M 82 [(0, vr 311), (1, vi x1), (2, vi x2)] []) {x1 : Int32} {x2 : Int32} {x4 : Int32} {xs1 : Int32} {M : Mem} (hF : f_X11_readFrame_b185 rec82 x1 x2 x4 xs1 M = some M1) : Wt K X (QM K X none M1 0 0) 0 0 M 185 [(0, vr 311), (1, vi x1), (2, vi x2), (4, vi x4)] [vi xs1, vr 311] := by
  unfold f_X11_readFrame_b185 at hF
  refine w_iconst hB 3 (by decide) dX11_readFrame_185 ?_
  obtain ⟨r1, M1m, hc_M1m, hF⟩ := clS hF
  refine w_callV hB (ci := 9) (As := [vi xs1, vi 3]) (st := []) cw_X11_224 q_1405 q_28 rfl sh_311 (Or.inl hp.1) (c_X11_must hp hc_M1m) ⟨rfl, rfl⟩ (by decide) (by decide) rfl (Nat.le_of_ble_eq_true rfl) dX11_readFrame_186 rfl ?_
  refine w_if_ne hB 193 dX11_readFrame_189 (by decide) (fun hc => ?_) (fun hc => ?_)
  · replace hF := ifF hc hF
    refine w_iload hB 3 dX11_readFrame_193 rfl ?_
    refine w_if_eq hB 216 dX11_readFrame_195 (by decide) (fun hc => ?_) (fun hc => ?_)
    · replace hF := ifT hc hF
      refine w_aload_n hB 0 dX11_readFrame_216 rfl rfl ?_
      refine w_getC hB (v := 339) ff_X11_37 sh_311 hp.1 cr_311_37 (by decide) q_1197 dX11_readFrame_217 ?_
      refine w_iload_n hB 2 dX11_readFrame_220 rfl rfl ?_
      refine w_dup2 hB rfl rfl dX11_readFrame_221 ?_
      obtain ⟨g1, hF⟩ := gdS hF
      refine w_iald hB sh_339 (Or.inl hp.1) sl_339 g1 dX11_readFrame_222 ?_
      refine w_iconst hB 1 (by decide) dX11_readFrame_223 ?_
      refine w_aload_n hB 0 dX11_readFrame_224 rfl rfl ?_
      refine w_getI hB ff_X11_7 sh_311 (Or.inl hp.1) q_1167 dX11_readFrame_225 ?_
      refine w_ishl hB dX11_readFrame_228 ?_
      refine w_ior hB dX11_readFrame_229 ?_
      obtain ⟨M2m, e_M2m, hF⟩ := bndS hF
      refine w_iast hB sh_339 (Or.inl hp.1) sl_339 g1 e_M2m dX11_readFrame_230 ?_
      exact Wt.sub (L' := [(0, vr 311), (1, vi x1), (2, vi x2)]) [0, 1, 2] rfl (b_X11_readFrame_b231 hp hB h82 hF)
    · replace hF := ifF hc hF
      refine w_aload_n hB 0 dX11_readFrame_198 rfl rfl ?_
      refine w_getC hB (v := 338) ff_X11_36 sh_311 hp.1 cr_311_36 (by decide) q_1196 dX11_readFrame_199 ?_
      refine w_iload_n hB 2 dX11_readFrame_202 rfl rfl ?_
      refine w_dup2 hB rfl rfl dX11_readFrame_203 ?_
      obtain ⟨g2, hF⟩ := gdS hF
      refine w_iald hB sh_338 (Or.inl hp.1) sl_338 g2 dX11_readFrame_204 ?_
      refine w_iconst hB 1 (by decide) dX11_readFrame_205 ?_
      refine w_aload_n hB 0 dX11_readFrame_206 rfl rfl ?_
      refine w_getI hB ff_X11_7 sh_311 (Or.inl hp.1) q_1167 dX11_readFrame_207 ?_
      refine w_ishl hB dX11_readFrame_210 ?_
      refine w_ior hB dX11_readFrame_211 ?_
      obtain ⟨M3m, e_M3m, hF⟩ := bndS hF
      refine w_iast hB sh_338 (Or.inl hp.1) sl_338 g2 e_M3m dX11_readFrame_212 ?_
      refine w_goto hB 231 dX11_readFrame_213 (by decide) ?_
      exact Wt.sub (L' := [(0, vr 311), (1, vi x1), (2, vi x2)]) [0, 1, 2] rfl (b_X11_readFrame_b231 hp hB h82 hF)
  · replace hF := ifT hc hF
    cases hF
    exact w_vret hB dX11_readFrame_192
def f_X11_readFrame_b184 (rec82 : Int32 → Int32 → Mem → Option Mem) (x1 : Int32) (x2 : Int32) (x4 : Int32) (M : Mem) : Option Mem :=
  f_X11_readFrame_b185 rec82 x1 x2 x4 0 M
set_option maxRecDepth 100000 in
set_option maxHeartbeats 4000000 in
theorem b_X11_readFrame_b184 {K : Kt} {X : Xt} (hp : St K) (hB : Bx K X { frames := 9, cells := 0, slots := 0, locals := 191 } cX11_readFrame 5 RX11 none) {M1 : Mem} {rec82 : Int32 → Int32 → Mem → Option Mem}
    (h82 : ∀ x1 x2 M, rec82 x1 x2 M = some M1 → Wt K X (QM K X none M1 0 0) 0 0 M 82 [(0, vr 311), (1, vi x1), (2, vi x2)] []) {x1 : Int32} {x2 : Int32} {x4 : Int32} {M : Mem} (hF : f_X11_readFrame_b184 rec82 x1 x2 x4 M = some M1) : Wt K X (QM K X none M1 0 0) 0 0 M 184 [(0, vr 311), (1, vi x1), (2, vi x2), (4, vi x4)] [vr 311] := by
  unfold f_X11_readFrame_b184 at hF
  refine w_iconst hB 0 (by decide) dX11_readFrame_184 ?_
  exact Wt.sub (L' := [(0, vr 311), (1, vi x1), (2, vi x2), (4, vi x4)]) [0, 1, 2, 3] rfl (b_X11_readFrame_b185 hp hB h82 hF)
def f_X11_readFrame_b141 (rec82 : Int32 → Int32 → Mem → Option Mem) (x1 : Int32) (x2 : Int32) (x4 : Int32) (xs1 : Int32) (M : Mem) : Option Mem :=
  cl (f_X11_must xs1 1 M) fun r1 M1m =>
  if r1 = 0 then
    some M1m
  else
    if 4 ≤ (M1m.1 311 7) then
      f_X11_readFrame_b184 rec82 x1 x2 x4 M1m
    else
      gd (inb x2 160) <|
      cl (f_X11_has ((M1m.1 338 x2.toNatClampNeg) ||| (M1m.1 339 x2.toNatClampNeg)) (M1m.1 311 7) M1m) fun r2 M2m =>
      if r2 = 0 then
        f_X11_readFrame_b185 rec82 x1 x2 x4 1 M2m
      else
        f_X11_readFrame_b184 rec82 x1 x2 x4 M2m
set_option maxRecDepth 100000 in
set_option maxHeartbeats 4000000 in
theorem b_X11_readFrame_b141 {K : Kt} {X : Xt} (hp : St K) (hB : Bx K X { frames := 9, cells := 0, slots := 0, locals := 191 } cX11_readFrame 5 RX11 none) {M1 : Mem} {rec82 : Int32 → Int32 → Mem → Option Mem}
    (h82 : ∀ x1 x2 M, rec82 x1 x2 M = some M1 → Wt K X (QM K X none M1 0 0) 0 0 M 82 [(0, vr 311), (1, vi x1), (2, vi x2)] []) {x1 : Int32} {x2 : Int32} {x4 : Int32} {xs1 : Int32} {M : Mem} (hF : f_X11_readFrame_b141 rec82 x1 x2 x4 xs1 M = some M1) : Wt K X (QM K X none M1 0 0) 0 0 M 141 [(0, vr 311), (1, vi x1), (2, vi x2), (4, vi x4)] [vi xs1, vr 311] := by
  unfold f_X11_readFrame_b141 at hF
  refine w_iconst hB 1 (by decide) dX11_readFrame_141 ?_
  obtain ⟨r1, M1m, hc_M1m, hF⟩ := clS hF
  refine w_callV hB (ci := 9) (As := [vi xs1, vi 1]) (st := []) cw_X11_224 q_1405 q_28 rfl sh_311 (Or.inl hp.1) (c_X11_must hp hc_M1m) ⟨rfl, rfl⟩ (by decide) (by decide) rfl (Nat.le_of_ble_eq_true rfl) dX11_readFrame_142 rfl ?_
  refine w_if_eq hB 192 dX11_readFrame_145 (by decide) (fun hc => ?_) (fun hc => ?_)
  · replace hF := ifT hc hF
    cases hF
    exact w_vret hB dX11_readFrame_192
  · replace hF := ifF hc hF
    refine w_aload_n hB 0 dX11_readFrame_148 rfl rfl ?_
    refine w_aload_n hB 0 dX11_readFrame_149 rfl rfl ?_
    refine w_getI hB ff_X11_7 sh_311 (Or.inl hp.1) q_1167 dX11_readFrame_150 ?_
    refine w_iconst hB 4 (by decide) dX11_readFrame_153 ?_
    refine w_icmp_ge hB 184 dX11_readFrame_154 (by decide) (fun hc => ?_) (fun hc => ?_)
    · replace hF := ifT hc hF
      exact Wt.sub (L' := [(0, vr 311), (1, vi x1), (2, vi x2), (4, vi x4)]) [0, 1, 2, 3] rfl (b_X11_readFrame_b184 hp hB h82 hF)
    · replace hF := ifF hc hF
      refine w_aload_n hB 0 dX11_readFrame_157 rfl rfl ?_
      refine w_getC hB (v := 338) ff_X11_36 sh_311 hp.1 cr_311_36 (by decide) q_1196 dX11_readFrame_158 ?_
      refine w_iload_n hB 2 dX11_readFrame_161 rfl rfl ?_
      obtain ⟨g1, hF⟩ := gdS hF
      refine w_iald hB sh_338 (Or.inl hp.1) sl_338 g1 dX11_readFrame_162 ?_
      refine w_aload_n hB 0 dX11_readFrame_163 rfl rfl ?_
      refine w_getC hB (v := 339) ff_X11_37 sh_311 hp.1 cr_311_37 (by decide) q_1197 dX11_readFrame_164 ?_
      refine w_iload_n hB 2 dX11_readFrame_167 rfl rfl ?_
      refine w_iald hB sh_339 (Or.inl hp.1) sl_339 g1 dX11_readFrame_168 ?_
      refine w_ior hB dX11_readFrame_169 ?_
      refine w_aload_n hB 0 dX11_readFrame_170 rfl rfl ?_
      refine w_getI hB ff_X11_7 sh_311 (Or.inl hp.1) q_1167 dX11_readFrame_171 ?_
      obtain ⟨r2, M2m, hc_M2m, hF⟩ := clS hF
      refine w_callS hB (As := [vi ((M1m.1 338 x2.toNatClampNeg) ||| (M1m.1 339 x2.toNatClampNeg)), vi (M1m.1 311 7)]) (st := [vr 311]) cw_X11_266 q_1495 (c_X11_has hp hc_M2m) ⟨rfl, rfl⟩ (by decide) (by decide) rfl (Nat.le_of_ble_eq_true rfl) dX11_readFrame_174 rfl ?_
      refine w_if_ne hB 184 dX11_readFrame_177 (by decide) (fun hc => ?_) (fun hc => ?_)
      · replace hF := ifF hc hF
        exact Wt.sub (L' := [(0, vr 311), (1, vi x1), (2, vi x2), (4, vi x4)]) [0, 1, 2, 3] rfl (b_X11_readFrame_b184 hp hB h82 hF)
      · replace hF := ifT hc hF
        refine w_iconst hB 1 (by decide) dX11_readFrame_180 ?_
        refine w_goto hB 185 dX11_readFrame_181 (by decide) ?_
        exact Wt.sub (L' := [(0, vr 311), (1, vi x1), (2, vi x2), (4, vi x4)]) [0, 1, 2, 3] rfl (b_X11_readFrame_b185 hp hB h82 hF)
def f_X11_readFrame_b121 (rec82 : Int32 → Int32 → Mem → Option Mem) (x1 : Int32) (x2 : Int32) (xs0 : Int32) (M : Mem) : Option Mem :=
  clv (f_X11_steps M) fun M1m =>
  if (M1m.1 311 6) = 2 then
    f_X11_readFrame_b141 rec82 x1 x2 xs0 1 M1m
  else
    f_X11_readFrame_b141 rec82 x1 x2 xs0 0 M1m
set_option maxRecDepth 100000 in
set_option maxHeartbeats 4000000 in
theorem b_X11_readFrame_b121 {K : Kt} {X : Xt} (hp : St K) (hB : Bx K X { frames := 9, cells := 0, slots := 0, locals := 191 } cX11_readFrame 5 RX11 none) {M1 : Mem} {rec82 : Int32 → Int32 → Mem → Option Mem}
    (h82 : ∀ x1 x2 M, rec82 x1 x2 M = some M1 → Wt K X (QM K X none M1 0 0) 0 0 M 82 [(0, vr 311), (1, vi x1), (2, vi x2)] []) {x1 : Int32} {x2 : Int32} {xs0 : Int32} {M : Mem} (hF : f_X11_readFrame_b121 rec82 x1 x2 xs0 M = some M1) : Wt K X (QM K X none M1 0 0) 0 0 M 121 [(0, vr 311), (1, vi x1), (2, vi x2)] [vi xs0] := by
  unfold f_X11_readFrame_b121 at hF
  refine w_istore hB (L' := [(4, vi xs0), (0, vr 311), (1, vi x1), (2, vi x2)]) dX11_readFrame_121 (by decide) rfl rfl ?_
  refine w_aload_n hB 1 dX11_readFrame_123 rfl rfl ?_
  obtain ⟨M1m, hc_M1m, hF⟩ := clvS hF
  refine w_callV hB (ci := 9) (As := []) (st := []) cw_X11_228 q_1324 q_22 rfl sh_311 (Or.inl hp.1) (c_X11_steps hp hc_M1m) ⟨rfl, rfl⟩ (by decide) (by decide) rfl (Nat.le_of_ble_eq_true rfl) dX11_readFrame_124 rfl ?_
  refine w_aload_n hB 1 dX11_readFrame_127 rfl rfl ?_
  refine w_aload_n hB 1 dX11_readFrame_128 rfl rfl ?_
  refine w_getI hB ff_X11_6 sh_311 (Or.inl hp.1) q_1166 dX11_readFrame_129 ?_
  refine w_iconst hB 2 (by decide) dX11_readFrame_132 ?_
  refine w_icmp_ne hB 140 dX11_readFrame_133 (by decide) (fun hc => ?_) (fun hc => ?_)
  · replace hF := ifF hc hF
    refine w_iconst hB 0 (by decide) dX11_readFrame_140 ?_
    exact Wt.sub (L' := [(0, vr 311), (1, vi x1), (2, vi x2), (4, vi xs0)]) [1, 2, 3, 0] rfl (b_X11_readFrame_b141 hp hB h82 hF)
  · replace hF := ifT hc hF
    refine w_iconst hB 1 (by decide) dX11_readFrame_136 ?_
    refine w_goto hB 141 dX11_readFrame_137 (by decide) ?_
    exact Wt.sub (L' := [(0, vr 311), (1, vi x1), (2, vi x2), (4, vi xs0)]) [1, 2, 3, 0] rfl (b_X11_readFrame_b141 hp hB h82 hF)
def f_X11_readFrame_b107 (rec82 : Int32 → Int32 → Mem → Option Mem) (x1 : Int32) (x2 : Int32) (M : Mem) : Option Mem :=
  if (M.1 311 6) = 33 then
    f_X11_readFrame_b121 rec82 x1 x2 1 M
  else
    f_X11_readFrame_b121 rec82 x1 x2 0 M
set_option maxRecDepth 100000 in
set_option maxHeartbeats 4000000 in
theorem b_X11_readFrame_b107 {K : Kt} {X : Xt} (hp : St K) (hB : Bx K X { frames := 9, cells := 0, slots := 0, locals := 191 } cX11_readFrame 5 RX11 none) {M1 : Mem} {rec82 : Int32 → Int32 → Mem → Option Mem}
    (h82 : ∀ x1 x2 M, rec82 x1 x2 M = some M1 → Wt K X (QM K X none M1 0 0) 0 0 M 82 [(0, vr 311), (1, vi x1), (2, vi x2)] []) {x1 : Int32} {x2 : Int32} {M : Mem} (hF : f_X11_readFrame_b107 rec82 x1 x2 M = some M1) : Wt K X (QM K X none M1 0 0) 0 0 M 107 [(0, vr 311), (1, vi x1), (2, vi x2)] [] := by
  unfold f_X11_readFrame_b107 at hF
  refine w_aload_n hB 0 dX11_readFrame_107 rfl rfl ?_
  refine w_getI hB ff_X11_6 sh_311 (Or.inl hp.1) q_1166 dX11_readFrame_108 ?_
  refine w_bipush hB 33 (by decide) dX11_readFrame_111 ?_
  refine w_icmp_ne hB 120 dX11_readFrame_113 (by decide) (fun hc => ?_) (fun hc => ?_)
  · replace hF := ifF hc hF
    refine w_iconst hB 0 (by decide) dX11_readFrame_120 ?_
    exact Wt.sub (L' := [(0, vr 311), (1, vi x1), (2, vi x2)]) [0, 1, 2] rfl (b_X11_readFrame_b121 hp hB h82 hF)
  · replace hF := ifT hc hF
    refine w_iconst hB 1 (by decide) dX11_readFrame_116 ?_
    refine w_goto hB 121 dX11_readFrame_117 (by decide) ?_
    exact Wt.sub (L' := [(0, vr 311), (1, vi x1), (2, vi x2)]) [0, 1, 2] rfl (b_X11_readFrame_b121 hp hB h82 hF)
def f_X11_readFrame_b82_s (rec82 : Int32 → Int32 → Mem → Option Mem) (x1 : Int32) (x2 : Int32) (M : Mem) : Option Mem :=
  if (M.1 311 9) = 0 then
    if (M.1 311 6) = 33 then
      f_X11_readFrame_b107 rec82 x1 x2 M
    else
      if (M.1 311 6) = 63 then
        f_X11_readFrame_b107 rec82 x1 x2 M
      else
        f_X11_readFrame_b238 x1 M
  else
    f_X11_readFrame_b238 x1 M
set_option maxRecDepth 100000 in
set_option maxHeartbeats 4000000 in
theorem b_X11_readFrame_b82_s {K : Kt} {X : Xt} (hp : St K) (hB : Bx K X { frames := 9, cells := 0, slots := 0, locals := 191 } cX11_readFrame 5 RX11 none) {M1 : Mem} {rec82 : Int32 → Int32 → Mem → Option Mem}
    (h82 : ∀ x1 x2 M, rec82 x1 x2 M = some M1 → Wt K X (QM K X none M1 0 0) 0 0 M 82 [(0, vr 311), (1, vi x1), (2, vi x2)] []) {x1 : Int32} {x2 : Int32} {M : Mem} (hF : f_X11_readFrame_b82_s rec82 x1 x2 M = some M1) : Wt K X (QM K X none M1 0 0) 0 0 M 82 [(0, vr 311), (1, vi x1), (2, vi x2)] [] := by
  unfold f_X11_readFrame_b82_s at hF
  refine w_aload_n hB 0 dX11_readFrame_82 rfl rfl ?_
  refine w_getI hB ff_X11_9 sh_311 (Or.inl hp.1) q_1169 dX11_readFrame_83 ?_
  refine w_if_ne hB 238 dX11_readFrame_86 (by decide) (fun hc => ?_) (fun hc => ?_)
  · replace hF := ifF hc hF
    exact Wt.sub (L' := [(0, vr 311), (1, vi x1)]) [0, 1] rfl (b_X11_readFrame_b238 hp hB hF)
  · replace hF := ifT hc hF
    refine w_aload_n hB 0 dX11_readFrame_89 rfl rfl ?_
    refine w_getI hB ff_X11_6 sh_311 (Or.inl hp.1) q_1166 dX11_readFrame_90 ?_
    refine w_bipush hB 33 (by decide) dX11_readFrame_93 ?_
    refine w_icmp_eq hB 107 dX11_readFrame_95 (by decide) (fun hc => ?_) (fun hc => ?_)
    · replace hF := ifT hc hF
      exact Wt.sub (L' := [(0, vr 311), (1, vi x1), (2, vi x2)]) [0, 1, 2] rfl (b_X11_readFrame_b107 hp hB h82 hF)
    · replace hF := ifF hc hF
      refine w_aload_n hB 0 dX11_readFrame_98 rfl rfl ?_
      refine w_getI hB ff_X11_6 sh_311 (Or.inl hp.1) q_1166 dX11_readFrame_99 ?_
      refine w_bipush hB 63 (by decide) dX11_readFrame_102 ?_
      refine w_icmp_ne hB 238 dX11_readFrame_104 (by decide) (fun hc => ?_) (fun hc => ?_)
      · replace hF := ifF hc hF
        exact Wt.sub (L' := [(0, vr 311), (1, vi x1)]) [0, 1] rfl (b_X11_readFrame_b238 hp hB hF)
      · replace hF := ifT hc hF
        exact Wt.sub (L' := [(0, vr 311), (1, vi x1), (2, vi x2)]) [0, 1, 2] rfl (b_X11_readFrame_b107 hp hB h82 hF)
def f_X11_readFrame_b82 (k : Nat) : Int32 → Int32 → Mem → Option Mem := lpN (fun _ _ _ => none) (f_X11_readFrame_b82_s) k
theorem b_X11_readFrame_b82 {K : Kt} {X : Xt} (hp : St K) (hB : Bx K X { frames := 9, cells := 0, slots := 0, locals := 191 } cX11_readFrame 5 RX11 none) {M1 : Mem} (k : Nat) : ∀ (x1 : Int32) (x2 : Int32) M, f_X11_readFrame_b82 k x1 x2 M = some M1 → Wt K X (QM K X none M1 0 0) 0 0 M 82 [(0, vr 311), (1, vi x1), (2, vi x2)] [] := by
  refine lpN_ind (P := fun (f : Int32 → Int32 → Mem → Option Mem) => ∀ (x1 : Int32) (x2 : Int32) M, f x1 x2 M = some M1 → Wt K X (QM K X none M1 0 0) 0 0 M 82 [(0, vr 311), (1, vi x1), (2, vi x2)] []) (fun _ _ _ h => by cases h) (fun f hf x1 x2 M hF => ?_) k
  exact b_X11_readFrame_b82_s hp hB hf hF
def f_X11_readFrame_b35 (x1 : Int32) (x2 : Int32) (x3 : Int32) (xs1 : Int32) (M : Mem) : Option Mem :=
  cl (f_X11_must xs1 5 M) fun r1 M1m =>
  if r1 = 0 then
    some M1m
  else
    gd (inb x2 160) <|
    bnd (setI M1m 336 (x2.toNatClampNeg) x3) fun M2m =>
    clv (f_X11_steps M2m) fun M3m =>
    cl (f_X11_number 0 999 M3m) fun r2 M4m =>
    bnd (setI M4m 337 (x2.toNatClampNeg) r2) fun M5m =>
    bnd (setI M5m 338 (x2.toNatClampNeg) 0) fun M6m =>
    bnd (setI M6m 339 (x2.toNatClampNeg) 0) fun M7m =>
    f_X11_readFrame_b82 fuel x1 x2 M7m
set_option maxRecDepth 100000 in
set_option maxHeartbeats 4000000 in
theorem b_X11_readFrame_b35 {K : Kt} {X : Xt} (hp : St K) (hB : Bx K X { frames := 9, cells := 0, slots := 0, locals := 191 } cX11_readFrame 5 RX11 none) {M1 : Mem} {x1 : Int32} {x2 : Int32} {x3 : Int32} {xs1 : Int32} {M : Mem} (hF : f_X11_readFrame_b35 x1 x2 x3 xs1 M = some M1) : Wt K X (QM K X none M1 0 0) 0 0 M 35 [(0, vr 311), (1, vi x1), (2, vi x2), (3, vi x3)] [vi xs1, vr 311] := by
  unfold f_X11_readFrame_b35 at hF
  refine w_iconst hB 5 (by decide) dX11_readFrame_35 ?_
  obtain ⟨r1, M1m, hc_M1m, hF⟩ := clS hF
  refine w_callV hB (ci := 9) (As := [vi xs1, vi 5]) (st := []) cw_X11_224 q_1405 q_28 rfl sh_311 (Or.inl hp.1) (c_X11_must hp hc_M1m) ⟨rfl, rfl⟩ (by decide) (by decide) rfl (Nat.le_of_ble_eq_true rfl) dX11_readFrame_36 rfl ?_
  refine w_if_ne hB 43 dX11_readFrame_39 (by decide) (fun hc => ?_) (fun hc => ?_)
  · replace hF := ifF hc hF
    refine w_aload_n hB 0 dX11_readFrame_43 rfl rfl ?_
    refine w_getC hB (v := 336) ff_X11_34 sh_311 hp.1 cr_311_34 (by decide) q_1194 dX11_readFrame_44 ?_
    refine w_iload_n hB 2 dX11_readFrame_47 rfl rfl ?_
    refine w_iload_n hB 3 dX11_readFrame_48 rfl rfl ?_
    obtain ⟨g1, hF⟩ := gdS hF
    obtain ⟨M2m, e_M2m, hF⟩ := bndS hF
    refine w_iast hB sh_336 (Or.inl hp.1) sl_336 g1 e_M2m dX11_readFrame_49 ?_
    refine w_aload_n hB 0 dX11_readFrame_50 rfl rfl ?_
    obtain ⟨M3m, hc_M3m, hF⟩ := clvS hF
    refine w_callV hB (ci := 9) (As := []) (st := []) cw_X11_228 q_1324 q_22 rfl sh_311 (Or.inl hp.1) (c_X11_steps hp hc_M3m) ⟨rfl, rfl⟩ (by decide) (by decide) rfl (Nat.le_of_ble_eq_true rfl) dX11_readFrame_51 rfl ?_
    refine w_aload_n hB 0 dX11_readFrame_54 rfl rfl ?_
    refine w_getC hB (v := 337) ff_X11_35 sh_311 hp.1 cr_311_35 (by decide) q_1195 dX11_readFrame_55 ?_
    refine w_iload_n hB 2 dX11_readFrame_58 rfl rfl ?_
    refine w_aload_n hB 0 dX11_readFrame_59 rfl rfl ?_
    refine w_iconst hB 0 (by decide) dX11_readFrame_60 ?_
    refine w_sipush hB 999 (by decide) dX11_readFrame_61 ?_
    obtain ⟨r2, M4m, hc_M4m, hF⟩ := clS hF
    refine w_callV hB (ci := 9) (As := [vi 0, vi 999]) (st := [vi x2, vr 337]) cw_X11_246 q_1444 q_34 rfl sh_311 (Or.inl hp.1) (c_X11_number hp hc_M4m) ⟨rfl, rfl⟩ (by decide) (by decide) rfl (Nat.le_of_ble_eq_true rfl) dX11_readFrame_64 rfl ?_
    obtain ⟨M5m, e_M5m, hF⟩ := bndS hF
    refine w_iast hB sh_337 (Or.inl hp.1) sl_337 g1 e_M5m dX11_readFrame_67 ?_
    refine w_aload_n hB 0 dX11_readFrame_68 rfl rfl ?_
    refine w_getC hB (v := 338) ff_X11_36 sh_311 hp.1 cr_311_36 (by decide) q_1196 dX11_readFrame_69 ?_
    refine w_iload_n hB 2 dX11_readFrame_72 rfl rfl ?_
    refine w_iconst hB 0 (by decide) dX11_readFrame_73 ?_
    obtain ⟨M6m, e_M6m, hF⟩ := bndS hF
    refine w_iast hB sh_338 (Or.inl hp.1) sl_338 g1 e_M6m dX11_readFrame_74 ?_
    refine w_aload_n hB 0 dX11_readFrame_75 rfl rfl ?_
    refine w_getC hB (v := 339) ff_X11_37 sh_311 hp.1 cr_311_37 (by decide) q_1197 dX11_readFrame_76 ?_
    refine w_iload_n hB 2 dX11_readFrame_79 rfl rfl ?_
    refine w_iconst hB 0 (by decide) dX11_readFrame_80 ?_
    obtain ⟨M7m, e_M7m, hF⟩ := bndS hF
    refine w_iast hB sh_339 (Or.inl hp.1) sl_339 g1 e_M7m dX11_readFrame_81 ?_
    exact Wt.sub (L' := [(0, vr 311), (1, vi x1), (2, vi x2)]) [0, 1, 2] rfl (b_X11_readFrame_b82 hp hB fuel _ _ M7m hF)
  · replace hF := ifT hc hF
    cases hF
    exact w_vret hB dX11_readFrame_42
def f_X11_readFrame (x1 : Int32) (M : Mem) : Option Mem :=
  gd (inb x1 16) <|
  bnd ((10 * x1) + (M.1 335 x1.toNatClampNeg)) fun a1 =>
  cl (f_X11_looksUp 0 M) fun r1 M1m =>
  if 10 ≤ (M1m.1 335 x1.toNatClampNeg) then
    f_X11_readFrame_b35 x1 a1 r1 0 M1m
  else
    f_X11_readFrame_b35 x1 a1 r1 1 M1m
set_option maxRecDepth 100000 in
set_option maxHeartbeats 4000000 in
theorem b_X11_readFrame {K : Kt} {X : Xt} (hp : St K) (hB : Bx K X { frames := 9, cells := 0, slots := 0, locals := 191 } cX11_readFrame 5 RX11 none) {M1 : Mem} {x1 : Int32} {M : Mem} (hF : f_X11_readFrame x1 M = some M1) : Wt K X (QM K X none M1 0 0) 0 0 M 0 [(0, vr 311), (1, vi x1)] [] := by
  unfold f_X11_readFrame at hF
  refine w_bipush hB 10 (by decide) dX11_readFrame_0 ?_
  refine w_iload_n hB 1 dX11_readFrame_2 rfl rfl ?_
  refine w_imul hB dX11_readFrame_3 ?_
  refine w_aload_n hB 0 dX11_readFrame_4 rfl rfl ?_
  refine w_getC hB (v := 335) ff_X11_33 sh_311 hp.1 cr_311_33 (by decide) q_1193 dX11_readFrame_5 ?_
  refine w_iload_n hB 1 dX11_readFrame_8 rfl rfl ?_
  obtain ⟨g1, hF⟩ := gdS hF
  refine w_iald hB sh_335 (Or.inl hp.1) sl_335 g1 dX11_readFrame_9 ?_
  refine w_iadd hB dX11_readFrame_10 ?_
  obtain ⟨a1, e_a1, hF⟩ := bndS hF
  refine w_istore_n hB (L' := [(2, vi a1), (0, vr 311), (1, vi x1)]) dX11_readFrame_11 rfl (by decide) e_a1 rfl ?_
  refine w_aload_n hB 1 dX11_readFrame_12 rfl rfl ?_
  refine w_iconst hB 0 (by decide) dX11_readFrame_13 ?_
  obtain ⟨r1, M1m, hc_M1m, hF⟩ := clS hF
  refine w_callV hB (ci := 9) (As := [vi 0]) (st := []) cw_X11_240 q_1456 q_37 rfl sh_311 (Or.inl hp.1) (c_X11_looksUp hp hc_M1m) ⟨rfl, rfl⟩ (by decide) (by decide) rfl (Nat.le_of_ble_eq_true rfl) dX11_readFrame_14 rfl ?_
  refine w_istore_n hB (L' := [(3, vi r1), (2, vi a1), (0, vr 311), (1, vi x1)]) dX11_readFrame_17 rfl (by decide) rfl rfl ?_
  refine w_aload_n hB 2 dX11_readFrame_18 rfl rfl ?_
  refine w_aload_n hB 2 dX11_readFrame_19 rfl rfl ?_
  refine w_getC hB (v := 335) ff_X11_33 sh_311 hp.1 cr_311_33 (by decide) q_1193 dX11_readFrame_20 ?_
  refine w_iload_n hB 3 dX11_readFrame_23 rfl rfl ?_
  refine w_iald hB sh_335 (Or.inl hp.1) sl_335 g1 dX11_readFrame_24 ?_
  refine w_bipush hB 10 (by decide) dX11_readFrame_25 ?_
  refine w_icmp_ge hB 34 dX11_readFrame_27 (by decide) (fun hc => ?_) (fun hc => ?_)
  · replace hF := ifT hc hF
    refine w_iconst hB 0 (by decide) dX11_readFrame_34 ?_
    exact Wt.sub (L' := [(0, vr 311), (1, vi x1), (2, vi a1), (3, vi r1)]) [2, 3, 1, 0] rfl (b_X11_readFrame_b35 hp hB hF)
  · replace hF := ifF hc hF
    refine w_iconst hB 1 (by decide) dX11_readFrame_30 ?_
    refine w_goto hB 35 dX11_readFrame_31 (by decide) ?_
    exact Wt.sub (L' := [(0, vr 311), (1, vi x1), (2, vi a1), (3, vi r1)]) [2, 3, 1, 0] rfl (b_X11_readFrame_b35 hp hB hF)
theorem c_X11_readFrame {K : Kt} {l : Launch} (hp : St K) {M1 : Mem} {x1 : Int32} {M : Mem} (hF : f_X11_readFrame x1 M = some M1) : MT K l yX11_readFrame cX11_readFrame 5 none { frames := 9, cells := 0, slots := 0, locals := 191 } [vr 311, vi x1] M none M1 0 0 :=
  MT_of (by decide) rfl (Nat.le_of_ble_eq_true rfl) (fun X _ hB _ => b_X11_readFrame hp hB hF)
def f_X11_playLine_b168 (M : Mem) : Option Mem :=
  if (M.1 311 9) = 0 then
    bnd (setI M 313 10 ((M.1 313 10) + 1)) fun M1m =>
    some M1m
  else
    some M
set_option maxRecDepth 100000 in
set_option maxHeartbeats 4000000 in
theorem b_X11_playLine_b168 {K : Kt} {X : Xt} (hp : St K) (hB : Bx K X { frames := 10, cells := 0, slots := 0, locals := 215 } cX11_playLine 2 RX11 none) {M1 : Mem} {M : Mem} (hF : f_X11_playLine_b168 M = some M1) : Wt K X (QM K X none M1 0 0) 0 0 M 168 [(0, vr 311)] [] := by
  unfold f_X11_playLine_b168 at hF
  refine w_aload_n hB 0 dX11_playLine_168 rfl rfl ?_
  refine w_getI hB ff_X11_9 sh_311 (Or.inl hp.1) q_1169 dX11_playLine_169 ?_
  refine w_if_ne hB 186 dX11_playLine_172 (by decide) (fun hc => ?_) (fun hc => ?_)
  · replace hF := ifF hc hF
    cases hF
    exact w_vret hB dX11_playLine_186
  · replace hF := ifT hc hF
    refine w_aload_n hB 0 dX11_playLine_175 rfl rfl ?_
    refine w_getC hB (v := 313) ff_X11_11 sh_311 hp.1 cr_311_11 (by decide) q_1171 dX11_playLine_176 ?_
    refine w_bipush hB 10 (by decide) dX11_playLine_179 ?_
    refine w_dup2 hB rfl rfl dX11_playLine_181 ?_
    refine w_iald hB sh_313 (Or.inl hp.1) sl_313 (by decide) dX11_playLine_182 ?_
    rw [show (10 : Int32).toNatClampNeg = 10 by decide]
    refine w_iconst hB 1 (by decide) dX11_playLine_183 ?_
    refine w_iadd hB dX11_playLine_184 ?_
    obtain ⟨M1m, e_M1m, hF⟩ := bndS hF
    refine w_iast hB sh_313 (Or.inl hp.1) sl_313 (by decide) e_M1m dX11_playLine_185 ?_
    cases hF
    exact w_vret hB dX11_playLine_186
def f_X11_playLine_b145_s (rec145 : Int32 → Mem → Option Mem) (x1 : Int32) (M : Mem) : Option Mem :=
  if (M.1 311 9) = 0 then
    if (M.1 311 6) = 1 then
      clv (f_X11_readFrame x1 M) fun M1m =>
      rec145 x1 M1m
    else
      f_X11_playLine_b168 M
  else
    f_X11_playLine_b168 M
set_option maxRecDepth 100000 in
set_option maxHeartbeats 4000000 in
theorem b_X11_playLine_b145_s {K : Kt} {X : Xt} (hp : St K) (hB : Bx K X { frames := 10, cells := 0, slots := 0, locals := 215 } cX11_playLine 2 RX11 none) {M1 : Mem} {rec145 : Int32 → Mem → Option Mem}
    (h145 : ∀ x1 M, rec145 x1 M = some M1 → Wt K X (QM K X none M1 0 0) 0 0 M 145 [(0, vr 311), (1, vi x1)] []) {x1 : Int32} {M : Mem} (hF : f_X11_playLine_b145_s rec145 x1 M = some M1) : Wt K X (QM K X none M1 0 0) 0 0 M 145 [(0, vr 311), (1, vi x1)] [] := by
  unfold f_X11_playLine_b145_s at hF
  refine w_aload_n hB 0 dX11_playLine_145 rfl rfl ?_
  refine w_getI hB ff_X11_9 sh_311 (Or.inl hp.1) q_1169 dX11_playLine_146 ?_
  refine w_if_ne hB 168 dX11_playLine_149 (by decide) (fun hc => ?_) (fun hc => ?_)
  · replace hF := ifF hc hF
    exact Wt.sub (L' := [(0, vr 311)]) [0] rfl (b_X11_playLine_b168 hp hB hF)
  · replace hF := ifT hc hF
    refine w_aload_n hB 0 dX11_playLine_152 rfl rfl ?_
    refine w_getI hB ff_X11_6 sh_311 (Or.inl hp.1) q_1166 dX11_playLine_153 ?_
    refine w_iconst hB 1 (by decide) dX11_playLine_156 ?_
    refine w_icmp_ne hB 168 dX11_playLine_157 (by decide) (fun hc => ?_) (fun hc => ?_)
    · replace hF := ifF hc hF
      exact Wt.sub (L' := [(0, vr 311)]) [0] rfl (b_X11_playLine_b168 hp hB hF)
    · replace hF := ifT hc hF
      refine w_aload_n hB 0 dX11_playLine_160 rfl rfl ?_
      refine w_iload_n hB 1 dX11_playLine_161 rfl rfl ?_
      obtain ⟨M1m, hc_M1m, hF⟩ := clvS hF
      refine w_callV hB (ci := 9) (As := [vi x1]) (st := []) cw_X11_270 q_1492 q_46 rfl sh_311 (Or.inl hp.1) (c_X11_readFrame hp hc_M1m) ⟨rfl, rfl⟩ (by decide) (by decide) rfl (Nat.le_of_ble_eq_true rfl) dX11_playLine_162 rfl ?_
      refine w_goto hB 145 dX11_playLine_165 (by decide) ?_
      exact Wt.sub (L' := [(0, vr 311), (1, vi x1)]) [0, 1] rfl (h145 _ M1m hF)
def f_X11_playLine_b145 (k : Nat) : Int32 → Mem → Option Mem := lpN (fun _ _ => none) (f_X11_playLine_b145_s) k
theorem b_X11_playLine_b145 {K : Kt} {X : Xt} (hp : St K) (hB : Bx K X { frames := 10, cells := 0, slots := 0, locals := 215 } cX11_playLine 2 RX11 none) {M1 : Mem} (k : Nat) : ∀ (x1 : Int32) M, f_X11_playLine_b145 k x1 M = some M1 → Wt K X (QM K X none M1 0 0) 0 0 M 145 [(0, vr 311), (1, vi x1)] [] := by
  refine lpN_ind (P := fun (f : Int32 → Mem → Option Mem) => ∀ (x1 : Int32) M, f x1 M = some M1 → Wt K X (QM K X none M1 0 0) 0 0 M 145 [(0, vr 311), (1, vi x1)] []) (fun _ _ h => by cases h) (fun f hf x1 M hF => ?_) k
  exact b_X11_playLine_b145_s hp hB hf hF
def f_X11_playLine_b133 (x1 : Int32) (xs1 : Int32) (xs2 : Int32) (M : Mem) : Option Mem :=
  gd (inb xs1 16) <|
  bnd (setI M 334 (xs1.toNatClampNeg) xs2) fun M1m =>
  clv (f_X11_steps M1m) fun M2m =>
  gd (inb x1 16) <|
  bnd (setI M2m 335 (x1.toNatClampNeg) 0) fun M3m =>
  f_X11_playLine_b145 fuel x1 M3m
set_option maxRecDepth 100000 in
set_option maxHeartbeats 4000000 in
theorem b_X11_playLine_b133 {K : Kt} {X : Xt} (hp : St K) (hB : Bx K X { frames := 10, cells := 0, slots := 0, locals := 215 } cX11_playLine 2 RX11 none) {M1 : Mem} {x1 : Int32} {xs1 : Int32} {xs2 : Int32} {M : Mem} (hF : f_X11_playLine_b133 x1 xs1 xs2 M = some M1) : Wt K X (QM K X none M1 0 0) 0 0 M 133 [(0, vr 311), (1, vi x1)] [vi xs2, vi xs1, vr 334] := by
  unfold f_X11_playLine_b133 at hF
  obtain ⟨g1, hF⟩ := gdS hF
  obtain ⟨M1m, e_M1m, hF⟩ := bndS hF
  refine w_iast hB sh_334 (Or.inl hp.1) sl_334 g1 e_M1m dX11_playLine_133 ?_
  refine w_aload_n hB 0 dX11_playLine_134 rfl rfl ?_
  obtain ⟨M2m, hc_M2m, hF⟩ := clvS hF
  refine w_callV hB (ci := 9) (As := []) (st := []) cw_X11_228 q_1324 q_22 rfl sh_311 (Or.inl hp.1) (c_X11_steps hp hc_M2m) ⟨rfl, rfl⟩ (by decide) (by decide) rfl (Nat.le_of_ble_eq_true rfl) dX11_playLine_135 rfl ?_
  refine w_aload_n hB 0 dX11_playLine_138 rfl rfl ?_
  refine w_getC hB (v := 335) ff_X11_33 sh_311 hp.1 cr_311_33 (by decide) q_1193 dX11_playLine_139 ?_
  refine w_iload_n hB 1 dX11_playLine_142 rfl rfl ?_
  refine w_iconst hB 0 (by decide) dX11_playLine_143 ?_
  obtain ⟨g2, hF⟩ := gdS hF
  obtain ⟨M3m, e_M3m, hF⟩ := bndS hF
  refine w_iast hB sh_335 (Or.inl hp.1) sl_335 g2 e_M3m dX11_playLine_144 ?_
  exact Wt.sub (L' := [(0, vr 311), (1, vi x1)]) [0, 1] rfl (b_X11_playLine_b145 hp hB fuel _ M3m hF)
def f_X11_playLine_b106 (x1 : Int32) (xs1 : Int32) (M : Mem) : Option Mem :=
  cl (f_X11_must xs1 1 M) fun r1 M1m =>
  if r1 = 0 then
    some M1m
  else
    cl (f_X11_is 42 M1m) fun r2 M2m =>
    if r2 = 0 then
      f_X11_playLine_b133 x1 x1 0 M2m
    else
      f_X11_playLine_b133 x1 x1 1 M2m
set_option maxRecDepth 100000 in
set_option maxHeartbeats 4000000 in
theorem b_X11_playLine_b106 {K : Kt} {X : Xt} (hp : St K) (hB : Bx K X { frames := 10, cells := 0, slots := 0, locals := 215 } cX11_playLine 2 RX11 none) {M1 : Mem} {x1 : Int32} {xs1 : Int32} {M : Mem} (hF : f_X11_playLine_b106 x1 xs1 M = some M1) : Wt K X (QM K X none M1 0 0) 0 0 M 106 [(0, vr 311), (1, vi x1)] [vi xs1, vr 311] := by
  unfold f_X11_playLine_b106 at hF
  refine w_iconst hB 1 (by decide) dX11_playLine_106 ?_
  obtain ⟨r1, M1m, hc_M1m, hF⟩ := clS hF
  refine w_callV hB (ci := 9) (As := [vi xs1, vi 1]) (st := []) cw_X11_224 q_1405 q_28 rfl sh_311 (Or.inl hp.1) (c_X11_must hp hc_M1m) ⟨rfl, rfl⟩ (by decide) (by decide) rfl (Nat.le_of_ble_eq_true rfl) dX11_playLine_107 rfl ?_
  refine w_if_ne hB 114 dX11_playLine_110 (by decide) (fun hc => ?_) (fun hc => ?_)
  · replace hF := ifF hc hF
    refine w_aload_n hB 0 dX11_playLine_114 rfl rfl ?_
    refine w_getC hB (v := 334) ff_X11_32 sh_311 hp.1 cr_311_32 (by decide) q_1192 dX11_playLine_115 ?_
    refine w_iload_n hB 1 dX11_playLine_118 rfl rfl ?_
    refine w_aload_n hB 0 dX11_playLine_119 rfl rfl ?_
    refine w_ldcs hB hp 42 (by decide) dX11_playLine_120 ?_
    obtain ⟨r2, M2m, hc_M2m, hF⟩ := clS hF
    refine w_callV hB (ci := 9) (As := [vr 42]) (st := [vi x1, vr 334]) cw_X11_188 q_1342 q_25 rfl sh_311 (Or.inl hp.1) (c_X11_is hp hc_M2m) ⟨rfl, rfl⟩ (by decide) (by decide) rfl (Nat.le_of_ble_eq_true rfl) dX11_playLine_122 rfl ?_
    refine w_if_eq hB 132 dX11_playLine_125 (by decide) (fun hc => ?_) (fun hc => ?_)
    · replace hF := ifT hc hF
      refine w_iconst hB 0 (by decide) dX11_playLine_132 ?_
      exact Wt.sub (L' := [(0, vr 311), (1, vi x1)]) [0, 1] rfl (b_X11_playLine_b133 hp hB hF)
    · replace hF := ifF hc hF
      refine w_iconst hB 1 (by decide) dX11_playLine_128 ?_
      refine w_goto hB 133 dX11_playLine_129 (by decide) ?_
      exact Wt.sub (L' := [(0, vr 311), (1, vi x1)]) [0, 1] rfl (b_X11_playLine_b133 hp hB hF)
  · replace hF := ifT hc hF
    cases hF
    exact w_vret hB dX11_playLine_113
def f_X11_playLine_b101 (x1 : Int32) (M : Mem) : Option Mem :=
  f_X11_playLine_b106 x1 1 M
set_option maxRecDepth 100000 in
set_option maxHeartbeats 4000000 in
theorem b_X11_playLine_b101 {K : Kt} {X : Xt} (hp : St K) (hB : Bx K X { frames := 10, cells := 0, slots := 0, locals := 215 } cX11_playLine 2 RX11 none) {M1 : Mem} {x1 : Int32} {M : Mem} (hF : f_X11_playLine_b101 x1 M = some M1) : Wt K X (QM K X none M1 0 0) 0 0 M 101 [(0, vr 311), (1, vi x1)] [vr 311] := by
  unfold f_X11_playLine_b101 at hF
  refine w_iconst hB 1 (by decide) dX11_playLine_101 ?_
  refine w_goto hB 106 dX11_playLine_102 (by decide) ?_
  exact Wt.sub (L' := [(0, vr 311), (1, vi x1)]) [0, 1] rfl (b_X11_playLine_b106 hp hB hF)
def f_X11_playLine_b40 (x1 : Int32) (xs1 : Int32) (xs3 : Int32) (M : Mem) : Option Mem :=
  cl (f_X11_number xs3 999 M) fun r1 M1m =>
  gd (inb xs1 16) <|
  bnd (setI M1m 330 (xs1.toNatClampNeg) r1) fun M2m =>
  cl (f_X11_known 2 M2m) fun r2 M3m =>
  gd (inb x1 16) <|
  bnd (setI M3m 331 (x1.toNatClampNeg) r2) fun M4m =>
  cl (f_X11_known 1 M4m) fun r3 M5m =>
  bnd (setI M5m 332 (x1.toNatClampNeg) r3) fun M6m =>
  cl (f_X11_number 0 99 M6m) fun r4 M7m =>
  bnd (setI M7m 333 (x1.toNatClampNeg) r4) fun M8m =>
  cl (f_X11_is 42 M8m) fun r5 M9m =>
  if r5 = 0 then
    cl (f_X11_is 43 M9m) fun r6 M10m =>
    if r6 = 0 then
      f_X11_playLine_b106 x1 0 M10m
    else
      f_X11_playLine_b101 x1 M10m
  else
    f_X11_playLine_b101 x1 M9m
set_option maxRecDepth 100000 in
set_option maxHeartbeats 4000000 in
theorem b_X11_playLine_b40 {K : Kt} {X : Xt} (hp : St K) (hB : Bx K X { frames := 10, cells := 0, slots := 0, locals := 215 } cX11_playLine 2 RX11 none) {M1 : Mem} {x1 : Int32} {xs1 : Int32} {xs3 : Int32} {M : Mem} (hF : f_X11_playLine_b40 x1 xs1 xs3 M = some M1) : Wt K X (QM K X none M1 0 0) 0 0 M 40 [(0, vr 311), (1, vi x1)] [vi xs3, vr 311, vi xs1, vr 330] := by
  unfold f_X11_playLine_b40 at hF
  refine w_sipush hB 999 (by decide) dX11_playLine_40 ?_
  obtain ⟨r1, M1m, hc_M1m, hF⟩ := clS hF
  refine w_callV hB (ci := 9) (As := [vi xs3, vi 999]) (st := [vi xs1, vr 330]) cw_X11_246 q_1444 q_34 rfl sh_311 (Or.inl hp.1) (c_X11_number hp hc_M1m) ⟨rfl, rfl⟩ (by decide) (by decide) rfl (Nat.le_of_ble_eq_true rfl) dX11_playLine_43 rfl ?_
  obtain ⟨g1, hF⟩ := gdS hF
  obtain ⟨M2m, e_M2m, hF⟩ := bndS hF
  refine w_iast hB sh_330 (Or.inl hp.1) sl_330 g1 e_M2m dX11_playLine_46 ?_
  refine w_aload_n hB 0 dX11_playLine_47 rfl rfl ?_
  refine w_getC hB (v := 331) ff_X11_29 sh_311 hp.1 cr_311_29 (by decide) q_1189 dX11_playLine_48 ?_
  refine w_iload_n hB 1 dX11_playLine_51 rfl rfl ?_
  refine w_aload_n hB 0 dX11_playLine_52 rfl rfl ?_
  refine w_iconst hB 2 (by decide) dX11_playLine_53 ?_
  obtain ⟨r2, M3m, hc_M3m, hF⟩ := clS hF
  refine w_callV hB (ci := 9) (As := [vi 2]) (st := [vi x1, vr 331]) cw_X11_250 q_1452 q_36 rfl sh_311 (Or.inl hp.1) (c_X11_known hp hc_M3m) ⟨rfl, rfl⟩ (by decide) (by decide) rfl (Nat.le_of_ble_eq_true rfl) dX11_playLine_54 rfl ?_
  obtain ⟨g2, hF⟩ := gdS hF
  obtain ⟨M4m, e_M4m, hF⟩ := bndS hF
  refine w_iast hB sh_331 (Or.inl hp.1) sl_331 g2 e_M4m dX11_playLine_57 ?_
  refine w_aload_n hB 0 dX11_playLine_58 rfl rfl ?_
  refine w_getC hB (v := 332) ff_X11_30 sh_311 hp.1 cr_311_30 (by decide) q_1190 dX11_playLine_59 ?_
  refine w_iload_n hB 1 dX11_playLine_62 rfl rfl ?_
  refine w_aload_n hB 0 dX11_playLine_63 rfl rfl ?_
  refine w_iconst hB 1 (by decide) dX11_playLine_64 ?_
  obtain ⟨r3, M5m, hc_M5m, hF⟩ := clS hF
  refine w_callV hB (ci := 9) (As := [vi 1]) (st := [vi x1, vr 332]) cw_X11_250 q_1452 q_36 rfl sh_311 (Or.inl hp.1) (c_X11_known hp hc_M5m) ⟨rfl, rfl⟩ (by decide) (by decide) rfl (Nat.le_of_ble_eq_true rfl) dX11_playLine_65 rfl ?_
  obtain ⟨M6m, e_M6m, hF⟩ := bndS hF
  refine w_iast hB sh_332 (Or.inl hp.1) sl_332 g2 e_M6m dX11_playLine_68 ?_
  refine w_aload_n hB 0 dX11_playLine_69 rfl rfl ?_
  refine w_getC hB (v := 333) ff_X11_31 sh_311 hp.1 cr_311_31 (by decide) q_1191 dX11_playLine_70 ?_
  refine w_iload_n hB 1 dX11_playLine_73 rfl rfl ?_
  refine w_aload_n hB 0 dX11_playLine_74 rfl rfl ?_
  refine w_iconst hB 0 (by decide) dX11_playLine_75 ?_
  refine w_bipush hB 99 (by decide) dX11_playLine_76 ?_
  obtain ⟨r4, M7m, hc_M7m, hF⟩ := clS hF
  refine w_callV hB (ci := 9) (As := [vi 0, vi 99]) (st := [vi x1, vr 333]) cw_X11_246 q_1444 q_34 rfl sh_311 (Or.inl hp.1) (c_X11_number hp hc_M7m) ⟨rfl, rfl⟩ (by decide) (by decide) rfl (Nat.le_of_ble_eq_true rfl) dX11_playLine_78 rfl ?_
  obtain ⟨M8m, e_M8m, hF⟩ := bndS hF
  refine w_iast hB sh_333 (Or.inl hp.1) sl_333 g2 e_M8m dX11_playLine_81 ?_
  refine w_aload_n hB 0 dX11_playLine_82 rfl rfl ?_
  refine w_aload_n hB 0 dX11_playLine_83 rfl rfl ?_
  refine w_ldcs hB hp 42 (by decide) dX11_playLine_84 ?_
  obtain ⟨r5, M9m, hc_M9m, hF⟩ := clS hF
  refine w_callV hB (ci := 9) (As := [vr 42]) (st := [vr 311]) cw_X11_188 q_1342 q_25 rfl sh_311 (Or.inl hp.1) (c_X11_is hp hc_M9m) ⟨rfl, rfl⟩ (by decide) (by decide) rfl (Nat.le_of_ble_eq_true rfl) dX11_playLine_86 rfl ?_
  refine w_if_ne hB 101 dX11_playLine_89 (by decide) (fun hc => ?_) (fun hc => ?_)
  · replace hF := ifF hc hF
    exact Wt.sub (L' := [(0, vr 311), (1, vi x1)]) [0, 1] rfl (b_X11_playLine_b101 hp hB hF)
  · replace hF := ifT hc hF
    refine w_aload_n hB 0 dX11_playLine_92 rfl rfl ?_
    refine w_ldcs hB hp 43 (by decide) dX11_playLine_93 ?_
    obtain ⟨r6, M10m, hc_M10m, hF⟩ := clS hF
    refine w_callV hB (ci := 9) (As := [vr 43]) (st := [vr 311]) cw_X11_188 q_1342 q_25 rfl sh_311 (Or.inl hp.1) (c_X11_is hp hc_M10m) ⟨rfl, rfl⟩ (by decide) (by decide) rfl (Nat.le_of_ble_eq_true rfl) dX11_playLine_95 rfl ?_
    refine w_if_eq hB 105 dX11_playLine_98 (by decide) (fun hc => ?_) (fun hc => ?_)
    · replace hF := ifT hc hF
      refine w_iconst hB 0 (by decide) dX11_playLine_105 ?_
      exact Wt.sub (L' := [(0, vr 311), (1, vi x1)]) [0, 1] rfl (b_X11_playLine_b106 hp hB hF)
    · replace hF := ifF hc hF
      exact Wt.sub (L' := [(0, vr 311), (1, vi x1)]) [0, 1] rfl (b_X11_playLine_b101 hp hB hF)
def f_X11_playLine (M : Mem) : Option Mem :=
  clv (f_X11_newName 4 M) fun M1m =>
  cl (f_X11_read 4 M1m) fun r1 M2m =>
  bnd (8 + r1) fun a1 =>
  cl (f_X11_read 4 M2m) fun r2 M3m =>
  if r2 = 0 then
    f_X11_playLine_b40 a1 a1 0 M3m
  else
    gd (inb (a1 - 1) 16) <|
    f_X11_playLine_b40 a1 a1 (M3m.1 330 (a1 - 1).toNatClampNeg) M3m
set_option maxRecDepth 100000 in
set_option maxHeartbeats 4000000 in
theorem b_X11_playLine {K : Kt} {X : Xt} (hp : St K) (hB : Bx K X { frames := 10, cells := 0, slots := 0, locals := 215 } cX11_playLine 2 RX11 none) {M1 : Mem} {M : Mem} (hF : f_X11_playLine M = some M1) : Wt K X (QM K X none M1 0 0) 0 0 M 0 [(0, vr 311)] [] := by
  unfold f_X11_playLine at hF
  refine w_aload_n hB 0 dX11_playLine_0 rfl rfl ?_
  refine w_iconst hB 4 (by decide) dX11_playLine_1 ?_
  obtain ⟨M1m, hc_M1m, hF⟩ := clvS hF
  refine w_callV hB (ci := 9) (As := [vi 4]) (st := []) cw_X11_243 q_1413 q_30 rfl sh_311 (Or.inl hp.1) (c_X11_newName hp hc_M1m) ⟨rfl, rfl⟩ (by decide) (by decide) rfl (Nat.le_of_ble_eq_true rfl) dX11_playLine_2 rfl ?_
  refine w_bipush hB 8 (by decide) dX11_playLine_5 ?_
  refine w_aload_n hB 0 dX11_playLine_7 rfl rfl ?_
  refine w_iconst hB 4 (by decide) dX11_playLine_8 ?_
  obtain ⟨r1, M2m, hc_M2m, hF⟩ := clS hF
  refine w_callV hB (ci := 9) (As := [vi 4]) (st := [vi 8]) cw_X11_231 q_1401 q_27 rfl sh_311 (Or.inl hp.1) (c_X11_read hp hc_M2m) ⟨rfl, rfl⟩ (by decide) (by decide) rfl (Nat.le_of_ble_eq_true rfl) dX11_playLine_9 rfl ?_
  refine w_iadd hB dX11_playLine_12 ?_
  obtain ⟨a1, e_a1, hF⟩ := bndS hF
  refine w_istore_n hB (L' := [(1, vi a1), (0, vr 311)]) dX11_playLine_13 rfl (by decide) e_a1 rfl ?_
  refine w_aload_n hB 1 dX11_playLine_14 rfl rfl ?_
  refine w_getC hB (v := 330) ff_X11_28 sh_311 hp.1 cr_311_28 (by decide) q_1188 dX11_playLine_15 ?_
  refine w_iload_n hB 0 dX11_playLine_18 rfl rfl ?_
  refine w_aload_n hB 1 dX11_playLine_19 rfl rfl ?_
  refine w_aload_n hB 1 dX11_playLine_20 rfl rfl ?_
  refine w_iconst hB 4 (by decide) dX11_playLine_21 ?_
  obtain ⟨r2, M3m, hc_M3m, hF⟩ := clS hF
  refine w_callV hB (ci := 9) (As := [vi 4]) (st := [vr 311, vi a1, vr 330]) cw_X11_231 q_1401 q_27 rfl sh_311 (Or.inl hp.1) (c_X11_read hp hc_M3m) ⟨rfl, rfl⟩ (by decide) (by decide) rfl (Nat.le_of_ble_eq_true rfl) dX11_playLine_22 rfl ?_
  refine w_if_ne hB 32 dX11_playLine_25 (by decide) (fun hc => ?_) (fun hc => ?_)
  · replace hF := ifF hc hF
    refine w_aload_n hB 1 dX11_playLine_32 rfl rfl ?_
    refine w_getC hB (v := 330) ff_X11_28 sh_311 hp.1 cr_311_28 (by decide) q_1188 dX11_playLine_33 ?_
    refine w_iload_n hB 0 dX11_playLine_36 rfl rfl ?_
    refine w_iconst hB 1 (by decide) dX11_playLine_37 ?_
    refine w_isub hB dX11_playLine_38 ?_
    obtain ⟨g1, hF⟩ := gdS hF
    refine w_iald hB sh_330 (Or.inl hp.1) sl_330 g1 dX11_playLine_39 ?_
    exact Wt.sub (L' := [(0, vr 311), (1, vi a1)]) [1, 0] rfl (b_X11_playLine_b40 hp hB hF)
  · replace hF := ifT hc hF
    refine w_iconst hB 0 (by decide) dX11_playLine_28 ?_
    refine w_goto hB 40 dX11_playLine_29 (by decide) ?_
    exact Wt.sub (L' := [(0, vr 311), (1, vi a1)]) [1, 0] rfl (b_X11_playLine_b40 hp hB hF)
theorem c_X11_playLine {K : Kt} {l : Launch} (hp : St K) {M1 : Mem} {M : Mem} (hF : f_X11_playLine M = some M1) : MT K l yX11_playLine cX11_playLine 2 none { frames := 10, cells := 0, slots := 0, locals := 215 } [vr 311] M none M1 0 0 :=
  MT_of (by decide) rfl (Nat.le_of_ble_eq_true rfl) (fun X _ hB _ => b_X11_playLine hp hB hF)
def f_X11_ruleLine_b60 (xs1 : Int32) (xs3 : Int32) (xs4 : Int32) (M : Mem) : Option Mem :=
  cl (f_X11_number xs3 xs4 M) fun r1 M1m =>
  gd (inb xs1 8) <|
  bnd (setI M1m 314 (xs1.toNatClampNeg) r1) fun M2m =>
  some M2m
set_option maxRecDepth 100000 in
set_option maxHeartbeats 4000000 in
theorem b_X11_ruleLine_b60 {K : Kt} {X : Xt} (hp : St K) (hB : Bx K X { frames := 3, cells := 0, slots := 0, locals := 69 } cX11_ruleLine 2 RX11 none) {M1 : Mem} {xs1 : Int32} {xs3 : Int32} {xs4 : Int32} {M : Mem} (hF : f_X11_ruleLine_b60 xs1 xs3 xs4 M = some M1) : Wt K X (QM K X none M1 0 0) 0 0 M 60 [] [vi xs4, vi xs3, vr 311, vi xs1, vr 314] := by
  unfold f_X11_ruleLine_b60 at hF
  obtain ⟨r1, M1m, hc_M1m, hF⟩ := clS hF
  refine w_callV hB (ci := 9) (As := [vi xs3, vi xs4]) (st := [vi xs1, vr 314]) cw_X11_246 q_1444 q_34 rfl sh_311 (Or.inl hp.1) (c_X11_number hp hc_M1m) ⟨rfl, rfl⟩ (by decide) (by decide) rfl (Nat.le_of_ble_eq_true rfl) dX11_ruleLine_60 rfl ?_
  obtain ⟨g1, hF⟩ := gdS hF
  obtain ⟨M2m, e_M2m, hF⟩ := bndS hF
  refine w_iast hB sh_314 (Or.inl hp.1) sl_314 g1 e_M2m dX11_ruleLine_63 ?_
  cases hF
  exact w_vret hB dX11_ruleLine_64
def f_X11_ruleLine_b52 (xs1 : Int32) (xs3 : Int32) (M : Mem) : Option Mem :=
  f_X11_ruleLine_b60 xs1 xs3 999 M
set_option maxRecDepth 100000 in
set_option maxHeartbeats 4000000 in
theorem b_X11_ruleLine_b52 {K : Kt} {X : Xt} (hp : St K) (hB : Bx K X { frames := 3, cells := 0, slots := 0, locals := 69 } cX11_ruleLine 2 RX11 none) {M1 : Mem} {xs1 : Int32} {xs3 : Int32} {M : Mem} (hF : f_X11_ruleLine_b52 xs1 xs3 M = some M1) : Wt K X (QM K X none M1 0 0) 0 0 M 52 [] [vi xs3, vr 311, vi xs1, vr 314] := by
  unfold f_X11_ruleLine_b52 at hF
  refine w_sipush hB 999 (by decide) dX11_ruleLine_52 ?_
  refine w_goto hB 60 dX11_ruleLine_55 (by decide) ?_
  exact Wt.sub (L' := []) [] rfl (b_X11_ruleLine_b60 hp hB hF)
def f_X11_ruleLine_b15 (x1 : Int32) (xs1 : Int32) (M : Mem) : Option Mem :=
  cl (f_X11_must xs1 5 M) fun r1 M1m =>
  if r1 = 0 then
    some M1m
  else
    gd (inb x1 4) <|
    bnd (setI M1m 315 (x1.toNatClampNeg) (vp_nar .boolean 1)) fun M2m =>
    clv (f_X11_steps M2m) fun M3m =>
    if x1 = 0 then
      f_X11_ruleLine_b52 (4 + x1) 0 M3m
    else
      if x1 = 2 then
        f_X11_ruleLine_b52 (4 + x1) 0 M3m
      else
        f_X11_ruleLine_b60 (4 + x1) 0 9 M3m
set_option maxRecDepth 100000 in
set_option maxHeartbeats 4000000 in
theorem b_X11_ruleLine_b15 {K : Kt} {X : Xt} (hp : St K) (hB : Bx K X { frames := 3, cells := 0, slots := 0, locals := 69 } cX11_ruleLine 2 RX11 none) {M1 : Mem} {x1 : Int32} {xs1 : Int32} {M : Mem} (hF : f_X11_ruleLine_b15 x1 xs1 M = some M1) : Wt K X (QM K X none M1 0 0) 0 0 M 15 [(0, vr 311), (1, vi x1)] [vi xs1, vr 311] := by
  unfold f_X11_ruleLine_b15 at hF
  refine w_iconst hB 5 (by decide) dX11_ruleLine_15 ?_
  obtain ⟨r1, M1m, hc_M1m, hF⟩ := clS hF
  refine w_callV hB (ci := 9) (As := [vi xs1, vi 5]) (st := []) cw_X11_224 q_1405 q_28 rfl sh_311 (Or.inl hp.1) (c_X11_must hp hc_M1m) ⟨rfl, rfl⟩ (by decide) (by decide) rfl (Nat.le_of_ble_eq_true rfl) dX11_ruleLine_16 rfl ?_
  refine w_if_ne hB 23 dX11_ruleLine_19 (by decide) (fun hc => ?_) (fun hc => ?_)
  · replace hF := ifF hc hF
    refine w_aload_n hB 0 dX11_ruleLine_23 rfl rfl ?_
    refine w_getC hB (v := 315) ff_X11_13 sh_311 hp.1 cr_311_13 (by decide) q_1173 dX11_ruleLine_24 ?_
    refine w_iload_n hB 1 dX11_ruleLine_27 rfl rfl ?_
    refine w_iconst hB 1 (by decide) dX11_ruleLine_28 ?_
    obtain ⟨g1, hF⟩ := gdS hF
    obtain ⟨M2m, e_M2m, hF⟩ := bndS hF
    refine w_zast hB sh_315 (Or.inl hp.1) sl_315 g1 e_M2m dX11_ruleLine_29 ?_
    refine w_aload_n hB 0 dX11_ruleLine_30 rfl rfl ?_
    obtain ⟨M3m, hc_M3m, hF⟩ := clvS hF
    refine w_callV hB (ci := 9) (As := []) (st := []) cw_X11_228 q_1324 q_22 rfl sh_311 (Or.inl hp.1) (c_X11_steps hp hc_M3m) ⟨rfl, rfl⟩ (by decide) (by decide) rfl (Nat.le_of_ble_eq_true rfl) dX11_ruleLine_31 rfl ?_
    refine w_aload_n hB 0 dX11_ruleLine_34 rfl rfl ?_
    refine w_getC hB (v := 314) ff_X11_12 sh_311 hp.1 cr_311_12 (by decide) q_1172 dX11_ruleLine_35 ?_
    refine w_iconst hB 4 (by decide) dX11_ruleLine_38 ?_
    refine w_iload_n hB 1 dX11_ruleLine_39 rfl rfl ?_
    refine w_iadd hB dX11_ruleLine_40 ?_
    refine w_aload_n hB 0 dX11_ruleLine_41 rfl rfl ?_
    refine w_iconst hB 0 (by decide) dX11_ruleLine_42 ?_
    refine w_iload_n hB 1 dX11_ruleLine_43 rfl rfl ?_
    refine w_if_eq hB 52 dX11_ruleLine_44 (by decide) (fun hc => ?_) (fun hc => ?_)
    · replace hF := ifT hc hF
      exact Wt.sub (L' := []) [] rfl (b_X11_ruleLine_b52 hp hB hF)
    · replace hF := ifF hc hF
      refine w_iload_n hB 1 dX11_ruleLine_47 rfl rfl ?_
      refine w_iconst hB 2 (by decide) dX11_ruleLine_48 ?_
      refine w_icmp_ne hB 58 dX11_ruleLine_49 (by decide) (fun hc => ?_) (fun hc => ?_)
      · replace hF := ifF hc hF
        refine w_bipush hB 9 (by decide) dX11_ruleLine_58 ?_
        exact Wt.sub (L' := []) [] rfl (b_X11_ruleLine_b60 hp hB hF)
      · replace hF := ifT hc hF
        exact Wt.sub (L' := []) [] rfl (b_X11_ruleLine_b52 hp hB hF)
  · replace hF := ifT hc hF
    cases hF
    exact w_vret hB dX11_ruleLine_22
def f_X11_ruleLine (x1 : Int32) (M : Mem) : Option Mem :=
  gd (inb x1 4) <|
  if (M.1 315 x1.toNatClampNeg) = 0 then
    f_X11_ruleLine_b15 x1 1 M
  else
    f_X11_ruleLine_b15 x1 0 M
set_option maxRecDepth 100000 in
set_option maxHeartbeats 4000000 in
theorem b_X11_ruleLine {K : Kt} {X : Xt} (hp : St K) (hB : Bx K X { frames := 3, cells := 0, slots := 0, locals := 69 } cX11_ruleLine 2 RX11 none) {M1 : Mem} {x1 : Int32} {M : Mem} (hF : f_X11_ruleLine x1 M = some M1) : Wt K X (QM K X none M1 0 0) 0 0 M 0 [(0, vr 311), (1, vi x1)] [] := by
  unfold f_X11_ruleLine at hF
  refine w_aload_n hB 0 dX11_ruleLine_0 rfl rfl ?_
  refine w_aload_n hB 0 dX11_ruleLine_1 rfl rfl ?_
  refine w_getC hB (v := 315) ff_X11_13 sh_311 hp.1 cr_311_13 (by decide) q_1173 dX11_ruleLine_2 ?_
  refine w_iload_n hB 1 dX11_ruleLine_5 rfl rfl ?_
  obtain ⟨g1, hF⟩ := gdS hF
  refine w_zald hB sh_315 (Or.inl hp.1) sl_315 g1 dX11_ruleLine_6 ?_
  refine w_if_ne hB 14 dX11_ruleLine_7 (by decide) (fun hc => ?_) (fun hc => ?_)
  · replace hF := ifF hc hF
    refine w_iconst hB 0 (by decide) dX11_ruleLine_14 ?_
    exact Wt.sub (L' := [(0, vr 311), (1, vi x1)]) [0, 1] rfl (b_X11_ruleLine_b15 hp hB hF)
  · replace hF := ifT hc hF
    refine w_iconst hB 1 (by decide) dX11_ruleLine_10 ?_
    refine w_goto hB 15 dX11_ruleLine_11 (by decide) ?_
    exact Wt.sub (L' := [(0, vr 311), (1, vi x1)]) [0, 1] rfl (b_X11_ruleLine_b15 hp hB hF)
theorem c_X11_ruleLine {K : Kt} {l : Launch} (hp : St K) {M1 : Mem} {x1 : Int32} {M : Mem} (hF : f_X11_ruleLine x1 M = some M1) : MT K l yX11_ruleLine cX11_ruleLine 2 none { frames := 3, cells := 0, slots := 0, locals := 69 } [vr 311, vi x1] M none M1 0 0 :=
  MT_of (by decide) rfl (Nat.le_of_ble_eq_true rfl) (fun X _ hB _ => b_X11_ruleLine hp hB hF)
def f_X11_begins_b15 (xs1 : Int32) (M : Mem) : Option (Int32 × Mem) :=
  cl (f_X11_must xs1 5 M) fun r1 M1m =>
  if r1 = 0 then
    some (0, M1m)
  else
    clv (f_X11_steps M1m) fun M2m =>
    some (1, M2m)
set_option maxRecDepth 100000 in
set_option maxHeartbeats 4000000 in
theorem b_X11_begins_b15 {K : Kt} {X : Xt} (hp : St K) (hB : Bx K X { frames := 2, cells := 0, slots := 0, locals := 46 } cX11_begins 3 RX11 (some .boolean)) {r : Int32} {M1 : Mem} {xs1 : Int32} {M : Mem} (hF : f_X11_begins_b15 xs1 M = some (r, M1)) : Wt K X (QM K X (some (vi r)) M1 0 0) 0 0 M 15 [(0, vr 311)] [vi xs1, vr 311] := by
  unfold f_X11_begins_b15 at hF
  refine w_iconst hB 5 (by decide) dX11_begins_15 ?_
  obtain ⟨r1, M1m, hc_M1m, hF⟩ := clS hF
  refine w_callV hB (ci := 9) (As := [vi xs1, vi 5]) (st := []) cw_X11_224 q_1405 q_28 rfl sh_311 (Or.inl hp.1) (c_X11_must hp hc_M1m) ⟨rfl, rfl⟩ (by decide) (by decide) rfl (Nat.le_of_ble_eq_true rfl) dX11_begins_16 rfl ?_
  refine w_if_ne hB 24 dX11_begins_19 (by decide) (fun hc => ?_) (fun hc => ?_)
  · replace hF := ifF hc hF
    refine w_aload_n hB 0 dX11_begins_24 rfl rfl ?_
    obtain ⟨M2m, hc_M2m, hF⟩ := clvS hF
    refine w_callV hB (ci := 9) (As := []) (st := []) cw_X11_228 q_1324 q_22 rfl sh_311 (Or.inl hp.1) (c_X11_steps hp hc_M2m) ⟨rfl, rfl⟩ (by decide) (by decide) rfl (Nat.le_of_ble_eq_true rfl) dX11_begins_25 rfl ?_
    refine w_iconst hB 1 (by decide) dX11_begins_28 ?_
    obtain ⟨e1, e2⟩ := retS hF
    subst e2
    exact w_zret hB (by decide) dX11_begins_29 e1
  · replace hF := ifT hc hF
    refine w_iconst hB 0 (by decide) dX11_begins_22 ?_
    obtain ⟨e1, e2⟩ := retS hF
    subst e2
    exact w_zret hB (by decide) dX11_begins_23 e1
def f_X11_begins (x1 : Int32) (x2 : Int32) (M : Mem) : Option (Int32 × Mem) :=
  cl (f_X11_read x1 M) fun r1 M1m =>
  if x2 ≤ r1 then
    f_X11_begins_b15 0 M1m
  else
    f_X11_begins_b15 1 M1m
set_option maxRecDepth 100000 in
set_option maxHeartbeats 4000000 in
theorem b_X11_begins {K : Kt} {X : Xt} (hp : St K) (hB : Bx K X { frames := 2, cells := 0, slots := 0, locals := 46 } cX11_begins 3 RX11 (some .boolean)) {r : Int32} {M1 : Mem} {x1 : Int32} {x2 : Int32} {M : Mem} (hF : f_X11_begins x1 x2 M = some (r, M1)) : Wt K X (QM K X (some (vi r)) M1 0 0) 0 0 M 0 [(0, vr 311), (1, vi x1), (2, vi x2)] [] := by
  unfold f_X11_begins at hF
  refine w_aload_n hB 0 dX11_begins_0 rfl rfl ?_
  refine w_aload_n hB 0 dX11_begins_1 rfl rfl ?_
  refine w_iload_n hB 1 dX11_begins_2 rfl rfl ?_
  obtain ⟨r1, M1m, hc_M1m, hF⟩ := clS hF
  refine w_callV hB (ci := 9) (As := [vi x1]) (st := [vr 311]) cw_X11_231 q_1401 q_27 rfl sh_311 (Or.inl hp.1) (c_X11_read hp hc_M1m) ⟨rfl, rfl⟩ (by decide) (by decide) rfl (Nat.le_of_ble_eq_true rfl) dX11_begins_3 rfl ?_
  refine w_iload_n hB 2 dX11_begins_6 rfl rfl ?_
  refine w_icmp_ge hB 14 dX11_begins_7 (by decide) (fun hc => ?_) (fun hc => ?_)
  · replace hF := ifT hc hF
    refine w_iconst hB 0 (by decide) dX11_begins_14 ?_
    exact Wt.sub (L' := [(0, vr 311)]) [0] rfl (b_X11_begins_b15 hp hB hF)
  · replace hF := ifF hc hF
    refine w_iconst hB 1 (by decide) dX11_begins_10 ?_
    refine w_goto hB 15 dX11_begins_11 (by decide) ?_
    exact Wt.sub (L' := [(0, vr 311)]) [0] rfl (b_X11_begins_b15 hp hB hF)
theorem c_X11_begins {K : Kt} {l : Launch} (hp : St K) {r : Int32} {M1 : Mem} {x1 : Int32} {x2 : Int32} {M : Mem} (hF : f_X11_begins x1 x2 M = some (r, M1)) : MT K l yX11_begins cX11_begins 3 (some .boolean) { frames := 2, cells := 0, slots := 0, locals := 46 } [vr 311, vi x1, vi x2] M (some (vi r)) M1 0 0 :=
  MT_of (by decide) rfl (Nat.le_of_ble_eq_true rfl) (fun X _ hB _ => b_X11_begins hp hB hF)
def f_X11_lineHere_b227 (M : Mem) : Option Mem :=
  clv (f_X11_takes 59 M) fun M1m =>
  some M1m
set_option maxRecDepth 100000 in
set_option maxHeartbeats 4000000 in
theorem b_X11_lineHere_b227 {K : Kt} {X : Xt} (hp : St K) (hB : Bx K X { frames := 12, cells := 0, slots := 0, locals := 255 } cX11_lineHere 1 RX11 none) {M1 : Mem} {M : Mem} (hF : f_X11_lineHere_b227 M = some M1) : Wt K X (QM K X none M1 0 0) 0 0 M 227 [(0, vr 311)] [] := by
  unfold f_X11_lineHere_b227 at hF
  refine w_aload_n hB 0 dX11_lineHere_227 rfl rfl ?_
  refine w_bipush hB 59 (by decide) dX11_lineHere_228 ?_
  obtain ⟨M1m, hc_M1m, hF⟩ := clvS hF
  refine w_callV hB (ci := 9) (As := [vi 59]) (st := []) cw_X11_297 q_1503 q_48 rfl sh_311 (Or.inl hp.1) (c_X11_takes hp hc_M1m) ⟨rfl, rfl⟩ (by decide) (by decide) rfl (Nat.le_of_ble_eq_true rfl) dX11_lineHere_230 rfl ?_
  cases hF
  exact w_vret hB dX11_lineHere_233
def f_X11_lineHere (M : Mem) : Option Mem :=
  cl (f_X11_is 28 M) fun r1 M1m =>
  if r1 = 0 then
    cl (f_X11_is 29 M1m) fun r2 M2m =>
    if r2 = 0 then
      cl (f_X11_is 30 M2m) fun r3 M3m =>
      if r3 = 0 then
        cl (f_X11_is 31 M3m) fun r4 M4m =>
        if r4 = 0 then
          cl (f_X11_is 32 M4m) fun r5 M5m =>
          if r5 = 0 then
            cl (f_X11_is 33 M5m) fun r6 M6m =>
            if r6 = 0 then
              cl (f_X11_is 34 M6m) fun r7 M7m =>
              if r7 = 0 then
                cl (f_X11_is 35 M7m) fun r8 M8m =>
                if r8 = 0 then
                  cl (f_X11_is 36 M8m) fun r9 M9m =>
                  if r9 = 0 then
                    cl (f_X11_is 37 M9m) fun r10 M10m =>
                    if r10 = 0 then
                      cl (f_X11_must 0 1 M10m) fun r11 M11m =>
                      f_X11_lineHere_b227 M11m
                    else
                      clv (f_X11_ruleLine 3 M10m) fun M12m =>
                      f_X11_lineHere_b227 M12m
                  else
                    clv (f_X11_ruleLine 2 M9m) fun M13m =>
                    f_X11_lineHere_b227 M13m
                else
                  clv (f_X11_ruleLine 1 M8m) fun M14m =>
                  f_X11_lineHere_b227 M14m
              else
                clv (f_X11_ruleLine 0 M7m) fun M15m =>
                f_X11_lineHere_b227 M15m
            else
              cl (f_X11_begins 4 8 M6m) fun r12 M16m =>
              if r12 = 0 then
                f_X11_lineHere_b227 M16m
              else
                clv (f_X11_playLine M16m) fun M17m =>
                f_X11_lineHere_b227 M17m
          else
            cl (f_X11_begins 3 3 M5m) fun r13 M18m =>
            if r13 = 0 then
              f_X11_lineHere_b227 M18m
            else
              clv (f_X11_boardLine M18m) fun M19m =>
              f_X11_lineHere_b227 M19m
        else
          cl (f_X11_begins 2 5 M4m) fun r14 M20m =>
          if r14 = 0 then
            f_X11_lineHere_b227 M20m
          else
            clv (f_X11_kindLine M20m) fun M21m =>
            f_X11_lineHere_b227 M21m
      else
        cl (f_X11_begins 1 4 M3m) fun r15 M22m =>
        if r15 = 0 then
          f_X11_lineHere_b227 M22m
        else
          clv (f_X11_sideLine M22m) fun M23m =>
          f_X11_lineHere_b227 M23m
    else
      cl (f_X11_begins 5 6 M2m) fun r16 M24m =>
      if r16 = 0 then
        f_X11_lineHere_b227 M24m
      else
        clv (f_X11_flashLine M24m) fun M25m =>
        f_X11_lineHere_b227 M25m
  else
    cl (f_X11_begins 0 5 M1m) fun r17 M26m =>
    if r17 = 0 then
      f_X11_lineHere_b227 M26m
    else
      clv (f_X11_cameraLine M26m) fun M27m =>
      f_X11_lineHere_b227 M27m
set_option maxRecDepth 100000 in
set_option maxHeartbeats 4000000 in
theorem b_X11_lineHere {K : Kt} {X : Xt} (hp : St K) (hB : Bx K X { frames := 12, cells := 0, slots := 0, locals := 255 } cX11_lineHere 1 RX11 none) {M1 : Mem} {M : Mem} (hF : f_X11_lineHere M = some M1) : Wt K X (QM K X none M1 0 0) 0 0 M 0 [(0, vr 311)] [] := by
  unfold f_X11_lineHere at hF
  refine w_aload_n hB 0 dX11_lineHere_0 rfl rfl ?_
  refine w_ldcs hB hp 28 (by decide) dX11_lineHere_1 ?_
  obtain ⟨r1, M1m, hc_M1m, hF⟩ := clS hF
  refine w_callV hB (ci := 9) (As := [vr 28]) (st := []) cw_X11_188 q_1342 q_25 rfl sh_311 (Or.inl hp.1) (c_X11_is hp hc_M1m) ⟨rfl, rfl⟩ (by decide) (by decide) rfl (Nat.le_of_ble_eq_true rfl) dX11_lineHere_3 rfl ?_
  refine w_if_eq hB 25 dX11_lineHere_6 (by decide) (fun hc => ?_) (fun hc => ?_)
  · replace hF := ifT hc hF
    refine w_aload_n hB 0 dX11_lineHere_25 rfl rfl ?_
    refine w_ldcs hB hp 29 (by decide) dX11_lineHere_26 ?_
    obtain ⟨r2, M2m, hc_M2m, hF⟩ := clS hF
    refine w_callV hB (ci := 9) (As := [vr 29]) (st := []) cw_X11_188 q_1342 q_25 rfl sh_311 (Or.inl hp.1) (c_X11_is hp hc_M2m) ⟨rfl, rfl⟩ (by decide) (by decide) rfl (Nat.le_of_ble_eq_true rfl) dX11_lineHere_28 rfl ?_
    refine w_if_eq hB 51 dX11_lineHere_31 (by decide) (fun hc => ?_) (fun hc => ?_)
    · replace hF := ifT hc hF
      refine w_aload_n hB 0 dX11_lineHere_51 rfl rfl ?_
      refine w_ldcs hB hp 30 (by decide) dX11_lineHere_52 ?_
      obtain ⟨r3, M3m, hc_M3m, hF⟩ := clS hF
      refine w_callV hB (ci := 9) (As := [vr 30]) (st := []) cw_X11_188 q_1342 q_25 rfl sh_311 (Or.inl hp.1) (c_X11_is hp hc_M3m) ⟨rfl, rfl⟩ (by decide) (by decide) rfl (Nat.le_of_ble_eq_true rfl) dX11_lineHere_54 rfl ?_
      refine w_if_eq hB 76 dX11_lineHere_57 (by decide) (fun hc => ?_) (fun hc => ?_)
      · replace hF := ifT hc hF
        refine w_aload_n hB 0 dX11_lineHere_76 rfl rfl ?_
        refine w_ldcs hB hp 31 (by decide) dX11_lineHere_77 ?_
        obtain ⟨r4, M4m, hc_M4m, hF⟩ := clS hF
        refine w_callV hB (ci := 9) (As := [vr 31]) (st := []) cw_X11_188 q_1342 q_25 rfl sh_311 (Or.inl hp.1) (c_X11_is hp hc_M4m) ⟨rfl, rfl⟩ (by decide) (by decide) rfl (Nat.le_of_ble_eq_true rfl) dX11_lineHere_79 rfl ?_
        refine w_if_eq hB 101 dX11_lineHere_82 (by decide) (fun hc => ?_) (fun hc => ?_)
        · replace hF := ifT hc hF
          refine w_aload_n hB 0 dX11_lineHere_101 rfl rfl ?_
          refine w_ldcs hB hp 32 (by decide) dX11_lineHere_102 ?_
          obtain ⟨r5, M5m, hc_M5m, hF⟩ := clS hF
          refine w_callV hB (ci := 9) (As := [vr 32]) (st := []) cw_X11_188 q_1342 q_25 rfl sh_311 (Or.inl hp.1) (c_X11_is hp hc_M5m) ⟨rfl, rfl⟩ (by decide) (by decide) rfl (Nat.le_of_ble_eq_true rfl) dX11_lineHere_104 rfl ?_
          refine w_if_eq hB 126 dX11_lineHere_107 (by decide) (fun hc => ?_) (fun hc => ?_)
          · replace hF := ifT hc hF
            refine w_aload_n hB 0 dX11_lineHere_126 rfl rfl ?_
            refine w_ldcs hB hp 33 (by decide) dX11_lineHere_127 ?_
            obtain ⟨r6, M6m, hc_M6m, hF⟩ := clS hF
            refine w_callV hB (ci := 9) (As := [vr 33]) (st := []) cw_X11_188 q_1342 q_25 rfl sh_311 (Or.inl hp.1) (c_X11_is hp hc_M6m) ⟨rfl, rfl⟩ (by decide) (by decide) rfl (Nat.le_of_ble_eq_true rfl) dX11_lineHere_129 rfl ?_
            refine w_if_eq hB 152 dX11_lineHere_132 (by decide) (fun hc => ?_) (fun hc => ?_)
            · replace hF := ifT hc hF
              refine w_aload_n hB 0 dX11_lineHere_152 rfl rfl ?_
              refine w_ldcs hB hp 34 (by decide) dX11_lineHere_153 ?_
              obtain ⟨r7, M7m, hc_M7m, hF⟩ := clS hF
              refine w_callV hB (ci := 9) (As := [vr 34]) (st := []) cw_X11_188 q_1342 q_25 rfl sh_311 (Or.inl hp.1) (c_X11_is hp hc_M7m) ⟨rfl, rfl⟩ (by decide) (by decide) rfl (Nat.le_of_ble_eq_true rfl) dX11_lineHere_155 rfl ?_
              refine w_if_eq hB 169 dX11_lineHere_158 (by decide) (fun hc => ?_) (fun hc => ?_)
              · replace hF := ifT hc hF
                refine w_aload_n hB 0 dX11_lineHere_169 rfl rfl ?_
                refine w_ldcs hB hp 35 (by decide) dX11_lineHere_170 ?_
                obtain ⟨r8, M8m, hc_M8m, hF⟩ := clS hF
                refine w_callV hB (ci := 9) (As := [vr 35]) (st := []) cw_X11_188 q_1342 q_25 rfl sh_311 (Or.inl hp.1) (c_X11_is hp hc_M8m) ⟨rfl, rfl⟩ (by decide) (by decide) rfl (Nat.le_of_ble_eq_true rfl) dX11_lineHere_172 rfl ?_
                refine w_if_eq hB 186 dX11_lineHere_175 (by decide) (fun hc => ?_) (fun hc => ?_)
                · replace hF := ifT hc hF
                  refine w_aload_n hB 0 dX11_lineHere_186 rfl rfl ?_
                  refine w_ldcs hB hp 36 (by decide) dX11_lineHere_187 ?_
                  obtain ⟨r9, M9m, hc_M9m, hF⟩ := clS hF
                  refine w_callV hB (ci := 9) (As := [vr 36]) (st := []) cw_X11_188 q_1342 q_25 rfl sh_311 (Or.inl hp.1) (c_X11_is hp hc_M9m) ⟨rfl, rfl⟩ (by decide) (by decide) rfl (Nat.le_of_ble_eq_true rfl) dX11_lineHere_189 rfl ?_
                  refine w_if_eq hB 203 dX11_lineHere_192 (by decide) (fun hc => ?_) (fun hc => ?_)
                  · replace hF := ifT hc hF
                    refine w_aload_n hB 0 dX11_lineHere_203 rfl rfl ?_
                    refine w_ldcs hB hp 37 (by decide) dX11_lineHere_204 ?_
                    obtain ⟨r10, M10m, hc_M10m, hF⟩ := clS hF
                    refine w_callV hB (ci := 9) (As := [vr 37]) (st := []) cw_X11_188 q_1342 q_25 rfl sh_311 (Or.inl hp.1) (c_X11_is hp hc_M10m) ⟨rfl, rfl⟩ (by decide) (by decide) rfl (Nat.le_of_ble_eq_true rfl) dX11_lineHere_206 rfl ?_
                    refine w_if_eq hB 220 dX11_lineHere_209 (by decide) (fun hc => ?_) (fun hc => ?_)
                    · replace hF := ifT hc hF
                      refine w_aload_n hB 0 dX11_lineHere_220 rfl rfl ?_
                      refine w_iconst hB 0 (by decide) dX11_lineHere_221 ?_
                      refine w_iconst hB 1 (by decide) dX11_lineHere_222 ?_
                      obtain ⟨r11, M11m, hc_M11m, hF⟩ := clS hF
                      refine w_callV hB (ci := 9) (As := [vi 0, vi 1]) (st := []) cw_X11_224 q_1405 q_28 rfl sh_311 (Or.inl hp.1) (c_X11_must hp hc_M11m) ⟨rfl, rfl⟩ (by decide) (by decide) rfl (Nat.le_of_ble_eq_true rfl) dX11_lineHere_223 rfl ?_
                      refine w_pop hB rfl dX11_lineHere_226 ?_
                      exact Wt.sub (L' := [(0, vr 311)]) [0] rfl (b_X11_lineHere_b227 hp hB hF)
                    · replace hF := ifF hc hF
                      refine w_aload_n hB 0 dX11_lineHere_212 rfl rfl ?_
                      refine w_iconst hB 3 (by decide) dX11_lineHere_213 ?_
                      obtain ⟨M12m, hc_M12m, hF⟩ := clvS hF
                      refine w_callV hB (ci := 9) (As := [vi 3]) (st := []) cw_X11_294 q_1499 q_47 rfl sh_311 (Or.inl hp.1) (c_X11_ruleLine hp hc_M12m) ⟨rfl, rfl⟩ (by decide) (by decide) rfl (Nat.le_of_ble_eq_true rfl) dX11_lineHere_214 rfl ?_
                      refine w_goto hB 227 dX11_lineHere_217 (by decide) ?_
                      exact Wt.sub (L' := [(0, vr 311)]) [0] rfl (b_X11_lineHere_b227 hp hB hF)
                  · replace hF := ifF hc hF
                    refine w_aload_n hB 0 dX11_lineHere_195 rfl rfl ?_
                    refine w_iconst hB 2 (by decide) dX11_lineHere_196 ?_
                    obtain ⟨M13m, hc_M13m, hF⟩ := clvS hF
                    refine w_callV hB (ci := 9) (As := [vi 2]) (st := []) cw_X11_294 q_1499 q_47 rfl sh_311 (Or.inl hp.1) (c_X11_ruleLine hp hc_M13m) ⟨rfl, rfl⟩ (by decide) (by decide) rfl (Nat.le_of_ble_eq_true rfl) dX11_lineHere_197 rfl ?_
                    refine w_goto hB 227 dX11_lineHere_200 (by decide) ?_
                    exact Wt.sub (L' := [(0, vr 311)]) [0] rfl (b_X11_lineHere_b227 hp hB hF)
                · replace hF := ifF hc hF
                  refine w_aload_n hB 0 dX11_lineHere_178 rfl rfl ?_
                  refine w_iconst hB 1 (by decide) dX11_lineHere_179 ?_
                  obtain ⟨M14m, hc_M14m, hF⟩ := clvS hF
                  refine w_callV hB (ci := 9) (As := [vi 1]) (st := []) cw_X11_294 q_1499 q_47 rfl sh_311 (Or.inl hp.1) (c_X11_ruleLine hp hc_M14m) ⟨rfl, rfl⟩ (by decide) (by decide) rfl (Nat.le_of_ble_eq_true rfl) dX11_lineHere_180 rfl ?_
                  refine w_goto hB 227 dX11_lineHere_183 (by decide) ?_
                  exact Wt.sub (L' := [(0, vr 311)]) [0] rfl (b_X11_lineHere_b227 hp hB hF)
              · replace hF := ifF hc hF
                refine w_aload_n hB 0 dX11_lineHere_161 rfl rfl ?_
                refine w_iconst hB 0 (by decide) dX11_lineHere_162 ?_
                obtain ⟨M15m, hc_M15m, hF⟩ := clvS hF
                refine w_callV hB (ci := 9) (As := [vi 0]) (st := []) cw_X11_294 q_1499 q_47 rfl sh_311 (Or.inl hp.1) (c_X11_ruleLine hp hc_M15m) ⟨rfl, rfl⟩ (by decide) (by decide) rfl (Nat.le_of_ble_eq_true rfl) dX11_lineHere_163 rfl ?_
                refine w_goto hB 227 dX11_lineHere_166 (by decide) ?_
                exact Wt.sub (L' := [(0, vr 311)]) [0] rfl (b_X11_lineHere_b227 hp hB hF)
            · replace hF := ifF hc hF
              refine w_aload_n hB 0 dX11_lineHere_135 rfl rfl ?_
              refine w_iconst hB 4 (by decide) dX11_lineHere_136 ?_
              refine w_bipush hB 8 (by decide) dX11_lineHere_137 ?_
              obtain ⟨r12, M16m, hc_M16m, hF⟩ := clS hF
              refine w_callV hB (ci := 9) (As := [vi 4, vi 8]) (st := []) cw_X11_273 q_1397 q_26 rfl sh_311 (Or.inl hp.1) (c_X11_begins hp hc_M16m) ⟨rfl, rfl⟩ (by decide) (by decide) rfl (Nat.le_of_ble_eq_true rfl) dX11_lineHere_139 rfl ?_
              refine w_if_eq hB 227 dX11_lineHere_142 (by decide) (fun hc => ?_) (fun hc => ?_)
              · replace hF := ifT hc hF
                exact Wt.sub (L' := [(0, vr 311)]) [0] rfl (b_X11_lineHere_b227 hp hB hF)
              · replace hF := ifF hc hF
                refine w_aload_n hB 0 dX11_lineHere_145 rfl rfl ?_
                obtain ⟨M17m, hc_M17m, hF⟩ := clvS hF
                refine w_callV hB (ci := 9) (As := []) (st := []) cw_X11_291 q_1488 q_45 rfl sh_311 (Or.inl hp.1) (c_X11_playLine hp hc_M17m) ⟨rfl, rfl⟩ (by decide) (by decide) rfl (Nat.le_of_ble_eq_true rfl) dX11_lineHere_146 rfl ?_
                refine w_goto hB 227 dX11_lineHere_149 (by decide) ?_
                exact Wt.sub (L' := [(0, vr 311)]) [0] rfl (b_X11_lineHere_b227 hp hB hF)
          · replace hF := ifF hc hF
            refine w_aload_n hB 0 dX11_lineHere_110 rfl rfl ?_
            refine w_iconst hB 3 (by decide) dX11_lineHere_111 ?_
            refine w_iconst hB 3 (by decide) dX11_lineHere_112 ?_
            obtain ⟨r13, M18m, hc_M18m, hF⟩ := clS hF
            refine w_callV hB (ci := 9) (As := [vi 3, vi 3]) (st := []) cw_X11_273 q_1397 q_26 rfl sh_311 (Or.inl hp.1) (c_X11_begins hp hc_M18m) ⟨rfl, rfl⟩ (by decide) (by decide) rfl (Nat.le_of_ble_eq_true rfl) dX11_lineHere_113 rfl ?_
            refine w_if_eq hB 227 dX11_lineHere_116 (by decide) (fun hc => ?_) (fun hc => ?_)
            · replace hF := ifT hc hF
              exact Wt.sub (L' := [(0, vr 311)]) [0] rfl (b_X11_lineHere_b227 hp hB hF)
            · replace hF := ifF hc hF
              refine w_aload_n hB 0 dX11_lineHere_119 rfl rfl ?_
              obtain ⟨M19m, hc_M19m, hF⟩ := clvS hF
              refine w_callV hB (ci := 9) (As := []) (st := []) cw_X11_288 q_1480 q_43 rfl sh_311 (Or.inl hp.1) (c_X11_boardLine hp hc_M19m) ⟨rfl, rfl⟩ (by decide) (by decide) rfl (Nat.le_of_ble_eq_true rfl) dX11_lineHere_120 rfl ?_
              refine w_goto hB 227 dX11_lineHere_123 (by decide) ?_
              exact Wt.sub (L' := [(0, vr 311)]) [0] rfl (b_X11_lineHere_b227 hp hB hF)
        · replace hF := ifF hc hF
          refine w_aload_n hB 0 dX11_lineHere_85 rfl rfl ?_
          refine w_iconst hB 2 (by decide) dX11_lineHere_86 ?_
          refine w_iconst hB 5 (by decide) dX11_lineHere_87 ?_
          obtain ⟨r14, M20m, hc_M20m, hF⟩ := clS hF
          refine w_callV hB (ci := 9) (As := [vi 2, vi 5]) (st := []) cw_X11_273 q_1397 q_26 rfl sh_311 (Or.inl hp.1) (c_X11_begins hp hc_M20m) ⟨rfl, rfl⟩ (by decide) (by decide) rfl (Nat.le_of_ble_eq_true rfl) dX11_lineHere_88 rfl ?_
          refine w_if_eq hB 227 dX11_lineHere_91 (by decide) (fun hc => ?_) (fun hc => ?_)
          · replace hF := ifT hc hF
            exact Wt.sub (L' := [(0, vr 311)]) [0] rfl (b_X11_lineHere_b227 hp hB hF)
          · replace hF := ifF hc hF
            refine w_aload_n hB 0 dX11_lineHere_94 rfl rfl ?_
            obtain ⟨M21m, hc_M21m, hF⟩ := clvS hF
            refine w_callV hB (ci := 9) (As := []) (st := []) cw_X11_285 q_1464 q_39 rfl sh_311 (Or.inl hp.1) (c_X11_kindLine hp hc_M21m) ⟨rfl, rfl⟩ (by decide) (by decide) rfl (Nat.le_of_ble_eq_true rfl) dX11_lineHere_95 rfl ?_
            refine w_goto hB 227 dX11_lineHere_98 (by decide) ?_
            exact Wt.sub (L' := [(0, vr 311)]) [0] rfl (b_X11_lineHere_b227 hp hB hF)
      · replace hF := ifF hc hF
        refine w_aload_n hB 0 dX11_lineHere_60 rfl rfl ?_
        refine w_iconst hB 1 (by decide) dX11_lineHere_61 ?_
        refine w_iconst hB 4 (by decide) dX11_lineHere_62 ?_
        obtain ⟨r15, M22m, hc_M22m, hF⟩ := clS hF
        refine w_callV hB (ci := 9) (As := [vi 1, vi 4]) (st := []) cw_X11_273 q_1397 q_26 rfl sh_311 (Or.inl hp.1) (c_X11_begins hp hc_M22m) ⟨rfl, rfl⟩ (by decide) (by decide) rfl (Nat.le_of_ble_eq_true rfl) dX11_lineHere_63 rfl ?_
        refine w_if_eq hB 227 dX11_lineHere_66 (by decide) (fun hc => ?_) (fun hc => ?_)
        · replace hF := ifT hc hF
          exact Wt.sub (L' := [(0, vr 311)]) [0] rfl (b_X11_lineHere_b227 hp hB hF)
        · replace hF := ifF hc hF
          refine w_aload_n hB 0 dX11_lineHere_69 rfl rfl ?_
          obtain ⟨M23m, hc_M23m, hF⟩ := clvS hF
          refine w_callV hB (ci := 9) (As := []) (st := []) cw_X11_282 q_1460 q_38 rfl sh_311 (Or.inl hp.1) (c_X11_sideLine hp hc_M23m) ⟨rfl, rfl⟩ (by decide) (by decide) rfl (Nat.le_of_ble_eq_true rfl) dX11_lineHere_70 rfl ?_
          refine w_goto hB 227 dX11_lineHere_73 (by decide) ?_
          exact Wt.sub (L' := [(0, vr 311)]) [0] rfl (b_X11_lineHere_b227 hp hB hF)
    · replace hF := ifF hc hF
      refine w_aload_n hB 0 dX11_lineHere_34 rfl rfl ?_
      refine w_iconst hB 5 (by decide) dX11_lineHere_35 ?_
      refine w_bipush hB 6 (by decide) dX11_lineHere_36 ?_
      obtain ⟨r16, M24m, hc_M24m, hF⟩ := clS hF
      refine w_callV hB (ci := 9) (As := [vi 5, vi 6]) (st := []) cw_X11_273 q_1397 q_26 rfl sh_311 (Or.inl hp.1) (c_X11_begins hp hc_M24m) ⟨rfl, rfl⟩ (by decide) (by decide) rfl (Nat.le_of_ble_eq_true rfl) dX11_lineHere_38 rfl ?_
      refine w_if_eq hB 227 dX11_lineHere_41 (by decide) (fun hc => ?_) (fun hc => ?_)
      · replace hF := ifT hc hF
        exact Wt.sub (L' := [(0, vr 311)]) [0] rfl (b_X11_lineHere_b227 hp hB hF)
      · replace hF := ifF hc hF
        refine w_aload_n hB 0 dX11_lineHere_44 rfl rfl ?_
        obtain ⟨M25m, hc_M25m, hF⟩ := clvS hF
        refine w_callV hB (ci := 9) (As := []) (st := []) cw_X11_279 q_1448 q_35 rfl sh_311 (Or.inl hp.1) (c_X11_flashLine hp hc_M25m) ⟨rfl, rfl⟩ (by decide) (by decide) rfl (Nat.le_of_ble_eq_true rfl) dX11_lineHere_45 rfl ?_
        refine w_goto hB 227 dX11_lineHere_48 (by decide) ?_
        exact Wt.sub (L' := [(0, vr 311)]) [0] rfl (b_X11_lineHere_b227 hp hB hF)
  · replace hF := ifF hc hF
    refine w_aload_n hB 0 dX11_lineHere_9 rfl rfl ?_
    refine w_iconst hB 0 (by decide) dX11_lineHere_10 ?_
    refine w_iconst hB 5 (by decide) dX11_lineHere_11 ?_
    obtain ⟨r17, M26m, hc_M26m, hF⟩ := clS hF
    refine w_callV hB (ci := 9) (As := [vi 0, vi 5]) (st := []) cw_X11_273 q_1397 q_26 rfl sh_311 (Or.inl hp.1) (c_X11_begins hp hc_M26m) ⟨rfl, rfl⟩ (by decide) (by decide) rfl (Nat.le_of_ble_eq_true rfl) dX11_lineHere_12 rfl ?_
    refine w_if_eq hB 227 dX11_lineHere_15 (by decide) (fun hc => ?_) (fun hc => ?_)
    · replace hF := ifT hc hF
      exact Wt.sub (L' := [(0, vr 311)]) [0] rfl (b_X11_lineHere_b227 hp hB hF)
    · replace hF := ifF hc hF
      refine w_aload_n hB 0 dX11_lineHere_18 rfl rfl ?_
      obtain ⟨M27m, hc_M27m, hF⟩ := clvS hF
      refine w_callV hB (ci := 9) (As := []) (st := []) cw_X11_276 q_1409 q_29 rfl sh_311 (Or.inl hp.1) (c_X11_cameraLine hp hc_M27m) ⟨rfl, rfl⟩ (by decide) (by decide) rfl (Nat.le_of_ble_eq_true rfl) dX11_lineHere_19 rfl ?_
      refine w_goto hB 227 dX11_lineHere_22 (by decide) ?_
      exact Wt.sub (L' := [(0, vr 311)]) [0] rfl (b_X11_lineHere_b227 hp hB hF)
theorem c_X11_lineHere {K : Kt} {l : Launch} (hp : St K) {M1 : Mem} {M : Mem} (hF : f_X11_lineHere M = some M1) : MT K l yX11_lineHere cX11_lineHere 1 none { frames := 12, cells := 0, slots := 0, locals := 255 } [vr 311] M none M1 0 0 :=
  MT_of (by decide) rfl (Nat.le_of_ble_eq_true rfl) (fun X _ hB _ => b_X11_lineHere hp hB hF)
def f_X11_copies_b2_s (rec2 : Nat → Int32 → Mem → Option Mem) (n0 : Nat) (x1 : Int32) (M : Mem) : Option Mem :=
  gd (shc n0 = 20) <|
  if ((Int32.ofNat (shl n0)) / 2) ≤ x1 then
    some M
  else
    gd (inb (((Int32.ofNat (shl n0)) / 2) + x1) (shl n0)) <|
    gd (inb x1 (shl n0)) <|
    bnd (setI M n0 (x1.toNatClampNeg) (M.1 n0 (((Int32.ofNat (shl n0)) / 2) + x1).toNatClampNeg)) fun M1m =>
    bnd (x1 + 1) fun a1 =>
    rec2 n0 a1 M1m
set_option maxRecDepth 100000 in
set_option maxHeartbeats 4000000 in
theorem b_X11_copies_b2_s {K : Kt} {X : Xt} (hp : St K) (hB : Bx K X { frames := 0, cells := 0, slots := 0, locals := 0 } cX11_copies 2 RX11 none) {M1 : Mem} {rec2 : Nat → Int32 → Mem → Option Mem}
    (h2 : ∀ n0 x1 M, rec2 n0 x1 M = some M1 → Wt K X (QM K X none M1 0 0) 0 0 M 2 [(0, vr n0), (1, vi x1)] []) {n0 : Nat} {x1 : Int32} {M : Mem} (hF : f_X11_copies_b2_s rec2 n0 x1 M = some M1) : Wt K X (QM K X none M1 0 0) 0 0 M 2 [(0, vr n0), (1, vi x1)] [] := by
  unfold f_X11_copies_b2_s at hF
  refine w_iload_n hB 1 dX11_copies_2 rfl rfl ?_
  refine w_aload_n hB 0 dX11_copies_3 rfl rfl ?_
  obtain ⟨g1, hF⟩ := gdS hF
  refine w_alen hB (v := Int32.ofNat (shl n0)) (c := 0) g1 (by decide) (Or.inl hp.1) rfl rfl dX11_copies_4 ?_
  refine w_iconst hB 2 (by decide) dX11_copies_5 ?_
  refine w_idiv hB (by decide) dX11_copies_6 ?_
  refine w_icmp_ge hB 27 dX11_copies_7 (by decide) (fun hc => ?_) (fun hc => ?_)
  · replace hF := ifT hc hF
    cases hF
    exact w_vret hB dX11_copies_27
  · replace hF := ifF hc hF
    refine w_aload_n hB 0 dX11_copies_10 rfl rfl ?_
    refine w_iload_n hB 1 dX11_copies_11 rfl rfl ?_
    refine w_aload_n hB 0 dX11_copies_12 rfl rfl ?_
    refine w_aload_n hB 0 dX11_copies_13 rfl rfl ?_
    refine w_alen hB (v := Int32.ofNat (shl n0)) (c := 0) g1 (by decide) (Or.inl hp.1) rfl rfl dX11_copies_14 ?_
    refine w_iconst hB 2 (by decide) dX11_copies_15 ?_
    refine w_idiv hB (by decide) dX11_copies_16 ?_
    refine w_iload_n hB 1 dX11_copies_17 rfl rfl ?_
    refine w_iadd hB dX11_copies_18 ?_
    obtain ⟨g2, hF⟩ := gdS hF
    refine w_iald hB g1 (Or.inl hp.1) rfl g2 dX11_copies_19 ?_
    obtain ⟨g3, hF⟩ := gdS hF
    obtain ⟨M1m, e_M1m, hF⟩ := bndS hF
    refine w_iast hB g1 (Or.inl hp.1) rfl g3 e_M1m dX11_copies_20 ?_
    obtain ⟨a1, e_a1, hF⟩ := bndS hF
    refine w_iinc hB 1 (v := 1) (L' := [(1, vi a1), (0, vr n0)]) dX11_copies_21 rfl (by decide) (by decide) e_a1 rfl ?_
    refine w_goto hB 2 dX11_copies_24 (by decide) ?_
    exact Wt.sub (L' := [(0, vr n0), (1, vi a1)]) [1, 0] rfl (h2 _ _ M1m hF)
def f_X11_copies_b2 (k : Nat) : Nat → Int32 → Mem → Option Mem := lpN (fun _ _ _ => none) (f_X11_copies_b2_s) k
theorem b_X11_copies_b2 {K : Kt} {X : Xt} (hp : St K) (hB : Bx K X { frames := 0, cells := 0, slots := 0, locals := 0 } cX11_copies 2 RX11 none) {M1 : Mem} (k : Nat) : ∀ (n0 : Nat) (x1 : Int32) M, f_X11_copies_b2 k n0 x1 M = some M1 → Wt K X (QM K X none M1 0 0) 0 0 M 2 [(0, vr n0), (1, vi x1)] [] := by
  refine lpN_ind (P := fun (f : Nat → Int32 → Mem → Option Mem) => ∀ (n0 : Nat) (x1 : Int32) M, f n0 x1 M = some M1 → Wt K X (QM K X none M1 0 0) 0 0 M 2 [(0, vr n0), (1, vi x1)] []) (fun _ _ _ h => by cases h) (fun f hf n0 x1 M hF => ?_) k
  exact b_X11_copies_b2_s hp hB hf hF
def f_X11_copies (n0 : Nat) (M : Mem) : Option Mem :=
  f_X11_copies_b2 fuel n0 0 M
set_option maxRecDepth 100000 in
set_option maxHeartbeats 4000000 in
theorem b_X11_copies {K : Kt} {X : Xt} (hp : St K) (hB : Bx K X { frames := 0, cells := 0, slots := 0, locals := 0 } cX11_copies 2 RX11 none) {M1 : Mem} {n0 : Nat} {M : Mem} (hF : f_X11_copies n0 M = some M1) : Wt K X (QM K X none M1 0 0) 0 0 M 0 [(0, vr n0)] [] := by
  unfold f_X11_copies at hF
  refine w_iconst hB 0 (by decide) dX11_copies_0 ?_
  refine w_istore_n hB (L' := [(1, vi 0), (0, vr n0)]) dX11_copies_1 rfl (by decide) rfl rfl ?_
  exact Wt.sub (L' := [(0, vr n0), (1, vi 0)]) [1, 0] rfl (b_X11_copies_b2 hp hB fuel _ _ M hF)
theorem c_X11_copies {K : Kt} {l : Launch} (hp : St K) {M1 : Mem} {n0 : Nat} {M : Mem} (hF : f_X11_copies n0 M = some M1) : MT K l yX11_copies cX11_copies 2 none { frames := 0, cells := 0, slots := 0, locals := 0 } [vr n0] M none M1 0 0 :=
  MT_of (by decide) rfl (Nat.le_of_ble_eq_true rfl) (fun X _ hB _ => b_X11_copies hp hB hF)
def f_X11_takesOver_b225_s (rec225 : Int32 → Mem → Option Mem) (x1 : Int32) (M : Mem) : Option Mem :=
  if (M.1 313 1) ≤ x1 then
    bnd (setI M 311 40 0) fun M1m =>
    bnd (setI M1m 343 0 (vp_nar .boolean 0)) fun M2m =>
    bnd (setI M2m 343 1 (vp_nar .boolean 0)) fun M3m =>
    some M3m
  else
    gd (inb x1 8) <|
    gd (inb (33 + x1) 114) <|
    bnd (setI M 340 ((33 + x1).toNatClampNeg) (M.1 320 x1.toNatClampNeg)) fun M4m =>
    bnd (x1 + 1) fun a1 =>
    rec225 a1 M4m
set_option maxRecDepth 100000 in
set_option maxHeartbeats 4000000 in
theorem b_X11_takesOver_b225_s {K : Kt} {X : Xt} (hp : St K) (hB : Bx K X { frames := 1, cells := 0, slots := 0, locals := 21 } cX11_takesOver 2 RX11 none) {M1 : Mem} {rec225 : Int32 → Mem → Option Mem}
    (h225 : ∀ x1 M, rec225 x1 M = some M1 → Wt K X (QM K X none M1 0 0) 0 0 M 225 [(0, vr 311), (1, vi x1)] []) {x1 : Int32} {M : Mem} (hF : f_X11_takesOver_b225_s rec225 x1 M = some M1) : Wt K X (QM K X none M1 0 0) 0 0 M 225 [(0, vr 311), (1, vi x1)] [] := by
  unfold f_X11_takesOver_b225_s at hF
  refine w_iload_n hB 1 dX11_takesOver_225 rfl rfl ?_
  refine w_aload_n hB 0 dX11_takesOver_226 rfl rfl ?_
  refine w_getC hB (v := 313) ff_X11_11 sh_311 hp.1 cr_311_11 (by decide) q_1171 dX11_takesOver_227 ?_
  refine w_iconst hB 1 (by decide) dX11_takesOver_230 ?_
  refine w_iald hB sh_313 (Or.inl hp.1) sl_313 (by decide) dX11_takesOver_231 ?_
  rw [show (1 : Int32).toNatClampNeg = 1 by decide]
  refine w_icmp_ge hB 256 dX11_takesOver_232 (by decide) (fun hc => ?_) (fun hc => ?_)
  · replace hF := ifT hc hF
    refine w_aload_n hB 0 dX11_takesOver_256 rfl rfl ?_
    refine w_iconst hB 0 (by decide) dX11_takesOver_257 ?_
    obtain ⟨M1m, e_M1m, hF⟩ := bndS hF
    refine w_putI hB ff_X11_40 sh_311 (Or.inl hp.1) q_1200 e_M1m dX11_takesOver_258 ?_
    refine w_aload_n hB 0 dX11_takesOver_261 rfl rfl ?_
    refine w_getC hB (v := 343) ff_X11_42 sh_311 hp.1 cr_311_42 (by decide) q_1202 dX11_takesOver_262 ?_
    refine w_iconst hB 0 (by decide) dX11_takesOver_265 ?_
    refine w_iconst hB 0 (by decide) dX11_takesOver_266 ?_
    obtain ⟨M2m, e_M2m, hF⟩ := bndS hF
    refine w_zast hB sh_343 (Or.inl hp.1) sl_343 (by decide) e_M2m dX11_takesOver_267 ?_
    refine w_aload_n hB 0 dX11_takesOver_268 rfl rfl ?_
    refine w_getC hB (v := 343) ff_X11_42 sh_311 hp.1 cr_311_42 (by decide) q_1202 dX11_takesOver_269 ?_
    refine w_iconst hB 1 (by decide) dX11_takesOver_272 ?_
    refine w_iconst hB 0 (by decide) dX11_takesOver_273 ?_
    obtain ⟨M3m, e_M3m, hF⟩ := bndS hF
    refine w_zast hB sh_343 (Or.inl hp.1) sl_343 (by decide) e_M3m dX11_takesOver_274 ?_
    cases hF
    exact w_vret hB dX11_takesOver_275
  · replace hF := ifF hc hF
    refine w_aload_n hB 0 dX11_takesOver_235 rfl rfl ?_
    refine w_getC hB (v := 340) ff_X11_38 sh_311 hp.1 cr_311_38 (by decide) q_1198 dX11_takesOver_236 ?_
    refine w_bipush hB 33 (by decide) dX11_takesOver_239 ?_
    refine w_iload_n hB 1 dX11_takesOver_241 rfl rfl ?_
    refine w_iadd hB dX11_takesOver_242 ?_
    refine w_aload_n hB 0 dX11_takesOver_243 rfl rfl ?_
    refine w_getC hB (v := 320) ff_X11_18 sh_311 hp.1 cr_311_18 (by decide) q_1178 dX11_takesOver_244 ?_
    refine w_iload_n hB 1 dX11_takesOver_247 rfl rfl ?_
    obtain ⟨g1, hF⟩ := gdS hF
    refine w_iald hB sh_320 (Or.inl hp.1) sl_320 g1 dX11_takesOver_248 ?_
    obtain ⟨g2, hF⟩ := gdS hF
    obtain ⟨M4m, e_M4m, hF⟩ := bndS hF
    refine w_iast hB sh_340 (Or.inl hp.1) sl_340 g2 e_M4m dX11_takesOver_249 ?_
    obtain ⟨a1, e_a1, hF⟩ := bndS hF
    refine w_iinc hB 1 (v := 1) (L' := [(1, vi a1), (0, vr 311)]) dX11_takesOver_250 rfl (by decide) (by decide) e_a1 rfl ?_
    refine w_goto hB 225 dX11_takesOver_253 (by decide) ?_
    exact Wt.sub (L' := [(0, vr 311), (1, vi a1)]) [1, 0] rfl (h225 _ M4m hF)
def f_X11_takesOver_b225 (k : Nat) : Int32 → Mem → Option Mem := lpN (fun _ _ => none) (f_X11_takesOver_b225_s) k
theorem b_X11_takesOver_b225 {K : Kt} {X : Xt} (hp : St K) (hB : Bx K X { frames := 1, cells := 0, slots := 0, locals := 21 } cX11_takesOver 2 RX11 none) {M1 : Mem} (k : Nat) : ∀ (x1 : Int32) M, f_X11_takesOver_b225 k x1 M = some M1 → Wt K X (QM K X none M1 0 0) 0 0 M 225 [(0, vr 311), (1, vi x1)] [] := by
  refine lpN_ind (P := fun (f : Int32 → Mem → Option Mem) => ∀ (x1 : Int32) M, f x1 M = some M1 → Wt K X (QM K X none M1 0 0) 0 0 M 225 [(0, vr 311), (1, vi x1)] []) (fun _ _ h => by cases h) (fun f hf x1 M hF => ?_) k
  exact b_X11_takesOver_b225_s hp hB hf hF
def f_X11_takesOver_b204_s (rec204 : Int32 → Mem → Option Mem) (x1 : Int32) (M : Mem) : Option Mem :=
  if 114 ≤ x1 then
    f_X11_takesOver_b225 fuel 0 M
  else
    gd (inb x1 114) <|
    bnd (setI M 340 (x1.toNatClampNeg) 0) fun M1m =>
    bnd (x1 + 1) fun a1 =>
    rec204 a1 M1m
set_option maxRecDepth 100000 in
set_option maxHeartbeats 4000000 in
theorem b_X11_takesOver_b204_s {K : Kt} {X : Xt} (hp : St K) (hB : Bx K X { frames := 1, cells := 0, slots := 0, locals := 21 } cX11_takesOver 2 RX11 none) {M1 : Mem} {rec204 : Int32 → Mem → Option Mem}
    (h204 : ∀ x1 M, rec204 x1 M = some M1 → Wt K X (QM K X none M1 0 0) 0 0 M 204 [(0, vr 311), (1, vi x1)] []) {x1 : Int32} {M : Mem} (hF : f_X11_takesOver_b204_s rec204 x1 M = some M1) : Wt K X (QM K X none M1 0 0) 0 0 M 204 [(0, vr 311), (1, vi x1)] [] := by
  unfold f_X11_takesOver_b204_s at hF
  refine w_iload_n hB 1 dX11_takesOver_204 rfl rfl ?_
  refine w_bipush hB 114 (by decide) dX11_takesOver_205 ?_
  refine w_icmp_ge hB 223 dX11_takesOver_207 (by decide) (fun hc => ?_) (fun hc => ?_)
  · replace hF := ifT hc hF
    refine w_iconst hB 0 (by decide) dX11_takesOver_223 ?_
    refine w_istore_n hB (L' := [(1, vi 0), (0, vr 311)]) dX11_takesOver_224 rfl (by decide) rfl rfl ?_
    exact Wt.sub (L' := [(0, vr 311), (1, vi 0)]) [1, 0] rfl (b_X11_takesOver_b225 hp hB fuel _ M hF)
  · replace hF := ifF hc hF
    refine w_aload_n hB 0 dX11_takesOver_210 rfl rfl ?_
    refine w_getC hB (v := 340) ff_X11_38 sh_311 hp.1 cr_311_38 (by decide) q_1198 dX11_takesOver_211 ?_
    refine w_iload_n hB 1 dX11_takesOver_214 rfl rfl ?_
    refine w_iconst hB 0 (by decide) dX11_takesOver_215 ?_
    obtain ⟨g1, hF⟩ := gdS hF
    obtain ⟨M1m, e_M1m, hF⟩ := bndS hF
    refine w_iast hB sh_340 (Or.inl hp.1) sl_340 g1 e_M1m dX11_takesOver_216 ?_
    obtain ⟨a1, e_a1, hF⟩ := bndS hF
    refine w_iinc hB 1 (v := 1) (L' := [(1, vi a1), (0, vr 311)]) dX11_takesOver_217 rfl (by decide) (by decide) e_a1 rfl ?_
    refine w_goto hB 204 dX11_takesOver_220 (by decide) ?_
    exact Wt.sub (L' := [(0, vr 311), (1, vi a1)]) [1, 0] rfl (h204 _ M1m hF)
def f_X11_takesOver_b204 (k : Nat) : Int32 → Mem → Option Mem := lpN (fun _ _ => none) (f_X11_takesOver_b204_s) k
theorem b_X11_takesOver_b204 {K : Kt} {X : Xt} (hp : St K) (hB : Bx K X { frames := 1, cells := 0, slots := 0, locals := 21 } cX11_takesOver 2 RX11 none) {M1 : Mem} (k : Nat) : ∀ (x1 : Int32) M, f_X11_takesOver_b204 k x1 M = some M1 → Wt K X (QM K X none M1 0 0) 0 0 M 204 [(0, vr 311), (1, vi x1)] [] := by
  refine lpN_ind (P := fun (f : Int32 → Mem → Option Mem) => ∀ (x1 : Int32) M, f x1 M = some M1 → Wt K X (QM K X none M1 0 0) 0 0 M 204 [(0, vr 311), (1, vi x1)] []) (fun _ _ h => by cases h) (fun f hf x1 M hF => ?_) k
  exact b_X11_takesOver_b204_s hp hB hf hF
def f_X11_takesOver_b163_s (rec163 : Int32 → Mem → Option Mem) (x1 : Int32) (M : Mem) : Option Mem :=
  if 5 ≤ x1 then
    f_X11_takesOver_b204 fuel 0 M
  else
    gd (inb (5 + x1) 10) <|
    gd (inb x1 10) <|
    bnd (setI M 322 (x1.toNatClampNeg) (vp_nar .boolean (M.1 322 (5 + x1).toNatClampNeg))) fun M1m =>
    bnd (setI M1m 323 (x1.toNatClampNeg) (vp_nar .boolean (M1m.1 323 (5 + x1).toNatClampNeg))) fun M2m =>
    bnd (x1 + 1) fun a1 =>
    rec163 a1 M2m
set_option maxRecDepth 100000 in
set_option maxHeartbeats 4000000 in
theorem b_X11_takesOver_b163_s {K : Kt} {X : Xt} (hp : St K) (hB : Bx K X { frames := 1, cells := 0, slots := 0, locals := 21 } cX11_takesOver 2 RX11 none) {M1 : Mem} {rec163 : Int32 → Mem → Option Mem}
    (h163 : ∀ x1 M, rec163 x1 M = some M1 → Wt K X (QM K X none M1 0 0) 0 0 M 163 [(0, vr 311), (1, vi x1)] []) {x1 : Int32} {M : Mem} (hF : f_X11_takesOver_b163_s rec163 x1 M = some M1) : Wt K X (QM K X none M1 0 0) 0 0 M 163 [(0, vr 311), (1, vi x1)] [] := by
  unfold f_X11_takesOver_b163_s at hF
  refine w_iload_n hB 1 dX11_takesOver_163 rfl rfl ?_
  refine w_iconst hB 5 (by decide) dX11_takesOver_164 ?_
  refine w_icmp_ge hB 202 dX11_takesOver_165 (by decide) (fun hc => ?_) (fun hc => ?_)
  · replace hF := ifT hc hF
    refine w_iconst hB 0 (by decide) dX11_takesOver_202 ?_
    refine w_istore_n hB (L' := [(1, vi 0), (0, vr 311)]) dX11_takesOver_203 rfl (by decide) rfl rfl ?_
    exact Wt.sub (L' := [(0, vr 311), (1, vi 0)]) [1, 0] rfl (b_X11_takesOver_b204 hp hB fuel _ M hF)
  · replace hF := ifF hc hF
    refine w_aload_n hB 0 dX11_takesOver_168 rfl rfl ?_
    refine w_getC hB (v := 322) ff_X11_20 sh_311 hp.1 cr_311_20 (by decide) q_1180 dX11_takesOver_169 ?_
    refine w_iload_n hB 1 dX11_takesOver_172 rfl rfl ?_
    refine w_aload_n hB 0 dX11_takesOver_173 rfl rfl ?_
    refine w_getC hB (v := 322) ff_X11_20 sh_311 hp.1 cr_311_20 (by decide) q_1180 dX11_takesOver_174 ?_
    refine w_iconst hB 5 (by decide) dX11_takesOver_177 ?_
    refine w_iload_n hB 1 dX11_takesOver_178 rfl rfl ?_
    refine w_iadd hB dX11_takesOver_179 ?_
    obtain ⟨g1, hF⟩ := gdS hF
    refine w_zald hB sh_322 (Or.inl hp.1) sl_322 g1 dX11_takesOver_180 ?_
    obtain ⟨g2, hF⟩ := gdS hF
    obtain ⟨M1m, e_M1m, hF⟩ := bndS hF
    refine w_zast hB sh_322 (Or.inl hp.1) sl_322 g2 e_M1m dX11_takesOver_181 ?_
    refine w_aload_n hB 0 dX11_takesOver_182 rfl rfl ?_
    refine w_getC hB (v := 323) ff_X11_21 sh_311 hp.1 cr_311_21 (by decide) q_1181 dX11_takesOver_183 ?_
    refine w_iload_n hB 1 dX11_takesOver_186 rfl rfl ?_
    refine w_aload_n hB 0 dX11_takesOver_187 rfl rfl ?_
    refine w_getC hB (v := 323) ff_X11_21 sh_311 hp.1 cr_311_21 (by decide) q_1181 dX11_takesOver_188 ?_
    refine w_iconst hB 5 (by decide) dX11_takesOver_191 ?_
    refine w_iload_n hB 1 dX11_takesOver_192 rfl rfl ?_
    refine w_iadd hB dX11_takesOver_193 ?_
    refine w_zald hB sh_323 (Or.inl hp.1) sl_323 g1 dX11_takesOver_194 ?_
    obtain ⟨M2m, e_M2m, hF⟩ := bndS hF
    refine w_zast hB sh_323 (Or.inl hp.1) sl_323 g2 e_M2m dX11_takesOver_195 ?_
    obtain ⟨a1, e_a1, hF⟩ := bndS hF
    refine w_iinc hB 1 (v := 1) (L' := [(1, vi a1), (0, vr 311)]) dX11_takesOver_196 rfl (by decide) (by decide) e_a1 rfl ?_
    refine w_goto hB 163 dX11_takesOver_199 (by decide) ?_
    exact Wt.sub (L' := [(0, vr 311), (1, vi a1)]) [1, 0] rfl (h163 _ M2m hF)
def f_X11_takesOver_b163 (k : Nat) : Int32 → Mem → Option Mem := lpN (fun _ _ => none) (f_X11_takesOver_b163_s) k
theorem b_X11_takesOver_b163 {K : Kt} {X : Xt} (hp : St K) (hB : Bx K X { frames := 1, cells := 0, slots := 0, locals := 21 } cX11_takesOver 2 RX11 none) {M1 : Mem} (k : Nat) : ∀ (x1 : Int32) M, f_X11_takesOver_b163 k x1 M = some M1 → Wt K X (QM K X none M1 0 0) 0 0 M 163 [(0, vr 311), (1, vi x1)] [] := by
  refine lpN_ind (P := fun (f : Int32 → Mem → Option Mem) => ∀ (x1 : Int32) M, f x1 M = some M1 → Wt K X (QM K X none M1 0 0) 0 0 M 163 [(0, vr 311), (1, vi x1)] []) (fun _ _ h => by cases h) (fun f hf x1 M hF => ?_) k
  exact b_X11_takesOver_b163_s hp hB hf hF
def f_X11_takesOver (M : Mem) : Option Mem :=
  clv (f_X11_copies 313 M) fun M1m =>
  clv (f_X11_copies 314 M1m) fun M2m =>
  clv (f_X11_copies 317 M2m) fun M3m =>
  clv (f_X11_copies 318 M3m) fun M4m =>
  clv (f_X11_copies 319 M4m) fun M5m =>
  clv (f_X11_copies 320 M5m) fun M6m =>
  clv (f_X11_copies 321 M6m) fun M7m =>
  clv (f_X11_copies 324 M7m) fun M8m =>
  clv (f_X11_copies 325 M8m) fun M9m =>
  clv (f_X11_copies 326 M9m) fun M10m =>
  clv (f_X11_copies 327 M10m) fun M11m =>
  clv (f_X11_copies 328 M11m) fun M12m =>
  clv (f_X11_copies 329 M12m) fun M13m =>
  clv (f_X11_copies 330 M13m) fun M14m =>
  clv (f_X11_copies 331 M14m) fun M15m =>
  clv (f_X11_copies 332 M15m) fun M16m =>
  clv (f_X11_copies 333 M16m) fun M17m =>
  clv (f_X11_copies 334 M17m) fun M18m =>
  clv (f_X11_copies 335 M18m) fun M19m =>
  clv (f_X11_copies 336 M19m) fun M20m =>
  clv (f_X11_copies 337 M20m) fun M21m =>
  clv (f_X11_copies 338 M21m) fun M22m =>
  clv (f_X11_copies 339 M22m) fun M23m =>
  f_X11_takesOver_b163 fuel 0 M23m
set_option maxRecDepth 100000 in
set_option maxHeartbeats 4000000 in
theorem b_X11_takesOver {K : Kt} {X : Xt} (hp : St K) (hB : Bx K X { frames := 1, cells := 0, slots := 0, locals := 21 } cX11_takesOver 2 RX11 none) {M1 : Mem} {M : Mem} (hF : f_X11_takesOver M = some M1) : Wt K X (QM K X none M1 0 0) 0 0 M 0 [(0, vr 311)] [] := by
  unfold f_X11_takesOver at hF
  refine w_aload_n hB 0 dX11_takesOver_0 rfl rfl ?_
  refine w_getC hB (v := 313) ff_X11_11 sh_311 hp.1 cr_311_11 (by decide) q_1171 dX11_takesOver_1 ?_
  obtain ⟨M1m, hc_M1m, hF⟩ := clvS hF
  refine w_callS hB (As := [vr 313]) (st := []) cw_X11_300 q_1510 (c_X11_copies hp hc_M1m) ⟨rfl, rfl⟩ (by decide) (by decide) rfl (Nat.le_of_ble_eq_true rfl) dX11_takesOver_4 rfl ?_
  refine w_aload_n hB 0 dX11_takesOver_7 rfl rfl ?_
  refine w_getC hB (v := 314) ff_X11_12 sh_311 hp.1 cr_311_12 (by decide) q_1172 dX11_takesOver_8 ?_
  obtain ⟨M2m, hc_M2m, hF⟩ := clvS hF
  refine w_callS hB (As := [vr 314]) (st := []) cw_X11_300 q_1510 (c_X11_copies hp hc_M2m) ⟨rfl, rfl⟩ (by decide) (by decide) rfl (Nat.le_of_ble_eq_true rfl) dX11_takesOver_11 rfl ?_
  refine w_aload_n hB 0 dX11_takesOver_14 rfl rfl ?_
  refine w_getC hB (v := 317) ff_X11_15 sh_311 hp.1 cr_311_15 (by decide) q_1175 dX11_takesOver_15 ?_
  obtain ⟨M3m, hc_M3m, hF⟩ := clvS hF
  refine w_callS hB (As := [vr 317]) (st := []) cw_X11_300 q_1510 (c_X11_copies hp hc_M3m) ⟨rfl, rfl⟩ (by decide) (by decide) rfl (Nat.le_of_ble_eq_true rfl) dX11_takesOver_18 rfl ?_
  refine w_aload_n hB 0 dX11_takesOver_21 rfl rfl ?_
  refine w_getC hB (v := 318) ff_X11_16 sh_311 hp.1 cr_311_16 (by decide) q_1176 dX11_takesOver_22 ?_
  obtain ⟨M4m, hc_M4m, hF⟩ := clvS hF
  refine w_callS hB (As := [vr 318]) (st := []) cw_X11_300 q_1510 (c_X11_copies hp hc_M4m) ⟨rfl, rfl⟩ (by decide) (by decide) rfl (Nat.le_of_ble_eq_true rfl) dX11_takesOver_25 rfl ?_
  refine w_aload_n hB 0 dX11_takesOver_28 rfl rfl ?_
  refine w_getC hB (v := 319) ff_X11_17 sh_311 hp.1 cr_311_17 (by decide) q_1177 dX11_takesOver_29 ?_
  obtain ⟨M5m, hc_M5m, hF⟩ := clvS hF
  refine w_callS hB (As := [vr 319]) (st := []) cw_X11_300 q_1510 (c_X11_copies hp hc_M5m) ⟨rfl, rfl⟩ (by decide) (by decide) rfl (Nat.le_of_ble_eq_true rfl) dX11_takesOver_32 rfl ?_
  refine w_aload_n hB 0 dX11_takesOver_35 rfl rfl ?_
  refine w_getC hB (v := 320) ff_X11_18 sh_311 hp.1 cr_311_18 (by decide) q_1178 dX11_takesOver_36 ?_
  obtain ⟨M6m, hc_M6m, hF⟩ := clvS hF
  refine w_callS hB (As := [vr 320]) (st := []) cw_X11_300 q_1510 (c_X11_copies hp hc_M6m) ⟨rfl, rfl⟩ (by decide) (by decide) rfl (Nat.le_of_ble_eq_true rfl) dX11_takesOver_39 rfl ?_
  refine w_aload_n hB 0 dX11_takesOver_42 rfl rfl ?_
  refine w_getC hB (v := 321) ff_X11_19 sh_311 hp.1 cr_311_19 (by decide) q_1179 dX11_takesOver_43 ?_
  obtain ⟨M7m, hc_M7m, hF⟩ := clvS hF
  refine w_callS hB (As := [vr 321]) (st := []) cw_X11_300 q_1510 (c_X11_copies hp hc_M7m) ⟨rfl, rfl⟩ (by decide) (by decide) rfl (Nat.le_of_ble_eq_true rfl) dX11_takesOver_46 rfl ?_
  refine w_aload_n hB 0 dX11_takesOver_49 rfl rfl ?_
  refine w_getC hB (v := 324) ff_X11_22 sh_311 hp.1 cr_311_22 (by decide) q_1182 dX11_takesOver_50 ?_
  obtain ⟨M8m, hc_M8m, hF⟩ := clvS hF
  refine w_callS hB (As := [vr 324]) (st := []) cw_X11_300 q_1510 (c_X11_copies hp hc_M8m) ⟨rfl, rfl⟩ (by decide) (by decide) rfl (Nat.le_of_ble_eq_true rfl) dX11_takesOver_53 rfl ?_
  refine w_aload_n hB 0 dX11_takesOver_56 rfl rfl ?_
  refine w_getC hB (v := 325) ff_X11_23 sh_311 hp.1 cr_311_23 (by decide) q_1183 dX11_takesOver_57 ?_
  obtain ⟨M9m, hc_M9m, hF⟩ := clvS hF
  refine w_callS hB (As := [vr 325]) (st := []) cw_X11_300 q_1510 (c_X11_copies hp hc_M9m) ⟨rfl, rfl⟩ (by decide) (by decide) rfl (Nat.le_of_ble_eq_true rfl) dX11_takesOver_60 rfl ?_
  refine w_aload_n hB 0 dX11_takesOver_63 rfl rfl ?_
  refine w_getC hB (v := 326) ff_X11_24 sh_311 hp.1 cr_311_24 (by decide) q_1184 dX11_takesOver_64 ?_
  obtain ⟨M10m, hc_M10m, hF⟩ := clvS hF
  refine w_callS hB (As := [vr 326]) (st := []) cw_X11_300 q_1510 (c_X11_copies hp hc_M10m) ⟨rfl, rfl⟩ (by decide) (by decide) rfl (Nat.le_of_ble_eq_true rfl) dX11_takesOver_67 rfl ?_
  refine w_aload_n hB 0 dX11_takesOver_70 rfl rfl ?_
  refine w_getC hB (v := 327) ff_X11_25 sh_311 hp.1 cr_311_25 (by decide) q_1185 dX11_takesOver_71 ?_
  obtain ⟨M11m, hc_M11m, hF⟩ := clvS hF
  refine w_callS hB (As := [vr 327]) (st := []) cw_X11_300 q_1510 (c_X11_copies hp hc_M11m) ⟨rfl, rfl⟩ (by decide) (by decide) rfl (Nat.le_of_ble_eq_true rfl) dX11_takesOver_74 rfl ?_
  refine w_aload_n hB 0 dX11_takesOver_77 rfl rfl ?_
  refine w_getC hB (v := 328) ff_X11_26 sh_311 hp.1 cr_311_26 (by decide) q_1186 dX11_takesOver_78 ?_
  obtain ⟨M12m, hc_M12m, hF⟩ := clvS hF
  refine w_callS hB (As := [vr 328]) (st := []) cw_X11_300 q_1510 (c_X11_copies hp hc_M12m) ⟨rfl, rfl⟩ (by decide) (by decide) rfl (Nat.le_of_ble_eq_true rfl) dX11_takesOver_81 rfl ?_
  refine w_aload_n hB 0 dX11_takesOver_84 rfl rfl ?_
  refine w_getC hB (v := 329) ff_X11_27 sh_311 hp.1 cr_311_27 (by decide) q_1187 dX11_takesOver_85 ?_
  obtain ⟨M13m, hc_M13m, hF⟩ := clvS hF
  refine w_callS hB (As := [vr 329]) (st := []) cw_X11_300 q_1510 (c_X11_copies hp hc_M13m) ⟨rfl, rfl⟩ (by decide) (by decide) rfl (Nat.le_of_ble_eq_true rfl) dX11_takesOver_88 rfl ?_
  refine w_aload_n hB 0 dX11_takesOver_91 rfl rfl ?_
  refine w_getC hB (v := 330) ff_X11_28 sh_311 hp.1 cr_311_28 (by decide) q_1188 dX11_takesOver_92 ?_
  obtain ⟨M14m, hc_M14m, hF⟩ := clvS hF
  refine w_callS hB (As := [vr 330]) (st := []) cw_X11_300 q_1510 (c_X11_copies hp hc_M14m) ⟨rfl, rfl⟩ (by decide) (by decide) rfl (Nat.le_of_ble_eq_true rfl) dX11_takesOver_95 rfl ?_
  refine w_aload_n hB 0 dX11_takesOver_98 rfl rfl ?_
  refine w_getC hB (v := 331) ff_X11_29 sh_311 hp.1 cr_311_29 (by decide) q_1189 dX11_takesOver_99 ?_
  obtain ⟨M15m, hc_M15m, hF⟩ := clvS hF
  refine w_callS hB (As := [vr 331]) (st := []) cw_X11_300 q_1510 (c_X11_copies hp hc_M15m) ⟨rfl, rfl⟩ (by decide) (by decide) rfl (Nat.le_of_ble_eq_true rfl) dX11_takesOver_102 rfl ?_
  refine w_aload_n hB 0 dX11_takesOver_105 rfl rfl ?_
  refine w_getC hB (v := 332) ff_X11_30 sh_311 hp.1 cr_311_30 (by decide) q_1190 dX11_takesOver_106 ?_
  obtain ⟨M16m, hc_M16m, hF⟩ := clvS hF
  refine w_callS hB (As := [vr 332]) (st := []) cw_X11_300 q_1510 (c_X11_copies hp hc_M16m) ⟨rfl, rfl⟩ (by decide) (by decide) rfl (Nat.le_of_ble_eq_true rfl) dX11_takesOver_109 rfl ?_
  refine w_aload_n hB 0 dX11_takesOver_112 rfl rfl ?_
  refine w_getC hB (v := 333) ff_X11_31 sh_311 hp.1 cr_311_31 (by decide) q_1191 dX11_takesOver_113 ?_
  obtain ⟨M17m, hc_M17m, hF⟩ := clvS hF
  refine w_callS hB (As := [vr 333]) (st := []) cw_X11_300 q_1510 (c_X11_copies hp hc_M17m) ⟨rfl, rfl⟩ (by decide) (by decide) rfl (Nat.le_of_ble_eq_true rfl) dX11_takesOver_116 rfl ?_
  refine w_aload_n hB 0 dX11_takesOver_119 rfl rfl ?_
  refine w_getC hB (v := 334) ff_X11_32 sh_311 hp.1 cr_311_32 (by decide) q_1192 dX11_takesOver_120 ?_
  obtain ⟨M18m, hc_M18m, hF⟩ := clvS hF
  refine w_callS hB (As := [vr 334]) (st := []) cw_X11_300 q_1510 (c_X11_copies hp hc_M18m) ⟨rfl, rfl⟩ (by decide) (by decide) rfl (Nat.le_of_ble_eq_true rfl) dX11_takesOver_123 rfl ?_
  refine w_aload_n hB 0 dX11_takesOver_126 rfl rfl ?_
  refine w_getC hB (v := 335) ff_X11_33 sh_311 hp.1 cr_311_33 (by decide) q_1193 dX11_takesOver_127 ?_
  obtain ⟨M19m, hc_M19m, hF⟩ := clvS hF
  refine w_callS hB (As := [vr 335]) (st := []) cw_X11_300 q_1510 (c_X11_copies hp hc_M19m) ⟨rfl, rfl⟩ (by decide) (by decide) rfl (Nat.le_of_ble_eq_true rfl) dX11_takesOver_130 rfl ?_
  refine w_aload_n hB 0 dX11_takesOver_133 rfl rfl ?_
  refine w_getC hB (v := 336) ff_X11_34 sh_311 hp.1 cr_311_34 (by decide) q_1194 dX11_takesOver_134 ?_
  obtain ⟨M20m, hc_M20m, hF⟩ := clvS hF
  refine w_callS hB (As := [vr 336]) (st := []) cw_X11_300 q_1510 (c_X11_copies hp hc_M20m) ⟨rfl, rfl⟩ (by decide) (by decide) rfl (Nat.le_of_ble_eq_true rfl) dX11_takesOver_137 rfl ?_
  refine w_aload_n hB 0 dX11_takesOver_140 rfl rfl ?_
  refine w_getC hB (v := 337) ff_X11_35 sh_311 hp.1 cr_311_35 (by decide) q_1195 dX11_takesOver_141 ?_
  obtain ⟨M21m, hc_M21m, hF⟩ := clvS hF
  refine w_callS hB (As := [vr 337]) (st := []) cw_X11_300 q_1510 (c_X11_copies hp hc_M21m) ⟨rfl, rfl⟩ (by decide) (by decide) rfl (Nat.le_of_ble_eq_true rfl) dX11_takesOver_144 rfl ?_
  refine w_aload_n hB 0 dX11_takesOver_147 rfl rfl ?_
  refine w_getC hB (v := 338) ff_X11_36 sh_311 hp.1 cr_311_36 (by decide) q_1196 dX11_takesOver_148 ?_
  obtain ⟨M22m, hc_M22m, hF⟩ := clvS hF
  refine w_callS hB (As := [vr 338]) (st := []) cw_X11_300 q_1510 (c_X11_copies hp hc_M22m) ⟨rfl, rfl⟩ (by decide) (by decide) rfl (Nat.le_of_ble_eq_true rfl) dX11_takesOver_151 rfl ?_
  refine w_aload_n hB 0 dX11_takesOver_154 rfl rfl ?_
  refine w_getC hB (v := 339) ff_X11_37 sh_311 hp.1 cr_311_37 (by decide) q_1197 dX11_takesOver_155 ?_
  obtain ⟨M23m, hc_M23m, hF⟩ := clvS hF
  refine w_callS hB (As := [vr 339]) (st := []) cw_X11_300 q_1510 (c_X11_copies hp hc_M23m) ⟨rfl, rfl⟩ (by decide) (by decide) rfl (Nat.le_of_ble_eq_true rfl) dX11_takesOver_158 rfl ?_
  refine w_iconst hB 0 (by decide) dX11_takesOver_161 ?_
  refine w_istore_n hB (L' := [(1, vi 0), (0, vr 311)]) dX11_takesOver_162 rfl (by decide) rfl rfl ?_
  exact Wt.sub (L' := [(0, vr 311), (1, vi 0)]) [1, 0] rfl (b_X11_takesOver_b163 hp hB fuel _ M23m hF)
theorem c_X11_takesOver {K : Kt} {l : Launch} (hp : St K) {M1 : Mem} {M : Mem} (hF : f_X11_takesOver M = some M1) : MT K l yX11_takesOver cX11_takesOver 2 none { frames := 1, cells := 0, slots := 0, locals := 21 } [vr 311] M none M1 0 0 :=
  MT_of (by decide) rfl (Nat.le_of_ble_eq_true rfl) (fun X _ hB _ => b_X11_takesOver hp hB hF)
def f_X11_text_b71 (M : Mem) : Option (Int32 × Mem) :=
  if (M.1 311 9) = 0 then
    clv (f_X11_takesOver M) fun M1m =>
    some (M1m.1 313 4, M1m)
  else
    some ((-2) - ((8 * (M.1 311 10)) + (M.1 311 9)), M)
set_option maxRecDepth 100000 in
set_option maxHeartbeats 4000000 in
theorem b_X11_text_b71 {K : Kt} {X : Xt} (hp : St K) (hB : Bx K X { frames := 13, cells := 0, slots := 0, locals := 275 } cX11_text 2 RX11 (some .int)) {r : Int32} {M1 : Mem} {M : Mem} (hF : f_X11_text_b71 M = some (r, M1)) : Wt K X (QM K X (some (vi r)) M1 0 0) 0 0 M 71 [(0, vr 311)] [] := by
  unfold f_X11_text_b71 at hF
  refine w_aload_n hB 0 dX11_text_71 rfl rfl ?_
  refine w_getI hB ff_X11_9 sh_311 (Or.inl hp.1) q_1169 dX11_text_72 ?_
  refine w_if_eq hB 94 dX11_text_75 (by decide) (fun hc => ?_) (fun hc => ?_)
  · replace hF := ifT hc hF
    refine w_aload_n hB 0 dX11_text_94 rfl rfl ?_
    obtain ⟨M1m, hc_M1m, hF⟩ := clvS hF
    refine w_callV hB (ci := 9) (As := []) (st := []) cw_X11_310 q_1507 q_49 rfl sh_311 (Or.inl hp.1) (c_X11_takesOver hp hc_M1m) ⟨rfl, rfl⟩ (by decide) (by decide) rfl (Nat.le_of_ble_eq_true rfl) dX11_text_95 rfl ?_
    refine w_aload_n hB 0 dX11_text_98 rfl rfl ?_
    refine w_getC hB (v := 313) ff_X11_11 sh_311 hp.1 cr_311_11 (by decide) q_1171 dX11_text_99 ?_
    refine w_iconst hB 4 (by decide) dX11_text_102 ?_
    refine w_iald hB sh_313 (Or.inl hp.1) sl_313 (by decide) dX11_text_103 ?_
    rw [show (4 : Int32).toNatClampNeg = 4 by decide]
    obtain ⟨e1, e2⟩ := retS hF
    subst e2
    exact w_iret hB dX11_text_104 e1
  · replace hF := ifF hc hF
    refine w_bipush hB (-2) (by decide) dX11_text_78 ?_
    refine w_bipush hB 8 (by decide) dX11_text_80 ?_
    refine w_aload_n hB 0 dX11_text_82 rfl rfl ?_
    refine w_getI hB ff_X11_10 sh_311 (Or.inl hp.1) q_1170 dX11_text_83 ?_
    refine w_imul hB dX11_text_86 ?_
    refine w_aload_n hB 0 dX11_text_87 rfl rfl ?_
    refine w_getI hB ff_X11_9 sh_311 (Or.inl hp.1) q_1169 dX11_text_88 ?_
    refine w_iadd hB dX11_text_91 ?_
    refine w_isub hB dX11_text_92 ?_
    obtain ⟨e1, e2⟩ := retS hF
    subst e2
    exact w_iret hB dX11_text_93 e1
def f_X11_text_b50_s (rec50 : Mem → Option (Int32 × Mem)) (M : Mem) : Option (Int32 × Mem) :=
  if (M.1 311 9) = 0 then
    if (M.1 311 6) = 0 then
      f_X11_text_b71 M
    else
      clv (f_X11_lineHere M) fun M1m =>
      rec50 M1m
  else
    f_X11_text_b71 M
set_option maxRecDepth 100000 in
set_option maxHeartbeats 4000000 in
theorem b_X11_text_b50_s {K : Kt} {X : Xt} (hp : St K) (hB : Bx K X { frames := 13, cells := 0, slots := 0, locals := 275 } cX11_text 2 RX11 (some .int)) {r : Int32} {M1 : Mem} {rec50 : Mem → Option (Int32 × Mem)}
    (h50 : ∀ M, rec50 M = some (r, M1) → Wt K X (QM K X (some (vi r)) M1 0 0) 0 0 M 50 [(0, vr 311)] []) {M : Mem} (hF : f_X11_text_b50_s rec50 M = some (r, M1)) : Wt K X (QM K X (some (vi r)) M1 0 0) 0 0 M 50 [(0, vr 311)] [] := by
  unfold f_X11_text_b50_s at hF
  refine w_aload_n hB 0 dX11_text_50 rfl rfl ?_
  refine w_getI hB ff_X11_9 sh_311 (Or.inl hp.1) q_1169 dX11_text_51 ?_
  refine w_if_ne hB 71 dX11_text_54 (by decide) (fun hc => ?_) (fun hc => ?_)
  · replace hF := ifF hc hF
    exact Wt.sub (L' := [(0, vr 311)]) [0] rfl (b_X11_text_b71 hp hB hF)
  · replace hF := ifT hc hF
    refine w_aload_n hB 0 dX11_text_57 rfl rfl ?_
    refine w_getI hB ff_X11_6 sh_311 (Or.inl hp.1) q_1166 dX11_text_58 ?_
    refine w_if_eq hB 71 dX11_text_61 (by decide) (fun hc => ?_) (fun hc => ?_)
    · replace hF := ifT hc hF
      exact Wt.sub (L' := [(0, vr 311)]) [0] rfl (b_X11_text_b71 hp hB hF)
    · replace hF := ifF hc hF
      refine w_aload_n hB 0 dX11_text_64 rfl rfl ?_
      obtain ⟨M1m, hc_M1m, hF⟩ := clvS hF
      refine w_callV hB (ci := 9) (As := []) (st := []) cw_X11_307 q_1337 q_24 rfl sh_311 (Or.inl hp.1) (c_X11_lineHere hp hc_M1m) ⟨rfl, rfl⟩ (by decide) (by decide) rfl (Nat.le_of_ble_eq_true rfl) dX11_text_65 rfl ?_
      refine w_goto hB 50 dX11_text_68 (by decide) ?_
      exact Wt.sub (L' := [(0, vr 311)]) [0] rfl (h50 M1m hF)
def f_X11_text_b50 (k : Nat) : Mem → Option (Int32 × Mem) := lpN (fun _ => none) (f_X11_text_b50_s) k
theorem b_X11_text_b50 {K : Kt} {X : Xt} (hp : St K) (hB : Bx K X { frames := 13, cells := 0, slots := 0, locals := 275 } cX11_text 2 RX11 (some .int)) {r : Int32} {M1 : Mem} (k : Nat) : ∀ M, f_X11_text_b50 k M = some (r, M1) → Wt K X (QM K X (some (vi r)) M1 0 0) 0 0 M 50 [(0, vr 311)] [] := by
  refine lpN_ind (P := fun (f : Mem → Option (Int32 × Mem)) => ∀ M, f M = some (r, M1) → Wt K X (QM K X (some (vi r)) M1 0 0) 0 0 M 50 [(0, vr 311)] []) (fun _ h => by cases h) (fun f hf M hF => ?_) k
  exact b_X11_text_b50_s hp hB hf hF
def f_X11_text (x1 : Int32) (M : Mem) : Option (Int32 × Mem) :=
  bnd (setI M 311 0 0) fun M1m =>
  cl (f_X11_within (x1.toInt64) 0 ((M1m.1 311 2).toInt64) M1m) fun r1 M2m =>
  if r1 = 0 then
    some ((-1), M2m)
  else
    bnd (setI M2m 311 2 0) fun M3m =>
    bnd (setI M3m 311 3 x1) fun M4m =>
    bnd (setI M4m 311 5 0) fun M5m =>
    bnd (setI M5m 311 9 0) fun M6m =>
    clv (f_X11_usual 1 M6m) fun M7m =>
    clv (f_X11_steps M7m) fun M8m =>
    f_X11_text_b50 fuel M8m
set_option maxRecDepth 100000 in
set_option maxHeartbeats 4000000 in
theorem b_X11_text {K : Kt} {X : Xt} (hp : St K) (hB : Bx K X { frames := 13, cells := 0, slots := 0, locals := 275 } cX11_text 2 RX11 (some .int)) {r : Int32} {M1 : Mem} {x1 : Int32} {M : Mem} (hF : f_X11_text x1 M = some (r, M1)) : Wt K X (QM K X (some (vi r)) M1 0 0) 0 0 M 0 [(0, vr 311), (1, vi x1)] [] := by
  unfold f_X11_text at hF
  refine w_aload_n hB 0 dX11_text_0 rfl rfl ?_
  refine w_iconst hB 0 (by decide) dX11_text_1 ?_
  obtain ⟨M1m, e_M1m, hF⟩ := bndS hF
  refine w_putI hB ff_X11_0 sh_311 (Or.inl hp.1) q_1160 e_M1m dX11_text_2 ?_
  refine w_iload_n hB 1 dX11_text_5 rfl rfl ?_
  refine w_i2l hB dX11_text_6 ?_
  refine w_lconst hB 0 (by decide) dX11_text_7 ?_
  refine w_aload_n hB 0 dX11_text_8 rfl rfl ?_
  refine w_getI hB ff_X11_2 sh_311 (Or.inl hp.1) q_1162 dX11_text_9 ?_
  refine w_i2l hB dX11_text_12 ?_
  obtain ⟨r1, M2m, hc_M2m, hF⟩ := clS hF
  refine w_callS hB (As := [vl (x1.toInt64), vl 0, vl ((M1m.1 311 2).toInt64)]) (st := []) cw_X11_156 q_1320 (c_X11_within hp hc_M2m) ⟨rfl, rfl⟩ (by decide) (by decide) rfl (Nat.le_of_ble_eq_true rfl) dX11_text_13 rfl ?_
  refine w_if_ne hB 21 dX11_text_16 (by decide) (fun hc => ?_) (fun hc => ?_)
  · replace hF := ifF hc hF
    refine w_aload_n hB 0 dX11_text_21 rfl rfl ?_
    refine w_iconst hB 0 (by decide) dX11_text_22 ?_
    obtain ⟨M3m, e_M3m, hF⟩ := bndS hF
    refine w_putI hB ff_X11_2 sh_311 (Or.inl hp.1) q_1162 e_M3m dX11_text_23 ?_
    refine w_aload_n hB 0 dX11_text_26 rfl rfl ?_
    refine w_iload_n hB 1 dX11_text_27 rfl rfl ?_
    obtain ⟨M4m, e_M4m, hF⟩ := bndS hF
    refine w_putI hB ff_X11_3 sh_311 (Or.inl hp.1) q_1163 e_M4m dX11_text_28 ?_
    refine w_aload_n hB 0 dX11_text_31 rfl rfl ?_
    refine w_iconst hB 0 (by decide) dX11_text_32 ?_
    obtain ⟨M5m, e_M5m, hF⟩ := bndS hF
    refine w_putI hB ff_X11_5 sh_311 (Or.inl hp.1) q_1165 e_M5m dX11_text_33 ?_
    refine w_aload_n hB 0 dX11_text_36 rfl rfl ?_
    refine w_iconst hB 0 (by decide) dX11_text_37 ?_
    obtain ⟨M6m, e_M6m, hF⟩ := bndS hF
    refine w_putI hB ff_X11_9 sh_311 (Or.inl hp.1) q_1169 e_M6m dX11_text_38 ?_
    refine w_aload_n hB 0 dX11_text_41 rfl rfl ?_
    refine w_iconst hB 1 (by decide) dX11_text_42 ?_
    obtain ⟨M7m, hc_M7m, hF⟩ := clvS hF
    refine w_callV hB (ci := 9) (As := [vi 1]) (st := []) cw_X11_115 q_1158 q_20 rfl sh_311 (Or.inl hp.1) (c_X11_usual hp hc_M7m) ⟨rfl, rfl⟩ (by decide) (by decide) rfl (Nat.le_of_ble_eq_true rfl) dX11_text_43 rfl ?_
    refine w_aload_n hB 0 dX11_text_46 rfl rfl ?_
    obtain ⟨M8m, hc_M8m, hF⟩ := clvS hF
    refine w_callV hB (ci := 9) (As := []) (st := []) cw_X11_228 q_1324 q_22 rfl sh_311 (Or.inl hp.1) (c_X11_steps hp hc_M8m) ⟨rfl, rfl⟩ (by decide) (by decide) rfl (Nat.le_of_ble_eq_true rfl) dX11_text_47 rfl ?_
    exact Wt.sub (L' := [(0, vr 311)]) [0] rfl (b_X11_text_b50 hp hB fuel M8m hF)
  · replace hF := ifT hc hF
    refine w_iconst hB (-1) (by decide) dX11_text_19 ?_
    obtain ⟨e1, e2⟩ := retS hF
    subst e2
    exact w_iret hB dX11_text_20 e1
theorem c_X11_text {K : Kt} {l : Launch} (hp : St K) {r : Int32} {M1 : Mem} {x1 : Int32} {M : Mem} (hF : f_X11_text x1 M = some (r, M1)) : MT K l yX11_text cX11_text 2 (some .int) { frames := 13, cells := 0, slots := 0, locals := 275 } [vr 311, vi x1] M (some (vi r)) M1 0 0 :=
  MT_of (by decide) rfl (Nat.le_of_ble_eq_true rfl) (fun X _ hB _ => b_X11_text hp hB hF)
def f_X11_isPlay (x1 : Int32) (M : Mem) : Option (Int32 × Mem) :=
  cl (f_X11_within (x1.toInt64) 0 (((M.1 313 4) - 1).toInt64) M) fun r1 M1m =>
  gd (vp_nar .boolean r1 = r1) <|
  some (r1, M1m)
set_option maxRecDepth 100000 in
set_option maxHeartbeats 4000000 in
theorem b_X11_isPlay {K : Kt} {X : Xt} (hp : St K) (hB : Bx K X { frames := 1, cells := 0, slots := 0, locals := 25 } cX11_isPlay 2 RX11 (some .boolean)) {r : Int32} {M1 : Mem} {x1 : Int32} {M : Mem} (hF : f_X11_isPlay x1 M = some (r, M1)) : Wt K X (QM K X (some (vi r)) M1 0 0) 0 0 M 0 [(0, vr 311), (1, vi x1)] [] := by
  unfold f_X11_isPlay at hF
  refine w_iload_n hB 1 dX11_isPlay_0 rfl rfl ?_
  refine w_i2l hB dX11_isPlay_1 ?_
  refine w_lconst hB 0 (by decide) dX11_isPlay_2 ?_
  refine w_aload_n hB 0 dX11_isPlay_3 rfl rfl ?_
  refine w_getC hB (v := 313) ff_X11_11 sh_311 hp.1 cr_311_11 (by decide) q_1171 dX11_isPlay_4 ?_
  refine w_iconst hB 4 (by decide) dX11_isPlay_7 ?_
  refine w_iald hB sh_313 (Or.inl hp.1) sl_313 (by decide) dX11_isPlay_8 ?_
  rw [show (4 : Int32).toNatClampNeg = 4 by decide]
  refine w_iconst hB 1 (by decide) dX11_isPlay_9 ?_
  refine w_isub hB dX11_isPlay_10 ?_
  refine w_i2l hB dX11_isPlay_11 ?_
  obtain ⟨r1, M1m, hc_M1m, hF⟩ := clS hF
  refine w_callS hB (As := [vl (x1.toInt64), vl 0, vl (((M.1 313 4) - 1).toInt64)]) (st := []) cw_X11_156 q_1320 (c_X11_within hp hc_M1m) ⟨rfl, rfl⟩ (by decide) (by decide) rfl (Nat.le_of_ble_eq_true rfl) dX11_isPlay_12 rfl ?_
  obtain ⟨g1, hF⟩ := gdS hF
  obtain ⟨e1, e2⟩ := retS hF
  subst e2
  exact w_zret hB g1 dX11_isPlay_15 e1
theorem c_X11_isPlay {K : Kt} {l : Launch} (hp : St K) {r : Int32} {M1 : Mem} {x1 : Int32} {M : Mem} (hF : f_X11_isPlay x1 M = some (r, M1)) : MT K l yX11_isPlay cX11_isPlay 2 (some .boolean) { frames := 1, cells := 0, slots := 0, locals := 25 } [vr 311, vi x1] M (some (vi r)) M1 0 0 :=
  MT_of (by decide) rfl (Nat.le_of_ble_eq_true rfl) (fun X _ hB _ => b_X11_isPlay hp hB hF)
def f_X11_isSide (x1 : Int32) (M : Mem) : Option (Int32 × Mem) :=
  cl (f_X11_within (x1.toInt64) 0 (((M.1 313 1) - 1).toInt64) M) fun r1 M1m =>
  gd (vp_nar .boolean r1 = r1) <|
  some (r1, M1m)
set_option maxRecDepth 100000 in
set_option maxHeartbeats 4000000 in
theorem b_X11_isSide {K : Kt} {X : Xt} (hp : St K) (hB : Bx K X { frames := 1, cells := 0, slots := 0, locals := 25 } cX11_isSide 2 RX11 (some .boolean)) {r : Int32} {M1 : Mem} {x1 : Int32} {M : Mem} (hF : f_X11_isSide x1 M = some (r, M1)) : Wt K X (QM K X (some (vi r)) M1 0 0) 0 0 M 0 [(0, vr 311), (1, vi x1)] [] := by
  unfold f_X11_isSide at hF
  refine w_iload_n hB 1 dX11_isSide_0 rfl rfl ?_
  refine w_i2l hB dX11_isSide_1 ?_
  refine w_lconst hB 0 (by decide) dX11_isSide_2 ?_
  refine w_aload_n hB 0 dX11_isSide_3 rfl rfl ?_
  refine w_getC hB (v := 313) ff_X11_11 sh_311 hp.1 cr_311_11 (by decide) q_1171 dX11_isSide_4 ?_
  refine w_iconst hB 1 (by decide) dX11_isSide_7 ?_
  refine w_iald hB sh_313 (Or.inl hp.1) sl_313 (by decide) dX11_isSide_8 ?_
  rw [show (1 : Int32).toNatClampNeg = 1 by decide]
  refine w_iconst hB 1 (by decide) dX11_isSide_9 ?_
  refine w_isub hB dX11_isSide_10 ?_
  refine w_i2l hB dX11_isSide_11 ?_
  obtain ⟨r1, M1m, hc_M1m, hF⟩ := clS hF
  refine w_callS hB (As := [vl (x1.toInt64), vl 0, vl (((M.1 313 1) - 1).toInt64)]) (st := []) cw_X11_156 q_1320 (c_X11_within hp hc_M1m) ⟨rfl, rfl⟩ (by decide) (by decide) rfl (Nat.le_of_ble_eq_true rfl) dX11_isSide_12 rfl ?_
  obtain ⟨g1, hF⟩ := gdS hF
  obtain ⟨e1, e2⟩ := retS hF
  subst e2
  exact w_zret hB g1 dX11_isSide_15 e1
theorem c_X11_isSide {K : Kt} {l : Launch} (hp : St K) {r : Int32} {M1 : Mem} {x1 : Int32} {M : Mem} (hF : f_X11_isSide x1 M = some (r, M1)) : MT K l yX11_isSide cX11_isSide 2 (some .boolean) { frames := 1, cells := 0, slots := 0, locals := 25 } [vr 311, vi x1] M (some (vi r)) M1 0 0 :=
  MT_of (by decide) rfl (Nat.le_of_ble_eq_true rfl) (fun X _ hB _ => b_X11_isSide hp hB hF)
def f_X11_isBoard (x1 : Int32) (M : Mem) : Option (Int32 × Mem) :=
  cl (f_X11_within (x1.toInt64) 0 (((M.1 313 3) - 1).toInt64) M) fun r1 M1m =>
  gd (vp_nar .boolean r1 = r1) <|
  some (r1, M1m)
set_option maxRecDepth 100000 in
set_option maxHeartbeats 4000000 in
theorem b_X11_isBoard {K : Kt} {X : Xt} (hp : St K) (hB : Bx K X { frames := 1, cells := 0, slots := 0, locals := 25 } cX11_isBoard 2 RX11 (some .boolean)) {r : Int32} {M1 : Mem} {x1 : Int32} {M : Mem} (hF : f_X11_isBoard x1 M = some (r, M1)) : Wt K X (QM K X (some (vi r)) M1 0 0) 0 0 M 0 [(0, vr 311), (1, vi x1)] [] := by
  unfold f_X11_isBoard at hF
  refine w_iload_n hB 1 dX11_isBoard_0 rfl rfl ?_
  refine w_i2l hB dX11_isBoard_1 ?_
  refine w_lconst hB 0 (by decide) dX11_isBoard_2 ?_
  refine w_aload_n hB 0 dX11_isBoard_3 rfl rfl ?_
  refine w_getC hB (v := 313) ff_X11_11 sh_311 hp.1 cr_311_11 (by decide) q_1171 dX11_isBoard_4 ?_
  refine w_iconst hB 3 (by decide) dX11_isBoard_7 ?_
  refine w_iald hB sh_313 (Or.inl hp.1) sl_313 (by decide) dX11_isBoard_8 ?_
  rw [show (3 : Int32).toNatClampNeg = 3 by decide]
  refine w_iconst hB 1 (by decide) dX11_isBoard_9 ?_
  refine w_isub hB dX11_isBoard_10 ?_
  refine w_i2l hB dX11_isBoard_11 ?_
  obtain ⟨r1, M1m, hc_M1m, hF⟩ := clS hF
  refine w_callS hB (As := [vl (x1.toInt64), vl 0, vl (((M.1 313 3) - 1).toInt64)]) (st := []) cw_X11_156 q_1320 (c_X11_within hp hc_M1m) ⟨rfl, rfl⟩ (by decide) (by decide) rfl (Nat.le_of_ble_eq_true rfl) dX11_isBoard_12 rfl ?_
  obtain ⟨g1, hF⟩ := gdS hF
  obtain ⟨e1, e2⟩ := retS hF
  subst e2
  exact w_zret hB g1 dX11_isBoard_15 e1
theorem c_X11_isBoard {K : Kt} {l : Launch} (hp : St K) {r : Int32} {M1 : Mem} {x1 : Int32} {M : Mem} (hF : f_X11_isBoard x1 M = some (r, M1)) : MT K l yX11_isBoard cX11_isBoard 2 (some .boolean) { frames := 1, cells := 0, slots := 0, locals := 25 } [vr 311, vi x1] M (some (vi r)) M1 0 0 :=
  MT_of (by decide) rfl (Nat.le_of_ble_eq_true rfl) (fun X _ hB _ => b_X11_isBoard hp hB hF)
def f_X11_callOf (x1 : Int32) (M : Mem) : Option (Int32 × Mem) :=
  if (M.1 340 0) ≤ x1 then
    gd (inb x1 16) <|
    some (M.1 334 x1.toNatClampNeg, M)
  else
    gd (inb (1 + x1) 114) <|
    some (M.1 340 (1 + x1).toNatClampNeg, M)
set_option maxRecDepth 100000 in
set_option maxHeartbeats 4000000 in
theorem b_X11_callOf {K : Kt} {X : Xt} (hp : St K) (hB : Bx K X { frames := 0, cells := 0, slots := 0, locals := 0 } cX11_callOf 2 RX11 (some .int)) {r : Int32} {M1 : Mem} {x1 : Int32} {M : Mem} (hF : f_X11_callOf x1 M = some (r, M1)) : Wt K X (QM K X (some (vi r)) M1 0 0) 0 0 M 0 [(0, vr 311), (1, vi x1)] [] := by
  unfold f_X11_callOf at hF
  refine w_iload_n hB 1 dX11_callOf_0 rfl rfl ?_
  refine w_aload_n hB 0 dX11_callOf_1 rfl rfl ?_
  refine w_getC hB (v := 340) ff_X11_38 sh_311 hp.1 cr_311_38 (by decide) q_1198 dX11_callOf_2 ?_
  refine w_iconst hB 0 (by decide) dX11_callOf_5 ?_
  refine w_iald hB sh_340 (Or.inl hp.1) sl_340 (by decide) dX11_callOf_6 ?_
  rw [show (0 : Int32).toNatClampNeg = 0 by decide]
  refine w_icmp_ge hB 21 dX11_callOf_7 (by decide) (fun hc => ?_) (fun hc => ?_)
  · replace hF := ifT hc hF
    refine w_aload_n hB 0 dX11_callOf_21 rfl rfl ?_
    refine w_getC hB (v := 334) ff_X11_32 sh_311 hp.1 cr_311_32 (by decide) q_1192 dX11_callOf_22 ?_
    refine w_iload_n hB 1 dX11_callOf_25 rfl rfl ?_
    obtain ⟨g1, hF⟩ := gdS hF
    refine w_iald hB sh_334 (Or.inl hp.1) sl_334 g1 dX11_callOf_26 ?_
    obtain ⟨e1, e2⟩ := retS hF
    subst e2
    exact w_iret hB dX11_callOf_27 e1
  · replace hF := ifF hc hF
    refine w_aload_n hB 0 dX11_callOf_10 rfl rfl ?_
    refine w_getC hB (v := 340) ff_X11_38 sh_311 hp.1 cr_311_38 (by decide) q_1198 dX11_callOf_11 ?_
    refine w_iconst hB 1 (by decide) dX11_callOf_14 ?_
    refine w_iload_n hB 1 dX11_callOf_15 rfl rfl ?_
    refine w_iadd hB dX11_callOf_16 ?_
    obtain ⟨g2, hF⟩ := gdS hF
    refine w_iald hB sh_340 (Or.inl hp.1) sl_340 g2 dX11_callOf_17 ?_
    refine w_goto hB 27 dX11_callOf_18 (by decide) ?_
    obtain ⟨e1, e2⟩ := retS hF
    subst e2
    exact w_iret hB dX11_callOf_27 e1
theorem c_X11_callOf {K : Kt} {l : Launch} (hp : St K) {r : Int32} {M1 : Mem} {x1 : Int32} {M : Mem} (hF : f_X11_callOf x1 M = some (r, M1)) : MT K l yX11_callOf cX11_callOf 2 (some .int) { frames := 0, cells := 0, slots := 0, locals := 0 } [vr 311, vi x1] M (some (vi r)) M1 0 0 :=
  MT_of (by decide) rfl (Nat.le_of_ble_eq_true rfl) (fun X _ hB _ => b_X11_callOf hp hB hF)
def f_X11_allFrames (x1 : Int32) (M : Mem) : Option (Int32 × Mem) :=
  gd (inb x1 16) <|
  some (((1 : Int32) <<< ((M.1 335 x1.toNatClampNeg) &&& 31)) - 1, M)
set_option maxRecDepth 100000 in
set_option maxHeartbeats 4000000 in
theorem b_X11_allFrames {K : Kt} {X : Xt} (hp : St K) (hB : Bx K X { frames := 0, cells := 0, slots := 0, locals := 0 } cX11_allFrames 2 RX11 (some .int)) {r : Int32} {M1 : Mem} {x1 : Int32} {M : Mem} (hF : f_X11_allFrames x1 M = some (r, M1)) : Wt K X (QM K X (some (vi r)) M1 0 0) 0 0 M 0 [(0, vr 311), (1, vi x1)] [] := by
  unfold f_X11_allFrames at hF
  refine w_iconst hB 1 (by decide) dX11_allFrames_0 ?_
  refine w_aload_n hB 0 dX11_allFrames_1 rfl rfl ?_
  refine w_getC hB (v := 335) ff_X11_33 sh_311 hp.1 cr_311_33 (by decide) q_1193 dX11_allFrames_2 ?_
  refine w_iload_n hB 1 dX11_allFrames_5 rfl rfl ?_
  obtain ⟨g1, hF⟩ := gdS hF
  refine w_iald hB sh_335 (Or.inl hp.1) sl_335 g1 dX11_allFrames_6 ?_
  refine w_ishl hB dX11_allFrames_7 ?_
  refine w_iconst hB 1 (by decide) dX11_allFrames_8 ?_
  refine w_isub hB dX11_allFrames_9 ?_
  obtain ⟨e1, e2⟩ := retS hF
  subst e2
  exact w_iret hB dX11_allFrames_10 e1
theorem c_X11_allFrames {K : Kt} {l : Launch} (hp : St K) {r : Int32} {M1 : Mem} {x1 : Int32} {M : Mem} (hF : f_X11_allFrames x1 M = some (r, M1)) : MT K l yX11_allFrames cX11_allFrames 2 (some .int) { frames := 0, cells := 0, slots := 0, locals := 0 } [vr 311, vi x1] M (some (vi r)) M1 0 0 :=
  MT_of (by decide) rfl (Nat.le_of_ble_eq_true rfl) (fun X _ hB _ => b_X11_allFrames hp hB hF)
def f_X11_atMost (x1 : Int32) (x2 : Int32) (x3 : Int32) (M : Mem) : Option Mem :=
  gd (inb ((10 * x1) + x2) 100) <|
  if (M.1 344 ((10 * x1) + x2).toNatClampNeg) ≤ x3 then
    some M
  else
    bnd (setI M 344 (((10 * x1) + x2).toNatClampNeg) x3) fun M1m =>
    some M1m
set_option maxRecDepth 100000 in
set_option maxHeartbeats 4000000 in
theorem b_X11_atMost {K : Kt} {X : Xt} (hp : St K) (hB : Bx K X { frames := 0, cells := 0, slots := 0, locals := 0 } cX11_atMost 4 RX11 none) {M1 : Mem} {x1 : Int32} {x2 : Int32} {x3 : Int32} {M : Mem} (hF : f_X11_atMost x1 x2 x3 M = some M1) : Wt K X (QM K X none M1 0 0) 0 0 M 0 [(0, vr 311), (1, vi x1), (2, vi x2), (3, vi x3)] [] := by
  unfold f_X11_atMost at hF
  refine w_iload_n hB 3 dX11_atMost_0 rfl rfl ?_
  refine w_aload_n hB 0 dX11_atMost_1 rfl rfl ?_
  refine w_getC hB (v := 344) ff_X11_43 sh_311 hp.1 cr_311_43 (by decide) q_1203 dX11_atMost_2 ?_
  refine w_bipush hB 10 (by decide) dX11_atMost_5 ?_
  refine w_iload_n hB 1 dX11_atMost_7 rfl rfl ?_
  refine w_imul hB dX11_atMost_8 ?_
  refine w_iload_n hB 2 dX11_atMost_9 rfl rfl ?_
  refine w_iadd hB dX11_atMost_10 ?_
  obtain ⟨g1, hF⟩ := gdS hF
  refine w_iald hB sh_344 (Or.inl hp.1) sl_344 g1 dX11_atMost_11 ?_
  refine w_icmp_ge hB 27 dX11_atMost_12 (by decide) (fun hc => ?_) (fun hc => ?_)
  · replace hF := ifT hc hF
    cases hF
    exact w_vret hB dX11_atMost_27
  · replace hF := ifF hc hF
    refine w_aload_n hB 0 dX11_atMost_15 rfl rfl ?_
    refine w_getC hB (v := 344) ff_X11_43 sh_311 hp.1 cr_311_43 (by decide) q_1203 dX11_atMost_16 ?_
    refine w_bipush hB 10 (by decide) dX11_atMost_19 ?_
    refine w_iload_n hB 1 dX11_atMost_21 rfl rfl ?_
    refine w_imul hB dX11_atMost_22 ?_
    refine w_iload_n hB 2 dX11_atMost_23 rfl rfl ?_
    refine w_iadd hB dX11_atMost_24 ?_
    refine w_iload_n hB 3 dX11_atMost_25 rfl rfl ?_
    obtain ⟨M1m, e_M1m, hF⟩ := bndS hF
    refine w_iast hB sh_344 (Or.inl hp.1) sl_344 g1 e_M1m dX11_atMost_26 ?_
    cases hF
    exact w_vret hB dX11_atMost_27
theorem c_X11_atMost {K : Kt} {l : Launch} (hp : St K) {M1 : Mem} {x1 : Int32} {x2 : Int32} {x3 : Int32} {M : Mem} (hF : f_X11_atMost x1 x2 x3 M = some M1) : MT K l yX11_atMost cX11_atMost 4 none { frames := 0, cells := 0, slots := 0, locals := 0 } [vr 311, vi x1, vi x2, vi x3] M none M1 0 0 :=
  MT_of (by decide) rfl (Nat.le_of_ble_eq_true rfl) (fun X _ hB _ => b_X11_atMost hp hB hF)
def f_X11_laysClocks_b83_s (rec83 : Int32 → Mem → Option Mem) (x1 : Int32) (M : Mem) : Option Mem :=
  if (M.1 313 5) ≤ x1 then
    some M
  else
    gd (inb (4 * x1) 48) <|
    bnd (1 + (M.1 319 (4 * x1).toNatClampNeg)) fun a1 =>
    gd (inb ((4 * x1) + 2) 48) <|
    bnd (1 + (M.1 319 ((4 * x1) + 2).toNatClampNeg)) fun a2 =>
    gd (inb ((4 * x1) + 3) 48) <|
    gd (inb ((4 * x1) + 1) 48) <|
    bnd ((M.1 319 ((4 * x1) + 3).toNatClampNeg) - (M.1 319 ((4 * x1) + 1).toNatClampNeg)) fun a3 =>
    clv (f_X11_atMost a2 a1 a3 M) fun M1m =>
    clv (f_X11_atMost a1 a2 (-a3) M1m) fun M2m =>
    bnd (x1 + 1) fun a4 =>
    rec83 a4 M2m
set_option maxRecDepth 100000 in
set_option maxHeartbeats 4000000 in
theorem b_X11_laysClocks_b83_s {K : Kt} {X : Xt} (hp : St K) (hB : Bx K X { frames := 1, cells := 0, slots := 0, locals := 23 } cX11_laysClocks 5 RX11 none) {M1 : Mem} {rec83 : Int32 → Mem → Option Mem}
    (h83 : ∀ x1 M, rec83 x1 M = some M1 → Wt K X (QM K X none M1 0 0) 0 0 M 83 [(0, vr 311), (1, vi x1)] []) {x1 : Int32} {M : Mem} (hF : f_X11_laysClocks_b83_s rec83 x1 M = some M1) : Wt K X (QM K X none M1 0 0) 0 0 M 83 [(0, vr 311), (1, vi x1)] [] := by
  unfold f_X11_laysClocks_b83_s at hF
  refine w_iload_n hB 1 dX11_laysClocks_83 rfl rfl ?_
  refine w_aload_n hB 0 dX11_laysClocks_84 rfl rfl ?_
  refine w_getC hB (v := 313) ff_X11_11 sh_311 hp.1 cr_311_11 (by decide) q_1171 dX11_laysClocks_85 ?_
  refine w_iconst hB 5 (by decide) dX11_laysClocks_88 ?_
  refine w_iald hB sh_313 (Or.inl hp.1) sl_313 (by decide) dX11_laysClocks_89 ?_
  rw [show (5 : Int32).toNatClampNeg = 5 by decide]
  refine w_icmp_ge hB 163 dX11_laysClocks_90 (by decide) (fun hc => ?_) (fun hc => ?_)
  · replace hF := ifT hc hF
    cases hF
    exact w_vret hB dX11_laysClocks_163
  · replace hF := ifF hc hF
    refine w_iconst hB 1 (by decide) dX11_laysClocks_93 ?_
    refine w_aload_n hB 0 dX11_laysClocks_94 rfl rfl ?_
    refine w_getC hB (v := 319) ff_X11_17 sh_311 hp.1 cr_311_17 (by decide) q_1177 dX11_laysClocks_95 ?_
    refine w_iconst hB 4 (by decide) dX11_laysClocks_98 ?_
    refine w_iload_n hB 1 dX11_laysClocks_99 rfl rfl ?_
    refine w_imul hB dX11_laysClocks_100 ?_
    obtain ⟨g1, hF⟩ := gdS hF
    refine w_iald hB sh_319 (Or.inl hp.1) sl_319 g1 dX11_laysClocks_101 ?_
    refine w_iadd hB dX11_laysClocks_102 ?_
    obtain ⟨a1, e_a1, hF⟩ := bndS hF
    refine w_istore_n hB (L' := [(2, vi a1), (0, vr 311), (1, vi x1)]) dX11_laysClocks_103 rfl (by decide) e_a1 rfl ?_
    refine w_iconst hB 1 (by decide) dX11_laysClocks_104 ?_
    refine w_aload_n hB 1 dX11_laysClocks_105 rfl rfl ?_
    refine w_getC hB (v := 319) ff_X11_17 sh_311 hp.1 cr_311_17 (by decide) q_1177 dX11_laysClocks_106 ?_
    refine w_iconst hB 4 (by decide) dX11_laysClocks_109 ?_
    refine w_iload_n hB 2 dX11_laysClocks_110 rfl rfl ?_
    refine w_imul hB dX11_laysClocks_111 ?_
    refine w_iconst hB 2 (by decide) dX11_laysClocks_112 ?_
    refine w_iadd hB dX11_laysClocks_113 ?_
    obtain ⟨g2, hF⟩ := gdS hF
    refine w_iald hB sh_319 (Or.inl hp.1) sl_319 g2 dX11_laysClocks_114 ?_
    refine w_iadd hB dX11_laysClocks_115 ?_
    obtain ⟨a2, e_a2, hF⟩ := bndS hF
    refine w_istore_n hB (L' := [(3, vi a2), (2, vi a1), (0, vr 311), (1, vi x1)]) dX11_laysClocks_116 rfl (by decide) e_a2 rfl ?_
    refine w_aload_n hB 2 dX11_laysClocks_117 rfl rfl ?_
    refine w_getC hB (v := 319) ff_X11_17 sh_311 hp.1 cr_311_17 (by decide) q_1177 dX11_laysClocks_118 ?_
    refine w_iconst hB 4 (by decide) dX11_laysClocks_121 ?_
    refine w_iload_n hB 3 dX11_laysClocks_122 rfl rfl ?_
    refine w_imul hB dX11_laysClocks_123 ?_
    refine w_iconst hB 3 (by decide) dX11_laysClocks_124 ?_
    refine w_iadd hB dX11_laysClocks_125 ?_
    obtain ⟨g3, hF⟩ := gdS hF
    refine w_iald hB sh_319 (Or.inl hp.1) sl_319 g3 dX11_laysClocks_126 ?_
    refine w_aload_n hB 2 dX11_laysClocks_127 rfl rfl ?_
    refine w_getC hB (v := 319) ff_X11_17 sh_311 hp.1 cr_311_17 (by decide) q_1177 dX11_laysClocks_128 ?_
    refine w_iconst hB 4 (by decide) dX11_laysClocks_131 ?_
    refine w_iload_n hB 3 dX11_laysClocks_132 rfl rfl ?_
    refine w_imul hB dX11_laysClocks_133 ?_
    refine w_iconst hB 1 (by decide) dX11_laysClocks_134 ?_
    refine w_iadd hB dX11_laysClocks_135 ?_
    obtain ⟨g4, hF⟩ := gdS hF
    refine w_iald hB sh_319 (Or.inl hp.1) sl_319 g4 dX11_laysClocks_136 ?_
    refine w_isub hB dX11_laysClocks_137 ?_
    obtain ⟨a3, e_a3, hF⟩ := bndS hF
    refine w_istore hB (L' := [(4, vi a3), (3, vi a2), (2, vi a1), (0, vr 311), (1, vi x1)]) dX11_laysClocks_138 (by decide) e_a3 rfl ?_
    refine w_aload_n hB 3 dX11_laysClocks_140 rfl rfl ?_
    refine w_iload_n hB 1 dX11_laysClocks_141 rfl rfl ?_
    refine w_iload_n hB 2 dX11_laysClocks_142 rfl rfl ?_
    refine w_iload hB 0 dX11_laysClocks_143 rfl ?_
    obtain ⟨M1m, hc_M1m, hF⟩ := clvS hF
    refine w_callV hB (ci := 9) (As := [vi a2, vi a1, vi a3]) (st := []) cw_X11_314 q_1524 q_51 rfl sh_311 (Or.inl hp.1) (c_X11_atMost hp hc_M1m) ⟨rfl, rfl⟩ (by decide) (by decide) rfl (Nat.le_of_ble_eq_true rfl) dX11_laysClocks_145 rfl ?_
    refine w_aload_n hB 3 dX11_laysClocks_148 rfl rfl ?_
    refine w_iload_n hB 2 dX11_laysClocks_149 rfl rfl ?_
    refine w_iload_n hB 1 dX11_laysClocks_150 rfl rfl ?_
    refine w_iload hB 0 dX11_laysClocks_151 rfl ?_
    refine w_ineg hB dX11_laysClocks_153 ?_
    obtain ⟨M2m, hc_M2m, hF⟩ := clvS hF
    refine w_callV hB (ci := 9) (As := [vi a1, vi a2, vi (-a3)]) (st := []) cw_X11_314 q_1524 q_51 rfl sh_311 (Or.inl hp.1) (c_X11_atMost hp hc_M2m) ⟨rfl, rfl⟩ (by decide) (by decide) rfl (Nat.le_of_ble_eq_true rfl) dX11_laysClocks_154 rfl ?_
    obtain ⟨a4, e_a4, hF⟩ := bndS hF
    refine w_iinc hB 4 (v := 1) (L' := [(1, vi a4), (4, vi a3), (3, vi a2), (2, vi a1), (0, vr 311)]) dX11_laysClocks_157 rfl (by decide) (by decide) e_a4 rfl ?_
    refine w_goto hB 83 dX11_laysClocks_160 (by decide) ?_
    exact Wt.sub (L' := [(0, vr 311), (1, vi a4)]) [4, 0] rfl (h83 _ M2m hF)
def f_X11_laysClocks_b83 (k : Nat) : Int32 → Mem → Option Mem := lpN (fun _ _ => none) (f_X11_laysClocks_b83_s) k
theorem b_X11_laysClocks_b83 {K : Kt} {X : Xt} (hp : St K) (hB : Bx K X { frames := 1, cells := 0, slots := 0, locals := 23 } cX11_laysClocks 5 RX11 none) {M1 : Mem} (k : Nat) : ∀ (x1 : Int32) M, f_X11_laysClocks_b83 k x1 M = some M1 → Wt K X (QM K X none M1 0 0) 0 0 M 83 [(0, vr 311), (1, vi x1)] [] := by
  refine lpN_ind (P := fun (f : Int32 → Mem → Option Mem) => ∀ (x1 : Int32) M, f x1 M = some M1 → Wt K X (QM K X none M1 0 0) 0 0 M 83 [(0, vr 311), (1, vi x1)] []) (fun _ _ h => by cases h) (fun f hf x1 M hF => ?_) k
  exact b_X11_laysClocks_b83_s hp hB hf hF
def f_X11_laysClocks_b36_s (rec36 : Int32 → Mem → Option Mem) (x1 : Int32) (M : Mem) : Option Mem :=
  if (M.1 313 0) ≤ x1 then
    f_X11_laysClocks_b83 fuel 0 M
  else
    gd (inb x1 10) <|
    clv (f_X11_atMost 0 (1 + x1) (-(M.1 317 x1.toNatClampNeg)) M) fun M1m =>
    clv (f_X11_atMost (1 + x1) 0 (M1m.1 318 x1.toNatClampNeg) M1m) fun M2m =>
    bnd (x1 + 1) fun a1 =>
    rec36 a1 M2m
set_option maxRecDepth 100000 in
set_option maxHeartbeats 4000000 in
theorem b_X11_laysClocks_b36_s {K : Kt} {X : Xt} (hp : St K) (hB : Bx K X { frames := 1, cells := 0, slots := 0, locals := 23 } cX11_laysClocks 5 RX11 none) {M1 : Mem} {rec36 : Int32 → Mem → Option Mem}
    (h36 : ∀ x1 M, rec36 x1 M = some M1 → Wt K X (QM K X none M1 0 0) 0 0 M 36 [(0, vr 311), (1, vi x1)] []) {x1 : Int32} {M : Mem} (hF : f_X11_laysClocks_b36_s rec36 x1 M = some M1) : Wt K X (QM K X none M1 0 0) 0 0 M 36 [(0, vr 311), (1, vi x1)] [] := by
  unfold f_X11_laysClocks_b36_s at hF
  refine w_iload_n hB 1 dX11_laysClocks_36 rfl rfl ?_
  refine w_aload_n hB 0 dX11_laysClocks_37 rfl rfl ?_
  refine w_getC hB (v := 313) ff_X11_11 sh_311 hp.1 cr_311_11 (by decide) q_1171 dX11_laysClocks_38 ?_
  refine w_iconst hB 0 (by decide) dX11_laysClocks_41 ?_
  refine w_iald hB sh_313 (Or.inl hp.1) sl_313 (by decide) dX11_laysClocks_42 ?_
  rw [show (0 : Int32).toNatClampNeg = 0 by decide]
  refine w_icmp_ge hB 81 dX11_laysClocks_43 (by decide) (fun hc => ?_) (fun hc => ?_)
  · replace hF := ifT hc hF
    refine w_iconst hB 0 (by decide) dX11_laysClocks_81 ?_
    refine w_istore_n hB (L' := [(1, vi 0), (0, vr 311)]) dX11_laysClocks_82 rfl (by decide) rfl rfl ?_
    exact Wt.sub (L' := [(0, vr 311), (1, vi 0)]) [1, 0] rfl (b_X11_laysClocks_b83 hp hB fuel _ M hF)
  · replace hF := ifF hc hF
    refine w_aload_n hB 0 dX11_laysClocks_46 rfl rfl ?_
    refine w_iconst hB 0 (by decide) dX11_laysClocks_47 ?_
    refine w_iconst hB 1 (by decide) dX11_laysClocks_48 ?_
    refine w_iload_n hB 1 dX11_laysClocks_49 rfl rfl ?_
    refine w_iadd hB dX11_laysClocks_50 ?_
    refine w_aload_n hB 0 dX11_laysClocks_51 rfl rfl ?_
    refine w_getC hB (v := 317) ff_X11_15 sh_311 hp.1 cr_311_15 (by decide) q_1175 dX11_laysClocks_52 ?_
    refine w_iload_n hB 1 dX11_laysClocks_55 rfl rfl ?_
    obtain ⟨g1, hF⟩ := gdS hF
    refine w_iald hB sh_317 (Or.inl hp.1) sl_317 g1 dX11_laysClocks_56 ?_
    refine w_ineg hB dX11_laysClocks_57 ?_
    obtain ⟨M1m, hc_M1m, hF⟩ := clvS hF
    refine w_callV hB (ci := 9) (As := [vi 0, vi (1 + x1), vi (-(M.1 317 x1.toNatClampNeg))]) (st := []) cw_X11_314 q_1524 q_51 rfl sh_311 (Or.inl hp.1) (c_X11_atMost hp hc_M1m) ⟨rfl, rfl⟩ (by decide) (by decide) rfl (Nat.le_of_ble_eq_true rfl) dX11_laysClocks_58 rfl ?_
    refine w_aload_n hB 0 dX11_laysClocks_61 rfl rfl ?_
    refine w_iconst hB 1 (by decide) dX11_laysClocks_62 ?_
    refine w_iload_n hB 1 dX11_laysClocks_63 rfl rfl ?_
    refine w_iadd hB dX11_laysClocks_64 ?_
    refine w_iconst hB 0 (by decide) dX11_laysClocks_65 ?_
    refine w_aload_n hB 0 dX11_laysClocks_66 rfl rfl ?_
    refine w_getC hB (v := 318) ff_X11_16 sh_311 hp.1 cr_311_16 (by decide) q_1176 dX11_laysClocks_67 ?_
    refine w_iload_n hB 1 dX11_laysClocks_70 rfl rfl ?_
    refine w_iald hB sh_318 (Or.inl hp.1) sl_318 g1 dX11_laysClocks_71 ?_
    obtain ⟨M2m, hc_M2m, hF⟩ := clvS hF
    refine w_callV hB (ci := 9) (As := [vi (1 + x1), vi 0, vi (M1m.1 318 x1.toNatClampNeg)]) (st := []) cw_X11_314 q_1524 q_51 rfl sh_311 (Or.inl hp.1) (c_X11_atMost hp hc_M2m) ⟨rfl, rfl⟩ (by decide) (by decide) rfl (Nat.le_of_ble_eq_true rfl) dX11_laysClocks_72 rfl ?_
    obtain ⟨a1, e_a1, hF⟩ := bndS hF
    refine w_iinc hB 1 (v := 1) (L' := [(1, vi a1), (0, vr 311)]) dX11_laysClocks_75 rfl (by decide) (by decide) e_a1 rfl ?_
    refine w_goto hB 36 dX11_laysClocks_78 (by decide) ?_
    exact Wt.sub (L' := [(0, vr 311), (1, vi a1)]) [1, 0] rfl (h36 _ M2m hF)
def f_X11_laysClocks_b36 (k : Nat) : Int32 → Mem → Option Mem := lpN (fun _ _ => none) (f_X11_laysClocks_b36_s) k
theorem b_X11_laysClocks_b36 {K : Kt} {X : Xt} (hp : St K) (hB : Bx K X { frames := 1, cells := 0, slots := 0, locals := 23 } cX11_laysClocks 5 RX11 none) {M1 : Mem} (k : Nat) : ∀ (x1 : Int32) M, f_X11_laysClocks_b36 k x1 M = some M1 → Wt K X (QM K X none M1 0 0) 0 0 M 36 [(0, vr 311), (1, vi x1)] [] := by
  refine lpN_ind (P := fun (f : Int32 → Mem → Option Mem) => ∀ (x1 : Int32) M, f x1 M = some M1 → Wt K X (QM K X none M1 0 0) 0 0 M 36 [(0, vr 311), (1, vi x1)] []) (fun _ _ h => by cases h) (fun f hf x1 M hF => ?_) k
  exact b_X11_laysClocks_b36_s hp hB hf hF
def f_X11_laysClocks_b27 (rec2 : Int32 → Mem → Option Mem) (x1 : Int32) (xs1 : Int32) (xs2 : Int32) (M : Mem) : Option Mem :=
  gd (inb xs1 100) <|
  bnd (setI M 344 (xs1.toNatClampNeg) xs2) fun M1m =>
  bnd (x1 + 1) fun a1 =>
  rec2 a1 M1m
set_option maxRecDepth 100000 in
set_option maxHeartbeats 4000000 in
theorem b_X11_laysClocks_b27 {K : Kt} {X : Xt} (hp : St K) (hB : Bx K X { frames := 1, cells := 0, slots := 0, locals := 23 } cX11_laysClocks 5 RX11 none) {M1 : Mem} {rec2 : Int32 → Mem → Option Mem}
    (h2 : ∀ x1 M, rec2 x1 M = some M1 → Wt K X (QM K X none M1 0 0) 0 0 M 2 [(0, vr 311), (1, vi x1)] []) {x1 : Int32} {xs1 : Int32} {xs2 : Int32} {M : Mem} (hF : f_X11_laysClocks_b27 rec2 x1 xs1 xs2 M = some M1) : Wt K X (QM K X none M1 0 0) 0 0 M 27 [(0, vr 311), (1, vi x1)] [vi xs2, vi xs1, vr 344] := by
  unfold f_X11_laysClocks_b27 at hF
  obtain ⟨g1, hF⟩ := gdS hF
  obtain ⟨M1m, e_M1m, hF⟩ := bndS hF
  refine w_iast hB sh_344 (Or.inl hp.1) sl_344 g1 e_M1m dX11_laysClocks_27 ?_
  obtain ⟨a1, e_a1, hF⟩ := bndS hF
  refine w_iinc hB 1 (v := 1) (L' := [(1, vi a1), (0, vr 311)]) dX11_laysClocks_28 rfl (by decide) (by decide) e_a1 rfl ?_
  refine w_goto hB 2 dX11_laysClocks_31 (by decide) ?_
  exact Wt.sub (L' := [(0, vr 311), (1, vi a1)]) [1, 0] rfl (h2 _ M1m hF)
def f_X11_laysClocks_b2_s (rec2 : Int32 → Mem → Option Mem) (x1 : Int32) (M : Mem) : Option Mem :=
  if 100 ≤ x1 then
    f_X11_laysClocks_b36 fuel 0 M
  else
    if (x1 - x1 / 11 * 11) = 0 then
      f_X11_laysClocks_b27 rec2 x1 x1 0 M
    else
      f_X11_laysClocks_b27 rec2 x1 x1 100000000 M
set_option maxRecDepth 100000 in
set_option maxHeartbeats 4000000 in
theorem b_X11_laysClocks_b2_s {K : Kt} {X : Xt} (hp : St K) (hB : Bx K X { frames := 1, cells := 0, slots := 0, locals := 23 } cX11_laysClocks 5 RX11 none) {M1 : Mem} {rec2 : Int32 → Mem → Option Mem}
    (h2 : ∀ x1 M, rec2 x1 M = some M1 → Wt K X (QM K X none M1 0 0) 0 0 M 2 [(0, vr 311), (1, vi x1)] []) {x1 : Int32} {M : Mem} (hF : f_X11_laysClocks_b2_s rec2 x1 M = some M1) : Wt K X (QM K X none M1 0 0) 0 0 M 2 [(0, vr 311), (1, vi x1)] [] := by
  unfold f_X11_laysClocks_b2_s at hF
  refine w_iload_n hB 1 dX11_laysClocks_2 rfl rfl ?_
  refine w_bipush hB 100 (by decide) dX11_laysClocks_3 ?_
  refine w_icmp_ge hB 34 dX11_laysClocks_5 (by decide) (fun hc => ?_) (fun hc => ?_)
  · replace hF := ifT hc hF
    refine w_iconst hB 0 (by decide) dX11_laysClocks_34 ?_
    refine w_istore_n hB (L' := [(1, vi 0), (0, vr 311)]) dX11_laysClocks_35 rfl (by decide) rfl rfl ?_
    exact Wt.sub (L' := [(0, vr 311), (1, vi 0)]) [1, 0] rfl (b_X11_laysClocks_b36 hp hB fuel _ M hF)
  · replace hF := ifF hc hF
    refine w_aload_n hB 0 dX11_laysClocks_8 rfl rfl ?_
    refine w_getC hB (v := 344) ff_X11_43 sh_311 hp.1 cr_311_43 (by decide) q_1203 dX11_laysClocks_9 ?_
    refine w_iload_n hB 1 dX11_laysClocks_12 rfl rfl ?_
    refine w_iload_n hB 1 dX11_laysClocks_13 rfl rfl ?_
    refine w_bipush hB 11 (by decide) dX11_laysClocks_14 ?_
    refine w_irem hB (by decide) dX11_laysClocks_16 ?_
    refine w_if_ne hB 24 dX11_laysClocks_17 (by decide) (fun hc => ?_) (fun hc => ?_)
    · replace hF := ifF hc hF
      refine w_ldcw hB (v := 100000000) q_1521 dX11_laysClocks_24 ?_
      exact Wt.sub (L' := [(0, vr 311), (1, vi x1)]) [0, 1] rfl (b_X11_laysClocks_b27 hp hB h2 hF)
    · replace hF := ifT hc hF
      refine w_iconst hB 0 (by decide) dX11_laysClocks_20 ?_
      refine w_goto hB 27 dX11_laysClocks_21 (by decide) ?_
      exact Wt.sub (L' := [(0, vr 311), (1, vi x1)]) [0, 1] rfl (b_X11_laysClocks_b27 hp hB h2 hF)
def f_X11_laysClocks_b2 (k : Nat) : Int32 → Mem → Option Mem := lpN (fun _ _ => none) (f_X11_laysClocks_b2_s) k
theorem b_X11_laysClocks_b2 {K : Kt} {X : Xt} (hp : St K) (hB : Bx K X { frames := 1, cells := 0, slots := 0, locals := 23 } cX11_laysClocks 5 RX11 none) {M1 : Mem} (k : Nat) : ∀ (x1 : Int32) M, f_X11_laysClocks_b2 k x1 M = some M1 → Wt K X (QM K X none M1 0 0) 0 0 M 2 [(0, vr 311), (1, vi x1)] [] := by
  refine lpN_ind (P := fun (f : Int32 → Mem → Option Mem) => ∀ (x1 : Int32) M, f x1 M = some M1 → Wt K X (QM K X none M1 0 0) 0 0 M 2 [(0, vr 311), (1, vi x1)] []) (fun _ _ h => by cases h) (fun f hf x1 M hF => ?_) k
  exact b_X11_laysClocks_b2_s hp hB hf hF
def f_X11_laysClocks (M : Mem) : Option Mem :=
  f_X11_laysClocks_b2 fuel 0 M
set_option maxRecDepth 100000 in
set_option maxHeartbeats 4000000 in
theorem b_X11_laysClocks {K : Kt} {X : Xt} (hp : St K) (hB : Bx K X { frames := 1, cells := 0, slots := 0, locals := 23 } cX11_laysClocks 5 RX11 none) {M1 : Mem} {M : Mem} (hF : f_X11_laysClocks M = some M1) : Wt K X (QM K X none M1 0 0) 0 0 M 0 [(0, vr 311)] [] := by
  unfold f_X11_laysClocks at hF
  refine w_iconst hB 0 (by decide) dX11_laysClocks_0 ?_
  refine w_istore_n hB (L' := [(1, vi 0), (0, vr 311)]) dX11_laysClocks_1 rfl (by decide) rfl rfl ?_
  exact Wt.sub (L' := [(0, vr 311), (1, vi 0)]) [1, 0] rfl (b_X11_laysClocks_b2 hp hB fuel _ M hF)
theorem c_X11_laysClocks {K : Kt} {l : Launch} (hp : St K) {M1 : Mem} {M : Mem} (hF : f_X11_laysClocks M = some M1) : MT K l yX11_laysClocks cX11_laysClocks 5 none { frames := 1, cells := 0, slots := 0, locals := 23 } [vr 311] M none M1 0 0 :=
  MT_of (by decide) rfl (Nat.le_of_ble_eq_true rfl) (fun X _ hB _ => b_X11_laysClocks hp hB hF)
def f_X11_laysFrames_b85 (rec6 : Int32 → Int32 → Int32 → Mem → Option Mem) (rec38 : Int32 → Int32 → Int32 → Int32 → Int32 → Int32 → Mem → Option Mem) (x1 : Int32) (x2 : Int32) (x3 : Int32) (x4 : Int32) (x5 : Int32) (x6 : Int32) (M : Mem) : Option Mem :=
  gd (inb x4 160) <|
  cl (f_X11_has (M.1 339 x4.toNatClampNeg) x6 M) fun r1 M1m =>
  if r1 = 0 then
    bnd (x6 + 1) fun a1 =>
    rec38 x1 x2 x3 x4 x5 a1 M1m
  else
    clv (f_X11_atMost (6 + x6) x5 ((-(M1m.1 337 x4.toNatClampNeg)) - 1) M1m) fun M2m =>
    bnd (x6 + 1) fun a2 =>
    rec38 x1 x2 x3 x4 x5 a2 M2m
set_option maxRecDepth 100000 in
set_option maxHeartbeats 4000000 in
theorem b_X11_laysFrames_b85 {K : Kt} {X : Xt} (hp : St K) (hB : Bx K X { frames := 2, cells := 0, slots := 0, locals := 47 } cX11_laysFrames 7 RX11 none) {M1 : Mem} {rec6 : Int32 → Int32 → Int32 → Mem → Option Mem} {rec38 : Int32 → Int32 → Int32 → Int32 → Int32 → Int32 → Mem → Option Mem}
    (h6 : ∀ x1 x2 x3 M, rec6 x1 x2 x3 M = some M1 → Wt K X (QM K X none M1 0 0) 0 0 M 6 [(0, vr 311), (1, vi x1), (2, vi x2), (3, vi x3)] [])
    (h38 : ∀ x1 x2 x3 x4 x5 x6 M, rec38 x1 x2 x3 x4 x5 x6 M = some M1 → Wt K X (QM K X none M1 0 0) 0 0 M 38 [(0, vr 311), (1, vi x1), (2, vi x2), (3, vi x3), (4, vi x4), (5, vi x5), (6, vi x6)] []) {x1 : Int32} {x2 : Int32} {x3 : Int32} {x4 : Int32} {x5 : Int32} {x6 : Int32} {M : Mem} (hF : f_X11_laysFrames_b85 rec6 rec38 x1 x2 x3 x4 x5 x6 M = some M1) : Wt K X (QM K X none M1 0 0) 0 0 M 85 [(0, vr 311), (1, vi x1), (2, vi x2), (3, vi x3), (4, vi x4), (5, vi x5), (6, vi x6)] [] := by
  unfold f_X11_laysFrames_b85 at hF
  refine w_aload_n hB 0 dX11_laysFrames_85 rfl rfl ?_
  refine w_getC hB (v := 339) ff_X11_37 sh_311 hp.1 cr_311_37 (by decide) q_1197 dX11_laysFrames_86 ?_
  refine w_iload hB 4 dX11_laysFrames_89 rfl ?_
  obtain ⟨g1, hF⟩ := gdS hF
  refine w_iald hB sh_339 (Or.inl hp.1) sl_339 g1 dX11_laysFrames_91 ?_
  refine w_iload hB 6 dX11_laysFrames_92 rfl ?_
  obtain ⟨r1, M1m, hc_M1m, hF⟩ := clS hF
  refine w_callS hB (As := [vi (M.1 339 x4.toNatClampNeg), vi x6]) (st := []) cw_X11_266 q_1495 (c_X11_has hp hc_M1m) ⟨rfl, rfl⟩ (by decide) (by decide) rfl (Nat.le_of_ble_eq_true rfl) dX11_laysFrames_94 rfl ?_
  refine w_if_eq hB 121 dX11_laysFrames_97 (by decide) (fun hc => ?_) (fun hc => ?_)
  · replace hF := ifT hc hF
    obtain ⟨a1, e_a1, hF⟩ := bndS hF
    refine w_iinc hB 6 (v := 1) (L' := [(6, vi a1), (0, vr 311), (1, vi x1), (2, vi x2), (3, vi x3), (4, vi x4), (5, vi x5)]) dX11_laysFrames_121 rfl (by decide) (by decide) e_a1 rfl ?_
    refine w_goto hB 38 dX11_laysFrames_124 (by decide) ?_
    exact Wt.sub (L' := [(0, vr 311), (1, vi x1), (2, vi x2), (3, vi x3), (4, vi x4), (5, vi x5), (6, vi a1)]) [1, 2, 3, 4, 5, 6, 0] rfl (h38 _ _ _ _ _ _ M1m hF)
  · replace hF := ifF hc hF
    refine w_aload_n hB 0 dX11_laysFrames_100 rfl rfl ?_
    refine w_bipush hB 6 (by decide) dX11_laysFrames_101 ?_
    refine w_iload hB 6 dX11_laysFrames_103 rfl ?_
    refine w_iadd hB dX11_laysFrames_105 ?_
    refine w_iload hB 5 dX11_laysFrames_106 rfl ?_
    refine w_aload_n hB 0 dX11_laysFrames_108 rfl rfl ?_
    refine w_getC hB (v := 337) ff_X11_35 sh_311 hp.1 cr_311_35 (by decide) q_1195 dX11_laysFrames_109 ?_
    refine w_iload hB 4 dX11_laysFrames_112 rfl ?_
    refine w_iald hB sh_337 (Or.inl hp.1) sl_337 g1 dX11_laysFrames_114 ?_
    refine w_ineg hB dX11_laysFrames_115 ?_
    refine w_iconst hB 1 (by decide) dX11_laysFrames_116 ?_
    refine w_isub hB dX11_laysFrames_117 ?_
    obtain ⟨M2m, hc_M2m, hF⟩ := clvS hF
    refine w_callV hB (ci := 9) (As := [vi (6 + x6), vi x5, vi ((-(M1m.1 337 x4.toNatClampNeg)) - 1)]) (st := []) cw_X11_314 q_1524 q_51 rfl sh_311 (Or.inl hp.1) (c_X11_atMost hp hc_M2m) ⟨rfl, rfl⟩ (by decide) (by decide) rfl (Nat.le_of_ble_eq_true rfl) dX11_laysFrames_118 rfl ?_
    obtain ⟨a2, e_a2, hF⟩ := bndS hF
    refine w_iinc hB 6 (v := 1) (L' := [(6, vi a2), (0, vr 311), (1, vi x1), (2, vi x2), (3, vi x3), (4, vi x4), (5, vi x5)]) dX11_laysFrames_121 rfl (by decide) (by decide) e_a2 rfl ?_
    refine w_goto hB 38 dX11_laysFrames_124 (by decide) ?_
    exact Wt.sub (L' := [(0, vr 311), (1, vi x1), (2, vi x2), (3, vi x3), (4, vi x4), (5, vi x5), (6, vi a2)]) [1, 2, 3, 4, 5, 6, 0] rfl (h38 _ _ _ _ _ _ M2m hF)
def f_X11_laysFrames_b38_s (rec6 : Int32 → Int32 → Int32 → Mem → Option Mem) (rec38 : Int32 → Int32 → Int32 → Int32 → Int32 → Int32 → Mem → Option Mem) (x1 : Int32) (x2 : Int32) (x3 : Int32) (x4 : Int32) (x5 : Int32) (x6 : Int32) (M : Mem) : Option Mem :=
  if 4 ≤ x6 then
    bnd (x3 + 1) fun a1 =>
    rec6 x1 x2 a1 M
  else
    cl (f_X11_has x2 x3 M) fun r1 M1m =>
    if r1 = 0 then
      bnd (x3 + 1) fun a2 =>
      rec6 x1 x2 a2 M1m
    else
      gd (inb x4 160) <|
      cl (f_X11_has (M1m.1 338 x4.toNatClampNeg) x6 M1m) fun r2 M2m =>
      if r2 = 0 then
        f_X11_laysFrames_b85 rec6 rec38 x1 x2 x3 x4 x5 x6 M2m
      else
        clv (f_X11_atMost x5 (6 + x6) (M2m.1 337 x4.toNatClampNeg) M2m) fun M3m =>
        f_X11_laysFrames_b85 rec6 rec38 x1 x2 x3 x4 x5 x6 M3m
set_option maxRecDepth 100000 in
set_option maxHeartbeats 4000000 in
theorem b_X11_laysFrames_b38_s {K : Kt} {X : Xt} (hp : St K) (hB : Bx K X { frames := 2, cells := 0, slots := 0, locals := 47 } cX11_laysFrames 7 RX11 none) {M1 : Mem} {rec6 : Int32 → Int32 → Int32 → Mem → Option Mem} {rec38 : Int32 → Int32 → Int32 → Int32 → Int32 → Int32 → Mem → Option Mem}
    (h6 : ∀ x1 x2 x3 M, rec6 x1 x2 x3 M = some M1 → Wt K X (QM K X none M1 0 0) 0 0 M 6 [(0, vr 311), (1, vi x1), (2, vi x2), (3, vi x3)] [])
    (h38 : ∀ x1 x2 x3 x4 x5 x6 M, rec38 x1 x2 x3 x4 x5 x6 M = some M1 → Wt K X (QM K X none M1 0 0) 0 0 M 38 [(0, vr 311), (1, vi x1), (2, vi x2), (3, vi x3), (4, vi x4), (5, vi x5), (6, vi x6)] []) {x1 : Int32} {x2 : Int32} {x3 : Int32} {x4 : Int32} {x5 : Int32} {x6 : Int32} {M : Mem} (hF : f_X11_laysFrames_b38_s rec6 rec38 x1 x2 x3 x4 x5 x6 M = some M1) : Wt K X (QM K X none M1 0 0) 0 0 M 38 [(0, vr 311), (1, vi x1), (2, vi x2), (3, vi x3), (4, vi x4), (5, vi x5), (6, vi x6)] [] := by
  unfold f_X11_laysFrames_b38_s at hF
  refine w_iload hB 6 dX11_laysFrames_38 rfl ?_
  refine w_iconst hB 4 (by decide) dX11_laysFrames_40 ?_
  refine w_icmp_ge hB 127 dX11_laysFrames_41 (by decide) (fun hc => ?_) (fun hc => ?_)
  · replace hF := ifT hc hF
    obtain ⟨a1, e_a1, hF⟩ := bndS hF
    refine w_iinc hB 3 (v := 1) (L' := [(3, vi a1), (0, vr 311), (1, vi x1), (2, vi x2), (4, vi x4), (5, vi x5), (6, vi x6)]) dX11_laysFrames_127 rfl (by decide) (by decide) e_a1 rfl ?_
    refine w_goto hB 6 dX11_laysFrames_130 (by decide) ?_
    exact Wt.sub (L' := [(0, vr 311), (1, vi x1), (2, vi x2), (3, vi a1)]) [1, 2, 3, 0] rfl (h6 _ _ _ M hF)
  · replace hF := ifF hc hF
    refine w_iload_n hB 2 dX11_laysFrames_44 rfl rfl ?_
    refine w_iload_n hB 3 dX11_laysFrames_45 rfl rfl ?_
    obtain ⟨r1, M1m, hc_M1m, hF⟩ := clS hF
    refine w_callS hB (As := [vi x2, vi x3]) (st := []) cw_X11_266 q_1495 (c_X11_has hp hc_M1m) ⟨rfl, rfl⟩ (by decide) (by decide) rfl (Nat.le_of_ble_eq_true rfl) dX11_laysFrames_46 rfl ?_
    refine w_if_eq hB 127 dX11_laysFrames_49 (by decide) (fun hc => ?_) (fun hc => ?_)
    · replace hF := ifT hc hF
      obtain ⟨a2, e_a2, hF⟩ := bndS hF
      refine w_iinc hB 3 (v := 1) (L' := [(3, vi a2), (0, vr 311), (1, vi x1), (2, vi x2), (4, vi x4), (5, vi x5), (6, vi x6)]) dX11_laysFrames_127 rfl (by decide) (by decide) e_a2 rfl ?_
      refine w_goto hB 6 dX11_laysFrames_130 (by decide) ?_
      exact Wt.sub (L' := [(0, vr 311), (1, vi x1), (2, vi x2), (3, vi a2)]) [1, 2, 3, 0] rfl (h6 _ _ _ M1m hF)
    · replace hF := ifF hc hF
      refine w_aload_n hB 0 dX11_laysFrames_52 rfl rfl ?_
      refine w_getC hB (v := 338) ff_X11_36 sh_311 hp.1 cr_311_36 (by decide) q_1196 dX11_laysFrames_53 ?_
      refine w_iload hB 4 dX11_laysFrames_56 rfl ?_
      obtain ⟨g1, hF⟩ := gdS hF
      refine w_iald hB sh_338 (Or.inl hp.1) sl_338 g1 dX11_laysFrames_58 ?_
      refine w_iload hB 6 dX11_laysFrames_59 rfl ?_
      obtain ⟨r2, M2m, hc_M2m, hF⟩ := clS hF
      refine w_callS hB (As := [vi (M1m.1 338 x4.toNatClampNeg), vi x6]) (st := []) cw_X11_266 q_1495 (c_X11_has hp hc_M2m) ⟨rfl, rfl⟩ (by decide) (by decide) rfl (Nat.le_of_ble_eq_true rfl) dX11_laysFrames_61 rfl ?_
      refine w_if_eq hB 85 dX11_laysFrames_64 (by decide) (fun hc => ?_) (fun hc => ?_)
      · replace hF := ifT hc hF
        exact Wt.sub (L' := [(0, vr 311), (1, vi x1), (2, vi x2), (3, vi x3), (4, vi x4), (5, vi x5), (6, vi x6)]) [0, 1, 2, 3, 4, 5, 6] rfl (b_X11_laysFrames_b85 hp hB h6 h38 hF)
      · replace hF := ifF hc hF
        refine w_aload_n hB 0 dX11_laysFrames_67 rfl rfl ?_
        refine w_iload hB 5 dX11_laysFrames_68 rfl ?_
        refine w_bipush hB 6 (by decide) dX11_laysFrames_70 ?_
        refine w_iload hB 6 dX11_laysFrames_72 rfl ?_
        refine w_iadd hB dX11_laysFrames_74 ?_
        refine w_aload_n hB 0 dX11_laysFrames_75 rfl rfl ?_
        refine w_getC hB (v := 337) ff_X11_35 sh_311 hp.1 cr_311_35 (by decide) q_1195 dX11_laysFrames_76 ?_
        refine w_iload hB 4 dX11_laysFrames_79 rfl ?_
        refine w_iald hB sh_337 (Or.inl hp.1) sl_337 g1 dX11_laysFrames_81 ?_
        obtain ⟨M3m, hc_M3m, hF⟩ := clvS hF
        refine w_callV hB (ci := 9) (As := [vi x5, vi (6 + x6), vi (M2m.1 337 x4.toNatClampNeg)]) (st := []) cw_X11_314 q_1524 q_51 rfl sh_311 (Or.inl hp.1) (c_X11_atMost hp hc_M3m) ⟨rfl, rfl⟩ (by decide) (by decide) rfl (Nat.le_of_ble_eq_true rfl) dX11_laysFrames_82 rfl ?_
        exact Wt.sub (L' := [(0, vr 311), (1, vi x1), (2, vi x2), (3, vi x3), (4, vi x4), (5, vi x5), (6, vi x6)]) [0, 1, 2, 3, 4, 5, 6] rfl (b_X11_laysFrames_b85 hp hB h6 h38 hF)
def f_X11_laysFrames_b38 (rec6 : Int32 → Int32 → Int32 → Mem → Option Mem) (k : Nat) : Int32 → Int32 → Int32 → Int32 → Int32 → Int32 → Mem → Option Mem := lpN (fun _ _ _ _ _ _ _ => none) (f_X11_laysFrames_b38_s rec6) k
theorem b_X11_laysFrames_b38 {K : Kt} {X : Xt} (hp : St K) (hB : Bx K X { frames := 2, cells := 0, slots := 0, locals := 47 } cX11_laysFrames 7 RX11 none) {M1 : Mem} {rec6 : Int32 → Int32 → Int32 → Mem → Option Mem}
    (h6 : ∀ x1 x2 x3 M, rec6 x1 x2 x3 M = some M1 → Wt K X (QM K X none M1 0 0) 0 0 M 6 [(0, vr 311), (1, vi x1), (2, vi x2), (3, vi x3)] []) (k : Nat) : ∀ (x1 : Int32) (x2 : Int32) (x3 : Int32) (x4 : Int32) (x5 : Int32) (x6 : Int32) M, f_X11_laysFrames_b38 rec6 k x1 x2 x3 x4 x5 x6 M = some M1 → Wt K X (QM K X none M1 0 0) 0 0 M 38 [(0, vr 311), (1, vi x1), (2, vi x2), (3, vi x3), (4, vi x4), (5, vi x5), (6, vi x6)] [] := by
  refine lpN_ind (P := fun (f : Int32 → Int32 → Int32 → Int32 → Int32 → Int32 → Mem → Option Mem) => ∀ (x1 : Int32) (x2 : Int32) (x3 : Int32) (x4 : Int32) (x5 : Int32) (x6 : Int32) M, f x1 x2 x3 x4 x5 x6 M = some M1 → Wt K X (QM K X none M1 0 0) 0 0 M 38 [(0, vr 311), (1, vi x1), (2, vi x2), (3, vi x3), (4, vi x4), (5, vi x5), (6, vi x6)] []) (fun _ _ _ _ _ _ _ h => by cases h) (fun f hf x1 x2 x3 x4 x5 x6 M hF => ?_) k
  exact b_X11_laysFrames_b38_s hp hB h6 hf hF
def f_X11_laysFrames_b6_s (rec6 : Int32 → Int32 → Int32 → Mem → Option Mem) (x1 : Int32) (x2 : Int32) (x3 : Int32) (M : Mem) : Option Mem :=
  gd (inb x1 16) <|
  if (M.1 335 x1.toNatClampNeg) ≤ x3 then
    some M
  else
    bnd ((10 * x1) + x3) fun a1 =>
    gd (inb a1 160) <|
    bnd (1 + (M.1 336 a1.toNatClampNeg)) fun a2 =>
    f_X11_laysFrames_b38 rec6 fuel x1 x2 x3 a1 a2 0 M
set_option maxRecDepth 100000 in
set_option maxHeartbeats 4000000 in
theorem b_X11_laysFrames_b6_s {K : Kt} {X : Xt} (hp : St K) (hB : Bx K X { frames := 2, cells := 0, slots := 0, locals := 47 } cX11_laysFrames 7 RX11 none) {M1 : Mem} {rec6 : Int32 → Int32 → Int32 → Mem → Option Mem}
    (h6 : ∀ x1 x2 x3 M, rec6 x1 x2 x3 M = some M1 → Wt K X (QM K X none M1 0 0) 0 0 M 6 [(0, vr 311), (1, vi x1), (2, vi x2), (3, vi x3)] []) {x1 : Int32} {x2 : Int32} {x3 : Int32} {M : Mem} (hF : f_X11_laysFrames_b6_s rec6 x1 x2 x3 M = some M1) : Wt K X (QM K X none M1 0 0) 0 0 M 6 [(0, vr 311), (1, vi x1), (2, vi x2), (3, vi x3)] [] := by
  unfold f_X11_laysFrames_b6_s at hF
  refine w_iload_n hB 3 dX11_laysFrames_6 rfl rfl ?_
  refine w_aload_n hB 0 dX11_laysFrames_7 rfl rfl ?_
  refine w_getC hB (v := 335) ff_X11_33 sh_311 hp.1 cr_311_33 (by decide) q_1193 dX11_laysFrames_8 ?_
  refine w_iload_n hB 1 dX11_laysFrames_11 rfl rfl ?_
  obtain ⟨g1, hF⟩ := gdS hF
  refine w_iald hB sh_335 (Or.inl hp.1) sl_335 g1 dX11_laysFrames_12 ?_
  refine w_icmp_ge hB 133 dX11_laysFrames_13 (by decide) (fun hc => ?_) (fun hc => ?_)
  · replace hF := ifT hc hF
    cases hF
    exact w_vret hB dX11_laysFrames_133
  · replace hF := ifF hc hF
    refine w_bipush hB 10 (by decide) dX11_laysFrames_16 ?_
    refine w_iload_n hB 1 dX11_laysFrames_18 rfl rfl ?_
    refine w_imul hB dX11_laysFrames_19 ?_
    refine w_iload_n hB 3 dX11_laysFrames_20 rfl rfl ?_
    refine w_iadd hB dX11_laysFrames_21 ?_
    obtain ⟨a1, e_a1, hF⟩ := bndS hF
    refine w_istore hB (L' := [(4, vi a1), (0, vr 311), (1, vi x1), (2, vi x2), (3, vi x3)]) dX11_laysFrames_22 (by decide) e_a1 rfl ?_
    refine w_iconst hB 1 (by decide) dX11_laysFrames_24 ?_
    refine w_aload_n hB 1 dX11_laysFrames_25 rfl rfl ?_
    refine w_getC hB (v := 336) ff_X11_34 sh_311 hp.1 cr_311_34 (by decide) q_1194 dX11_laysFrames_26 ?_
    refine w_iload hB 0 dX11_laysFrames_29 rfl ?_
    obtain ⟨g2, hF⟩ := gdS hF
    refine w_iald hB sh_336 (Or.inl hp.1) sl_336 g2 dX11_laysFrames_31 ?_
    refine w_iadd hB dX11_laysFrames_32 ?_
    obtain ⟨a2, e_a2, hF⟩ := bndS hF
    refine w_istore hB (L' := [(5, vi a2), (4, vi a1), (0, vr 311), (1, vi x1), (2, vi x2), (3, vi x3)]) dX11_laysFrames_33 (by decide) e_a2 rfl ?_
    refine w_iconst hB 0 (by decide) dX11_laysFrames_35 ?_
    refine w_istore hB (L' := [(6, vi 0), (5, vi a2), (4, vi a1), (0, vr 311), (1, vi x1), (2, vi x2), (3, vi x3)]) dX11_laysFrames_36 (by decide) rfl rfl ?_
    exact Wt.sub (L' := [(0, vr 311), (1, vi x1), (2, vi x2), (3, vi x3), (4, vi a1), (5, vi a2), (6, vi 0)]) [3, 4, 5, 6, 2, 1, 0] rfl (b_X11_laysFrames_b38 hp hB h6 fuel _ _ _ _ _ _ M hF)
def f_X11_laysFrames_b6 (k : Nat) : Int32 → Int32 → Int32 → Mem → Option Mem := lpN (fun _ _ _ _ => none) (f_X11_laysFrames_b6_s) k
theorem b_X11_laysFrames_b6 {K : Kt} {X : Xt} (hp : St K) (hB : Bx K X { frames := 2, cells := 0, slots := 0, locals := 47 } cX11_laysFrames 7 RX11 none) {M1 : Mem} (k : Nat) : ∀ (x1 : Int32) (x2 : Int32) (x3 : Int32) M, f_X11_laysFrames_b6 k x1 x2 x3 M = some M1 → Wt K X (QM K X none M1 0 0) 0 0 M 6 [(0, vr 311), (1, vi x1), (2, vi x2), (3, vi x3)] [] := by
  refine lpN_ind (P := fun (f : Int32 → Int32 → Int32 → Mem → Option Mem) => ∀ (x1 : Int32) (x2 : Int32) (x3 : Int32) M, f x1 x2 x3 M = some M1 → Wt K X (QM K X none M1 0 0) 0 0 M 6 [(0, vr 311), (1, vi x1), (2, vi x2), (3, vi x3)] []) (fun _ _ _ _ h => by cases h) (fun f hf x1 x2 x3 M hF => ?_) k
  exact b_X11_laysFrames_b6_s hp hB hf hF
def f_X11_laysFrames (x1 : Int32) (x2 : Int32) (M : Mem) : Option Mem :=
  clv (f_X11_laysClocks M) fun M1m =>
  f_X11_laysFrames_b6 fuel x1 x2 0 M1m
set_option maxRecDepth 100000 in
set_option maxHeartbeats 4000000 in
theorem b_X11_laysFrames {K : Kt} {X : Xt} (hp : St K) (hB : Bx K X { frames := 2, cells := 0, slots := 0, locals := 47 } cX11_laysFrames 7 RX11 none) {M1 : Mem} {x1 : Int32} {x2 : Int32} {M : Mem} (hF : f_X11_laysFrames x1 x2 M = some M1) : Wt K X (QM K X none M1 0 0) 0 0 M 0 [(0, vr 311), (1, vi x1), (2, vi x2)] [] := by
  unfold f_X11_laysFrames at hF
  refine w_aload_n hB 0 dX11_laysFrames_0 rfl rfl ?_
  obtain ⟨M1m, hc_M1m, hF⟩ := clvS hF
  refine w_callV hB (ci := 9) (As := []) (st := []) cw_X11_318 q_1519 q_50 rfl sh_311 (Or.inl hp.1) (c_X11_laysClocks hp hc_M1m) ⟨rfl, rfl⟩ (by decide) (by decide) rfl (Nat.le_of_ble_eq_true rfl) dX11_laysFrames_1 rfl ?_
  refine w_iconst hB 0 (by decide) dX11_laysFrames_4 ?_
  refine w_istore_n hB (L' := [(3, vi 0), (0, vr 311), (1, vi x1), (2, vi x2)]) dX11_laysFrames_5 rfl (by decide) rfl rfl ?_
  exact Wt.sub (L' := [(0, vr 311), (1, vi x1), (2, vi x2), (3, vi 0)]) [1, 2, 3, 0] rfl (b_X11_laysFrames_b6 hp hB fuel _ _ _ M1m hF)
theorem c_X11_laysFrames {K : Kt} {l : Launch} (hp : St K) {M1 : Mem} {x1 : Int32} {x2 : Int32} {M : Mem} (hF : f_X11_laysFrames x1 x2 M = some M1) : MT K l yX11_laysFrames cX11_laysFrames 7 none { frames := 2, cells := 0, slots := 0, locals := 47 } [vr 311, vi x1, vi x2] M none M1 0 0 :=
  MT_of (by decide) rfl (Nat.le_of_ble_eq_true rfl) (fun X _ hB _ => b_X11_laysFrames hp hB hF)
def f_X11_closes_b110_s (rec110 : Int32 → Mem → Option (Int32 × Mem)) (x1 : Int32) (M : Mem) : Option (Int32 × Mem) :=
  if 10 ≤ x1 then
    some (1, M)
  else
    gd (inb (11 * x1) 100) <|
    if 0 ≤ (M.1 344 (11 * x1).toNatClampNeg) then
      bnd (x1 + 1) fun a1 =>
      rec110 a1 M
    else
      some (0, M)
set_option maxRecDepth 100000 in
set_option maxHeartbeats 4000000 in
theorem b_X11_closes_b110_s {K : Kt} {X : Xt} (hp : St K) (hB : Bx K X { frames := 1, cells := 0, slots := 0, locals := 23 } cX11_closes 4 RX11 (some .boolean)) {r : Int32} {M1 : Mem} {rec110 : Int32 → Mem → Option (Int32 × Mem)}
    (h110 : ∀ x1 M, rec110 x1 M = some (r, M1) → Wt K X (QM K X (some (vi r)) M1 0 0) 0 0 M 110 [(0, vr 311), (1, vi x1)] []) {x1 : Int32} {M : Mem} (hF : f_X11_closes_b110_s rec110 x1 M = some (r, M1)) : Wt K X (QM K X (some (vi r)) M1 0 0) 0 0 M 110 [(0, vr 311), (1, vi x1)] [] := by
  unfold f_X11_closes_b110_s at hF
  refine w_iload_n hB 1 dX11_closes_110 rfl rfl ?_
  refine w_bipush hB 10 (by decide) dX11_closes_111 ?_
  refine w_icmp_ge hB 136 dX11_closes_113 (by decide) (fun hc => ?_) (fun hc => ?_)
  · replace hF := ifT hc hF
    refine w_iconst hB 1 (by decide) dX11_closes_136 ?_
    obtain ⟨e1, e2⟩ := retS hF
    subst e2
    exact w_zret hB (by decide) dX11_closes_137 e1
  · replace hF := ifF hc hF
    refine w_aload_n hB 0 dX11_closes_116 rfl rfl ?_
    refine w_getC hB (v := 344) ff_X11_43 sh_311 hp.1 cr_311_43 (by decide) q_1203 dX11_closes_117 ?_
    refine w_bipush hB 11 (by decide) dX11_closes_120 ?_
    refine w_iload_n hB 1 dX11_closes_122 rfl rfl ?_
    refine w_imul hB dX11_closes_123 ?_
    obtain ⟨g1, hF⟩ := gdS hF
    refine w_iald hB sh_344 (Or.inl hp.1) sl_344 g1 dX11_closes_124 ?_
    refine w_if_ge hB 130 dX11_closes_125 (by decide) (fun hc => ?_) (fun hc => ?_)
    · replace hF := ifT hc hF
      obtain ⟨a1, e_a1, hF⟩ := bndS hF
      refine w_iinc hB 1 (v := 1) (L' := [(1, vi a1), (0, vr 311)]) dX11_closes_130 rfl (by decide) (by decide) e_a1 rfl ?_
      refine w_goto hB 110 dX11_closes_133 (by decide) ?_
      exact Wt.sub (L' := [(0, vr 311), (1, vi a1)]) [1, 0] rfl (h110 _ M hF)
    · replace hF := ifF hc hF
      refine w_iconst hB 0 (by decide) dX11_closes_128 ?_
      obtain ⟨e1, e2⟩ := retS hF
      subst e2
      exact w_zret hB (by decide) dX11_closes_129 e1
def f_X11_closes_b110 (k : Nat) : Int32 → Mem → Option (Int32 × Mem) := lpN (fun _ _ => none) (f_X11_closes_b110_s) k
theorem b_X11_closes_b110 {K : Kt} {X : Xt} (hp : St K) (hB : Bx K X { frames := 1, cells := 0, slots := 0, locals := 23 } cX11_closes 4 RX11 (some .boolean)) {r : Int32} {M1 : Mem} (k : Nat) : ∀ (x1 : Int32) M, f_X11_closes_b110 k x1 M = some (r, M1) → Wt K X (QM K X (some (vi r)) M1 0 0) 0 0 M 110 [(0, vr 311), (1, vi x1)] [] := by
  refine lpN_ind (P := fun (f : Int32 → Mem → Option (Int32 × Mem)) => ∀ (x1 : Int32) M, f x1 M = some (r, M1) → Wt K X (QM K X (some (vi r)) M1 0 0) 0 0 M 110 [(0, vr 311), (1, vi x1)] []) (fun _ _ h => by cases h) (fun f hf x1 M hF => ?_) k
  exact b_X11_closes_b110_s hp hB hf hF
def f_X11_closes_b38_s (rec2 : Int32 → Mem → Option (Int32 × Mem)) (rec10 : Int32 → Int32 → Mem → Option (Int32 × Mem)) (rec38 : Int32 → Int32 → Int32 → Mem → Option (Int32 × Mem)) (x1 : Int32) (x2 : Int32) (x3 : Int32) (M : Mem) : Option (Int32 × Mem) :=
  if 10 ≤ x3 then
    bnd (x2 + 1) fun a1 =>
    rec10 x1 a1 M
  else
    gd (inb ((10 * x1) + x3) 100) <|
    if 100000000 ≤ (M.1 344 ((10 * x1) + x3).toNatClampNeg) then
      bnd (x3 + 1) fun a2 =>
      rec38 x1 x2 a2 M
    else
      gd (inb ((10 * x2) + x1) 100) <|
      clv (f_X11_atMost x2 x3 ((M.1 344 ((10 * x2) + x1).toNatClampNeg) + (M.1 344 ((10 * x1) + x3).toNatClampNeg)) M) fun M1m =>
      bnd (x3 + 1) fun a3 =>
      rec38 x1 x2 a3 M1m
set_option maxRecDepth 100000 in
set_option maxHeartbeats 4000000 in
theorem b_X11_closes_b38_s {K : Kt} {X : Xt} (hp : St K) (hB : Bx K X { frames := 1, cells := 0, slots := 0, locals := 23 } cX11_closes 4 RX11 (some .boolean)) {r : Int32} {M1 : Mem} {rec2 : Int32 → Mem → Option (Int32 × Mem)} {rec10 : Int32 → Int32 → Mem → Option (Int32 × Mem)} {rec38 : Int32 → Int32 → Int32 → Mem → Option (Int32 × Mem)}
    (h2 : ∀ x1 M, rec2 x1 M = some (r, M1) → Wt K X (QM K X (some (vi r)) M1 0 0) 0 0 M 2 [(0, vr 311), (1, vi x1)] [])
    (h10 : ∀ x1 x2 M, rec10 x1 x2 M = some (r, M1) → Wt K X (QM K X (some (vi r)) M1 0 0) 0 0 M 10 [(0, vr 311), (1, vi x1), (2, vi x2)] [])
    (h38 : ∀ x1 x2 x3 M, rec38 x1 x2 x3 M = some (r, M1) → Wt K X (QM K X (some (vi r)) M1 0 0) 0 0 M 38 [(0, vr 311), (1, vi x1), (2, vi x2), (3, vi x3)] []) {x1 : Int32} {x2 : Int32} {x3 : Int32} {M : Mem} (hF : f_X11_closes_b38_s rec2 rec10 rec38 x1 x2 x3 M = some (r, M1)) : Wt K X (QM K X (some (vi r)) M1 0 0) 0 0 M 38 [(0, vr 311), (1, vi x1), (2, vi x2), (3, vi x3)] [] := by
  unfold f_X11_closes_b38_s at hF
  refine w_iload_n hB 3 dX11_closes_38 rfl rfl ?_
  refine w_bipush hB 10 (by decide) dX11_closes_39 ?_
  refine w_icmp_ge hB 96 dX11_closes_41 (by decide) (fun hc => ?_) (fun hc => ?_)
  · replace hF := ifT hc hF
    obtain ⟨a1, e_a1, hF⟩ := bndS hF
    refine w_iinc hB 2 (v := 1) (L' := [(2, vi a1), (0, vr 311), (1, vi x1), (3, vi x3)]) dX11_closes_96 rfl (by decide) (by decide) e_a1 rfl ?_
    refine w_goto hB 10 dX11_closes_99 (by decide) ?_
    exact Wt.sub (L' := [(0, vr 311), (1, vi x1), (2, vi a1)]) [1, 2, 0] rfl (h10 _ _ M hF)
  · replace hF := ifF hc hF
    refine w_aload_n hB 0 dX11_closes_44 rfl rfl ?_
    refine w_getC hB (v := 344) ff_X11_43 sh_311 hp.1 cr_311_43 (by decide) q_1203 dX11_closes_45 ?_
    refine w_bipush hB 10 (by decide) dX11_closes_48 ?_
    refine w_iload_n hB 1 dX11_closes_50 rfl rfl ?_
    refine w_imul hB dX11_closes_51 ?_
    refine w_iload_n hB 3 dX11_closes_52 rfl rfl ?_
    refine w_iadd hB dX11_closes_53 ?_
    obtain ⟨g1, hF⟩ := gdS hF
    refine w_iald hB sh_344 (Or.inl hp.1) sl_344 g1 dX11_closes_54 ?_
    refine w_ldcw hB (v := 100000000) q_1521 dX11_closes_55 ?_
    refine w_icmp_ge hB 90 dX11_closes_58 (by decide) (fun hc => ?_) (fun hc => ?_)
    · replace hF := ifT hc hF
      obtain ⟨a2, e_a2, hF⟩ := bndS hF
      refine w_iinc hB 3 (v := 1) (L' := [(3, vi a2), (0, vr 311), (1, vi x1), (2, vi x2)]) dX11_closes_90 rfl (by decide) (by decide) e_a2 rfl ?_
      refine w_goto hB 38 dX11_closes_93 (by decide) ?_
      exact Wt.sub (L' := [(0, vr 311), (1, vi x1), (2, vi x2), (3, vi a2)]) [1, 2, 3, 0] rfl (h38 _ _ _ M hF)
    · replace hF := ifF hc hF
      refine w_aload_n hB 0 dX11_closes_61 rfl rfl ?_
      refine w_iload_n hB 2 dX11_closes_62 rfl rfl ?_
      refine w_iload_n hB 3 dX11_closes_63 rfl rfl ?_
      refine w_aload_n hB 0 dX11_closes_64 rfl rfl ?_
      refine w_getC hB (v := 344) ff_X11_43 sh_311 hp.1 cr_311_43 (by decide) q_1203 dX11_closes_65 ?_
      refine w_bipush hB 10 (by decide) dX11_closes_68 ?_
      refine w_iload_n hB 2 dX11_closes_70 rfl rfl ?_
      refine w_imul hB dX11_closes_71 ?_
      refine w_iload_n hB 1 dX11_closes_72 rfl rfl ?_
      refine w_iadd hB dX11_closes_73 ?_
      obtain ⟨g2, hF⟩ := gdS hF
      refine w_iald hB sh_344 (Or.inl hp.1) sl_344 g2 dX11_closes_74 ?_
      refine w_aload_n hB 0 dX11_closes_75 rfl rfl ?_
      refine w_getC hB (v := 344) ff_X11_43 sh_311 hp.1 cr_311_43 (by decide) q_1203 dX11_closes_76 ?_
      refine w_bipush hB 10 (by decide) dX11_closes_79 ?_
      refine w_iload_n hB 1 dX11_closes_81 rfl rfl ?_
      refine w_imul hB dX11_closes_82 ?_
      refine w_iload_n hB 3 dX11_closes_83 rfl rfl ?_
      refine w_iadd hB dX11_closes_84 ?_
      refine w_iald hB sh_344 (Or.inl hp.1) sl_344 g1 dX11_closes_85 ?_
      refine w_iadd hB dX11_closes_86 ?_
      obtain ⟨M1m, hc_M1m, hF⟩ := clvS hF
      refine w_callV hB (ci := 9) (As := [vi x2, vi x3, vi ((M.1 344 ((10 * x2) + x1).toNatClampNeg) + (M.1 344 ((10 * x1) + x3).toNatClampNeg))]) (st := []) cw_X11_314 q_1524 q_51 rfl sh_311 (Or.inl hp.1) (c_X11_atMost hp hc_M1m) ⟨rfl, rfl⟩ (by decide) (by decide) rfl (Nat.le_of_ble_eq_true rfl) dX11_closes_87 rfl ?_
      obtain ⟨a3, e_a3, hF⟩ := bndS hF
      refine w_iinc hB 3 (v := 1) (L' := [(3, vi a3), (0, vr 311), (1, vi x1), (2, vi x2)]) dX11_closes_90 rfl (by decide) (by decide) e_a3 rfl ?_
      refine w_goto hB 38 dX11_closes_93 (by decide) ?_
      exact Wt.sub (L' := [(0, vr 311), (1, vi x1), (2, vi x2), (3, vi a3)]) [1, 2, 3, 0] rfl (h38 _ _ _ M1m hF)
def f_X11_closes_b38 (rec2 : Int32 → Mem → Option (Int32 × Mem)) (rec10 : Int32 → Int32 → Mem → Option (Int32 × Mem)) (k : Nat) : Int32 → Int32 → Int32 → Mem → Option (Int32 × Mem) := lpN (fun _ _ _ _ => none) (f_X11_closes_b38_s rec2 rec10) k
theorem b_X11_closes_b38 {K : Kt} {X : Xt} (hp : St K) (hB : Bx K X { frames := 1, cells := 0, slots := 0, locals := 23 } cX11_closes 4 RX11 (some .boolean)) {r : Int32} {M1 : Mem} {rec2 : Int32 → Mem → Option (Int32 × Mem)} {rec10 : Int32 → Int32 → Mem → Option (Int32 × Mem)}
    (h2 : ∀ x1 M, rec2 x1 M = some (r, M1) → Wt K X (QM K X (some (vi r)) M1 0 0) 0 0 M 2 [(0, vr 311), (1, vi x1)] [])
    (h10 : ∀ x1 x2 M, rec10 x1 x2 M = some (r, M1) → Wt K X (QM K X (some (vi r)) M1 0 0) 0 0 M 10 [(0, vr 311), (1, vi x1), (2, vi x2)] []) (k : Nat) : ∀ (x1 : Int32) (x2 : Int32) (x3 : Int32) M, f_X11_closes_b38 rec2 rec10 k x1 x2 x3 M = some (r, M1) → Wt K X (QM K X (some (vi r)) M1 0 0) 0 0 M 38 [(0, vr 311), (1, vi x1), (2, vi x2), (3, vi x3)] [] := by
  refine lpN_ind (P := fun (f : Int32 → Int32 → Int32 → Mem → Option (Int32 × Mem)) => ∀ (x1 : Int32) (x2 : Int32) (x3 : Int32) M, f x1 x2 x3 M = some (r, M1) → Wt K X (QM K X (some (vi r)) M1 0 0) 0 0 M 38 [(0, vr 311), (1, vi x1), (2, vi x2), (3, vi x3)] []) (fun _ _ _ _ h => by cases h) (fun f hf x1 x2 x3 M hF => ?_) k
  exact b_X11_closes_b38_s hp hB h2 h10 hf hF
def f_X11_closes_b10_s (rec2 : Int32 → Mem → Option (Int32 × Mem)) (rec10 : Int32 → Int32 → Mem → Option (Int32 × Mem)) (x1 : Int32) (x2 : Int32) (M : Mem) : Option (Int32 × Mem) :=
  if 10 ≤ x2 then
    bnd (x1 + 1) fun a1 =>
    rec2 a1 M
  else
    gd (inb ((10 * x2) + x1) 100) <|
    if (M.1 344 ((10 * x2) + x1).toNatClampNeg) = 100000000 then
      bnd (x2 + 1) fun a2 =>
      rec10 x1 a2 M
    else
      f_X11_closes_b38 rec2 rec10 fuel x1 x2 0 M
set_option maxRecDepth 100000 in
set_option maxHeartbeats 4000000 in
theorem b_X11_closes_b10_s {K : Kt} {X : Xt} (hp : St K) (hB : Bx K X { frames := 1, cells := 0, slots := 0, locals := 23 } cX11_closes 4 RX11 (some .boolean)) {r : Int32} {M1 : Mem} {rec2 : Int32 → Mem → Option (Int32 × Mem)} {rec10 : Int32 → Int32 → Mem → Option (Int32 × Mem)}
    (h2 : ∀ x1 M, rec2 x1 M = some (r, M1) → Wt K X (QM K X (some (vi r)) M1 0 0) 0 0 M 2 [(0, vr 311), (1, vi x1)] [])
    (h10 : ∀ x1 x2 M, rec10 x1 x2 M = some (r, M1) → Wt K X (QM K X (some (vi r)) M1 0 0) 0 0 M 10 [(0, vr 311), (1, vi x1), (2, vi x2)] []) {x1 : Int32} {x2 : Int32} {M : Mem} (hF : f_X11_closes_b10_s rec2 rec10 x1 x2 M = some (r, M1)) : Wt K X (QM K X (some (vi r)) M1 0 0) 0 0 M 10 [(0, vr 311), (1, vi x1), (2, vi x2)] [] := by
  unfold f_X11_closes_b10_s at hF
  refine w_iload_n hB 2 dX11_closes_10 rfl rfl ?_
  refine w_bipush hB 10 (by decide) dX11_closes_11 ?_
  refine w_icmp_ge hB 102 dX11_closes_13 (by decide) (fun hc => ?_) (fun hc => ?_)
  · replace hF := ifT hc hF
    obtain ⟨a1, e_a1, hF⟩ := bndS hF
    refine w_iinc hB 1 (v := 1) (L' := [(1, vi a1), (0, vr 311), (2, vi x2)]) dX11_closes_102 rfl (by decide) (by decide) e_a1 rfl ?_
    refine w_goto hB 2 dX11_closes_105 (by decide) ?_
    exact Wt.sub (L' := [(0, vr 311), (1, vi a1)]) [1, 0] rfl (h2 _ M hF)
  · replace hF := ifF hc hF
    refine w_aload_n hB 0 dX11_closes_16 rfl rfl ?_
    refine w_getC hB (v := 344) ff_X11_43 sh_311 hp.1 cr_311_43 (by decide) q_1203 dX11_closes_17 ?_
    refine w_bipush hB 10 (by decide) dX11_closes_20 ?_
    refine w_iload_n hB 2 dX11_closes_22 rfl rfl ?_
    refine w_imul hB dX11_closes_23 ?_
    refine w_iload_n hB 1 dX11_closes_24 rfl rfl ?_
    refine w_iadd hB dX11_closes_25 ?_
    obtain ⟨g1, hF⟩ := gdS hF
    refine w_iald hB sh_344 (Or.inl hp.1) sl_344 g1 dX11_closes_26 ?_
    refine w_ldcw hB (v := 100000000) q_1521 dX11_closes_27 ?_
    refine w_icmp_ne hB 36 dX11_closes_30 (by decide) (fun hc => ?_) (fun hc => ?_)
    · replace hF := ifF hc hF
      refine w_iconst hB 0 (by decide) dX11_closes_36 ?_
      refine w_istore_n hB (L' := [(3, vi 0), (0, vr 311), (1, vi x1), (2, vi x2)]) dX11_closes_37 rfl (by decide) rfl rfl ?_
      exact Wt.sub (L' := [(0, vr 311), (1, vi x1), (2, vi x2), (3, vi 0)]) [1, 2, 3, 0] rfl (b_X11_closes_b38 hp hB h2 h10 fuel _ _ _ M hF)
    · replace hF := ifT hc hF
      refine w_goto hB 96 dX11_closes_33 (by decide) ?_
      obtain ⟨a2, e_a2, hF⟩ := bndS hF
      refine w_iinc hB 2 (v := 1) (L' := [(2, vi a2), (0, vr 311), (1, vi x1)]) dX11_closes_96 rfl (by decide) (by decide) e_a2 rfl ?_
      refine w_goto hB 10 dX11_closes_99 (by decide) ?_
      exact Wt.sub (L' := [(0, vr 311), (1, vi x1), (2, vi a2)]) [1, 2, 0] rfl (h10 _ _ M hF)
def f_X11_closes_b10 (rec2 : Int32 → Mem → Option (Int32 × Mem)) (k : Nat) : Int32 → Int32 → Mem → Option (Int32 × Mem) := lpN (fun _ _ _ => none) (f_X11_closes_b10_s rec2) k
theorem b_X11_closes_b10 {K : Kt} {X : Xt} (hp : St K) (hB : Bx K X { frames := 1, cells := 0, slots := 0, locals := 23 } cX11_closes 4 RX11 (some .boolean)) {r : Int32} {M1 : Mem} {rec2 : Int32 → Mem → Option (Int32 × Mem)}
    (h2 : ∀ x1 M, rec2 x1 M = some (r, M1) → Wt K X (QM K X (some (vi r)) M1 0 0) 0 0 M 2 [(0, vr 311), (1, vi x1)] []) (k : Nat) : ∀ (x1 : Int32) (x2 : Int32) M, f_X11_closes_b10 rec2 k x1 x2 M = some (r, M1) → Wt K X (QM K X (some (vi r)) M1 0 0) 0 0 M 10 [(0, vr 311), (1, vi x1), (2, vi x2)] [] := by
  refine lpN_ind (P := fun (f : Int32 → Int32 → Mem → Option (Int32 × Mem)) => ∀ (x1 : Int32) (x2 : Int32) M, f x1 x2 M = some (r, M1) → Wt K X (QM K X (some (vi r)) M1 0 0) 0 0 M 10 [(0, vr 311), (1, vi x1), (2, vi x2)] []) (fun _ _ _ h => by cases h) (fun f hf x1 x2 M hF => ?_) k
  exact b_X11_closes_b10_s hp hB h2 hf hF
def f_X11_closes_b2_s (rec2 : Int32 → Mem → Option (Int32 × Mem)) (x1 : Int32) (M : Mem) : Option (Int32 × Mem) :=
  if 10 ≤ x1 then
    f_X11_closes_b110 fuel 0 M
  else
    f_X11_closes_b10 rec2 fuel x1 0 M
set_option maxRecDepth 100000 in
set_option maxHeartbeats 4000000 in
theorem b_X11_closes_b2_s {K : Kt} {X : Xt} (hp : St K) (hB : Bx K X { frames := 1, cells := 0, slots := 0, locals := 23 } cX11_closes 4 RX11 (some .boolean)) {r : Int32} {M1 : Mem} {rec2 : Int32 → Mem → Option (Int32 × Mem)}
    (h2 : ∀ x1 M, rec2 x1 M = some (r, M1) → Wt K X (QM K X (some (vi r)) M1 0 0) 0 0 M 2 [(0, vr 311), (1, vi x1)] []) {x1 : Int32} {M : Mem} (hF : f_X11_closes_b2_s rec2 x1 M = some (r, M1)) : Wt K X (QM K X (some (vi r)) M1 0 0) 0 0 M 2 [(0, vr 311), (1, vi x1)] [] := by
  unfold f_X11_closes_b2_s at hF
  refine w_iload_n hB 1 dX11_closes_2 rfl rfl ?_
  refine w_bipush hB 10 (by decide) dX11_closes_3 ?_
  refine w_icmp_ge hB 108 dX11_closes_5 (by decide) (fun hc => ?_) (fun hc => ?_)
  · replace hF := ifT hc hF
    refine w_iconst hB 0 (by decide) dX11_closes_108 ?_
    refine w_istore_n hB (L' := [(1, vi 0), (0, vr 311)]) dX11_closes_109 rfl (by decide) rfl rfl ?_
    exact Wt.sub (L' := [(0, vr 311), (1, vi 0)]) [1, 0] rfl (b_X11_closes_b110 hp hB fuel _ M hF)
  · replace hF := ifF hc hF
    refine w_iconst hB 0 (by decide) dX11_closes_8 ?_
    refine w_istore_n hB (L' := [(2, vi 0), (0, vr 311), (1, vi x1)]) dX11_closes_9 rfl (by decide) rfl rfl ?_
    exact Wt.sub (L' := [(0, vr 311), (1, vi x1), (2, vi 0)]) [1, 2, 0] rfl (b_X11_closes_b10 hp hB h2 fuel _ _ M hF)
def f_X11_closes_b2 (k : Nat) : Int32 → Mem → Option (Int32 × Mem) := lpN (fun _ _ => none) (f_X11_closes_b2_s) k
theorem b_X11_closes_b2 {K : Kt} {X : Xt} (hp : St K) (hB : Bx K X { frames := 1, cells := 0, slots := 0, locals := 23 } cX11_closes 4 RX11 (some .boolean)) {r : Int32} {M1 : Mem} (k : Nat) : ∀ (x1 : Int32) M, f_X11_closes_b2 k x1 M = some (r, M1) → Wt K X (QM K X (some (vi r)) M1 0 0) 0 0 M 2 [(0, vr 311), (1, vi x1)] [] := by
  refine lpN_ind (P := fun (f : Int32 → Mem → Option (Int32 × Mem)) => ∀ (x1 : Int32) M, f x1 M = some (r, M1) → Wt K X (QM K X (some (vi r)) M1 0 0) 0 0 M 2 [(0, vr 311), (1, vi x1)] []) (fun _ _ h => by cases h) (fun f hf x1 M hF => ?_) k
  exact b_X11_closes_b2_s hp hB hf hF
def f_X11_closes (M : Mem) : Option (Int32 × Mem) :=
  f_X11_closes_b2 fuel 0 M
set_option maxRecDepth 100000 in
set_option maxHeartbeats 4000000 in
theorem b_X11_closes {K : Kt} {X : Xt} (hp : St K) (hB : Bx K X { frames := 1, cells := 0, slots := 0, locals := 23 } cX11_closes 4 RX11 (some .boolean)) {r : Int32} {M1 : Mem} {M : Mem} (hF : f_X11_closes M = some (r, M1)) : Wt K X (QM K X (some (vi r)) M1 0 0) 0 0 M 0 [(0, vr 311)] [] := by
  unfold f_X11_closes at hF
  refine w_iconst hB 0 (by decide) dX11_closes_0 ?_
  refine w_istore_n hB (L' := [(1, vi 0), (0, vr 311)]) dX11_closes_1 rfl (by decide) rfl rfl ?_
  exact Wt.sub (L' := [(0, vr 311), (1, vi 0)]) [1, 0] rfl (b_X11_closes_b2 hp hB fuel _ M hF)
theorem c_X11_closes {K : Kt} {l : Launch} (hp : St K) {r : Int32} {M1 : Mem} {M : Mem} (hF : f_X11_closes M = some (r, M1)) : MT K l yX11_closes cX11_closes 4 (some .boolean) { frames := 1, cells := 0, slots := 0, locals := 23 } [vr 311] M (some (vi r)) M1 0 0 :=
  MT_of (by decide) rfl (Nat.le_of_ble_eq_true rfl) (fun X _ hB _ => b_X11_closes hp hB hF)
