set_option maxRecDepth 100000 in
set_option maxHeartbeats 4000000 in
theorem b_X7_tellPlay_b234 {K : Kt} {X : Xt} (hp : St K) (hB : Bx K X { frames := 5, cells := 0, slots := 0, locals := 108 } cX7_tellPlay 4 RX7 (some .boolean)) {r : Int32} {M1 : Mem} {M : Mem} (hF : f_X7_tellPlay_b234 M = some (r, M1)) : Wt K X (QM K X (some (vi r)) M1 0 0) 0 0 M 234 [(0, vr 208)] [] := by
  unfold f_X7_tellPlay_b234 at hF
  refine w_aload_n hB 0 dX7_tellPlay_234 rfl rfl ?_
  refine w_getR hB ff_X7_1 (soM hp.1 sh_208 (by decide)) q_280 dX7_tellPlay_235 ?_
  refine w_dup hB rfl dX7_tellPlay_238 ?_
  obtain ⟨g1, hF⟩ := gdS hF
  refine w_getI hB ff_X9_11 (soM hp.1 g1 (by decide)) q_233 dX7_tellPlay_239 ?_
  refine w_iconst hB 1 (by decide) dX7_tellPlay_242 ?_
  refine w_iadd hB dX7_tellPlay_243 ?_
  obtain ⟨M1m, e_M1m, hF⟩ := bndS hF
  refine w_putI hB ff_X9_11 (soM hp.1 g1 (by decide)) q_233 e_M1m dX7_tellPlay_244 ?_
  refine w_iconst hB 1 (by decide) dX7_tellPlay_247 ?_
  obtain ⟨e1, e2⟩ := retS hF
  subst e2
  exact w_zret hB (by decide) dX7_tellPlay_248 e1
set_option maxRecDepth 100000 in
set_option maxHeartbeats 4000000 in
theorem b_X7_tellPlay_b202_s {K : Kt} {X : Xt} (hp : St K) (hB : Bx K X { frames := 5, cells := 0, slots := 0, locals := 108 } cX7_tellPlay 4 RX7 (some .boolean)) {r : Int32} {M1 : Mem} {rec202 : Nat → Int32 → Mem → Option (Int32 × Mem)}
    (h202 : ∀ n1 x3 M, rec202 n1 x3 M = some (r, M1) → Wt K X (QM K X (some (vi r)) M1 0 0) 0 0 M 202 [(0, vr 208), (1, vr n1), (3, vi x3)] []) {n1 : Nat} {x3 : Int32} {M : Mem} (hF : f_X7_tellPlay_b202_s rec202 n1 x3 M = some (r, M1)) : Wt K X (QM K X (some (vi r)) M1 0 0) 0 0 M 202 [(0, vr 208), (1, vr n1), (3, vi x3)] [] := by
  unfold f_X7_tellPlay_b202_s at hF
  refine w_iload_n hB 2 dX7_tellPlay_202 rfl rfl ?_
  refine w_bipush hB 10 (by decide) dX7_tellPlay_203 ?_
  refine w_icmp_gt hB 234 dX7_tellPlay_205 (by decide) (fun hc => ?_) (fun hc => ?_)
  · replace hF := ifT hc hF
    exact Wt.sub (L' := [(0, vr 208)]) [0] rfl (b_X7_tellPlay_b234 hp hB hF)
  · replace hF := ifF hc hF
    refine w_aload_n hB 0 dX7_tellPlay_208 rfl rfl ?_
    refine w_getR hB ff_X7_4 (soM hp.1 sh_208 (by decide)) q_283 dX7_tellPlay_209 ?_
    refine w_gettok hB hp 5 ⟨by decide, by decide⟩ q_1079 dX7_tellPlay_212 ?_
    obtain ⟨g1, hF⟩ := gdS hF
    refine w_acmp_eq hB 234 g1 (by decide) dX7_tellPlay_215 (by decide) (fun hc => ?_) (fun hc => ?_)
    · replace hF := ifT hc hF
      exact Wt.sub (L' := [(0, vr 208)]) [0] rfl (b_X7_tellPlay_b234 hp hB hF)
    · replace hF := ifF hc hF
      refine w_aload_n hB 0 dX7_tellPlay_218 rfl rfl ?_
      refine w_aload_n hB 1 dX7_tellPlay_219 rfl rfl ?_
      obtain ⟨r1, M1m, hc_M1m, hF⟩ := clS hF
      refine w_callV hB (ci := 6) (As := [vr n1]) (st := []) cw_X7_333 q_1081 q_1082 rfl (soM hp.1 sh_208 (by decide)) (c_X7_tellFrame hp hc_M1m) ⟨rfl, rfl⟩ (by decide) (by decide) rfl (Nat.le_of_ble_eq_true rfl) dX7_tellPlay_220 rfl ?_
      refine w_if_ne hB 228 dX7_tellPlay_223 (by decide) (fun hc => ?_) (fun hc => ?_)
      · replace hF := ifF hc hF
        obtain ⟨a1, e_a1, hF⟩ := bndS hF
        refine w_iinc hB 2 (v := 1) (L' := [(3, vi a1), (0, vr 208), (1, vr n1)]) dX7_tellPlay_228 rfl (by decide) (by decide) e_a1 rfl ?_
        refine w_goto hB 202 dX7_tellPlay_231 (by decide) ?_
        exact Wt.sub (L' := [(0, vr 208), (1, vr n1), (3, vi a1)]) [1, 2, 0] rfl (h202 _ _ M1m hF)
      · replace hF := ifT hc hF
        refine w_iconst hB 0 (by decide) dX7_tellPlay_226 ?_
        obtain ⟨e1, e2⟩ := retS hF
        subst e2
        exact w_zret hB (by decide) dX7_tellPlay_227 e1
theorem b_X7_tellPlay_b202 {K : Kt} {X : Xt} (hp : St K) (hB : Bx K X { frames := 5, cells := 0, slots := 0, locals := 108 } cX7_tellPlay 4 RX7 (some .boolean)) {r : Int32} {M1 : Mem} (k : Nat) : ∀ (n1 : Nat) (x3 : Int32) M, f_X7_tellPlay_b202 k n1 x3 M = some (r, M1) → Wt K X (QM K X (some (vi r)) M1 0 0) 0 0 M 202 [(0, vr 208), (1, vr n1), (3, vi x3)] [] := by
  refine lpN_ind (P := fun (f : Nat → Int32 → Mem → Option (Int32 × Mem)) => ∀ (n1 : Nat) (x3 : Int32) M, f n1 x3 M = some (r, M1) → Wt K X (QM K X (some (vi r)) M1 0 0) 0 0 M 202 [(0, vr 208), (1, vr n1), (3, vi x3)] []) (fun _ _ _ h => by cases h) (fun f hf n1 x3 M hF => ?_) k
  exact b_X7_tellPlay_b202_s hp hB hf hF
set_option maxRecDepth 100000 in
set_option maxHeartbeats 4000000 in
theorem b_X7_tellPlay_b192 {K : Kt} {X : Xt} (hp : St K) (hB : Bx K X { frames := 5, cells := 0, slots := 0, locals := 108 } cX7_tellPlay 4 RX7 (some .boolean)) {r : Int32} {M1 : Mem} {n1 : Nat} {ns1 : Nat} {M : Mem} (hF : f_X7_tellPlay_b192 n1 ns1 M = some (r, M1)) : Wt K X (QM K X (some (vi r)) M1 0 0) 0 0 M 192 [(0, vr 208), (1, vr n1)] [vr ns1, vr 208] := by
  unfold f_X7_tellPlay_b192 at hF
  obtain ⟨r1, M1m, hc_M1m, hF⟩ := clS hF
  refine w_callV hB (ci := 6) (As := [vr ns1]) (st := []) cw_X7_264 q_1048 q_1049 rfl (soM hp.1 sh_208 (by decide)) (c_X7_take hp hc_M1m) ⟨rfl, rfl⟩ (by decide) (by decide) rfl (Nat.le_of_ble_eq_true rfl) dX7_tellPlay_192 rfl ?_
  refine w_if_ne hB 200 dX7_tellPlay_195 (by decide) (fun hc => ?_) (fun hc => ?_)
  · replace hF := ifF hc hF
    refine w_iconst hB 0 (by decide) dX7_tellPlay_200 ?_
    refine w_istore_n hB (L' := [(3, vi 0), (0, vr 208), (1, vr n1)]) dX7_tellPlay_201 rfl (by decide) rfl rfl ?_
    exact Wt.sub (L' := [(0, vr 208), (1, vr n1), (3, vi 0)]) [1, 2, 0] rfl (b_X7_tellPlay_b202 hp hB fuel _ _ M1m hF)
  · replace hF := ifT hc hF
    refine w_iconst hB 0 (by decide) dX7_tellPlay_198 ?_
    obtain ⟨e1, e2⟩ := retS hF
    subst e2
    exact w_zret hB (by decide) dX7_tellPlay_199 e1
set_option maxRecDepth 100000 in
set_option maxHeartbeats 4000000 in
theorem b_X7_tellPlay_b171 {K : Kt} {X : Xt} (hp : St K) (hB : Bx K X { frames := 5, cells := 0, slots := 0, locals := 108 } cX7_tellPlay 4 RX7 (some .boolean)) {r : Int32} {M1 : Mem} {n1 : Nat} {ns0 : Nat} {xs1 : Int32} {M : Mem} (hF : f_X7_tellPlay_b171 n1 ns0 xs1 M = some (r, M1)) : Wt K X (QM K X (some (vi r)) M1 0 0) 0 0 M 171 [(0, vr 208), (1, vr n1)] [vi xs1, vr ns0] := by
  unfold f_X7_tellPlay_b171 at hF
  obtain ⟨g1, hF⟩ := gdS hF
  obtain ⟨M1m, e_M1m, hF⟩ := bndS hF
  refine w_putI hB ff_X6_4 (soM hp.1 g1 (by decide)) q_134 e_M1m dX7_tellPlay_171 ?_
  refine w_aload_n hB 0 dX7_tellPlay_174 rfl rfl ?_
  refine w_aload_n hB 1 dX7_tellPlay_175 rfl rfl ?_
  obtain ⟨g2, hF⟩ := gdS hF
  refine w_getI hB ff_X6_4 (soM hp.1 g2 (by decide)) q_134 dX7_tellPlay_176 ?_
  refine w_iconst hB 1 (by decide) dX7_tellPlay_179 ?_
  refine w_icmp_ne hB 189 dX7_tellPlay_180 (by decide) (fun hc => ?_) (fun hc => ?_)
  · replace hF := ifF hc hF
    refine w_gettok hB hp 25 ⟨by decide, by decide⟩ q_1077 dX7_tellPlay_189 ?_
    exact Wt.sub (L' := [(0, vr 208), (1, vr n1)]) [0, 1] rfl (b_X7_tellPlay_b192 hp hB hF)
  · replace hF := ifT hc hF
    refine w_gettok hB hp 24 ⟨by decide, by decide⟩ q_1075 dX7_tellPlay_183 ?_
    refine w_goto hB 192 dX7_tellPlay_186 (by decide) ?_
    exact Wt.sub (L' := [(0, vr 208), (1, vr n1)]) [0, 1] rfl (b_X7_tellPlay_b192 hp hB hF)
set_option maxRecDepth 100000 in
set_option maxHeartbeats 4000000 in
theorem b_X7_tellPlay_b54 {K : Kt} {X : Xt} (hp : St K) (hB : Bx K X { frames := 5, cells := 0, slots := 0, locals := 108 } cX7_tellPlay 4 RX7 (some .boolean)) {r : Int32} {M1 : Mem} {n1 : Nat} {xs0 : Int32} {M : Mem} (hF : f_X7_tellPlay_b54 n1 xs0 M = some (r, M1)) : Wt K X (QM K X (some (vi r)) M1 0 0) 0 0 M 54 [(0, vr 208), (1, vr n1)] [vi xs0] := by
  unfold f_X7_tellPlay_b54 at hF
  refine w_istore_n hB (L' := [(2, vi xs0), (0, vr 208), (1, vr n1)]) dX7_tellPlay_54 rfl (by decide) rfl rfl ?_
  refine w_aload_n hB 1 dX7_tellPlay_55 rfl rfl ?_
  refine w_gettok hB hp 15 ⟨by decide, by decide⟩ q_1073 dX7_tellPlay_56 ?_
  refine w_aload_n hB 1 dX7_tellPlay_59 rfl rfl ?_
  refine w_getR hB ff_X7_1 (soM hp.1 sh_208 (by decide)) q_280 dX7_tellPlay_60 ?_
  obtain ⟨g1, hF⟩ := gdS hF
  refine w_getI hB ff_X9_11 (soM hp.1 g1 (by decide)) q_233 dX7_tellPlay_63 ?_
  obtain ⟨r1, M1m, hc_M1m, hF⟩ := clS hF
  refine w_callV hB (ci := 6) (As := [vr 15, vi (M.1 (M.2.2.1 208 1) 11)]) (st := []) cw_X7_188 q_988 q_989 rfl (soM hp.1 sh_208 (by decide)) (c_X7_giveName hp hc_M1m) ⟨rfl, rfl⟩ (by decide) (by decide) rfl (Nat.le_of_ble_eq_true rfl) dX7_tellPlay_66 rfl ?_
  refine w_if_eq hB 83 dX7_tellPlay_69 (by decide) (fun hc => ?_) (fun hc => ?_)
  · replace hF := ifT hc hF
    refine w_iconst hB 0 (by decide) dX7_tellPlay_83 ?_
    obtain ⟨e1, e2⟩ := retS hF
    subst e2
    exact w_zret hB (by decide) dX7_tellPlay_84 e1
  · replace hF := ifF hc hF
    refine w_aload_n hB 1 dX7_tellPlay_72 rfl rfl ?_
    refine w_iload_n hB 0 dX7_tellPlay_73 rfl rfl ?_
    refine w_sipush hB 999 (by decide) dX7_tellPlay_74 ?_
    obtain ⟨r2, M2m, hc_M2m, hF⟩ := clS hF
    refine w_callV hB (ci := 6) (As := [vi xs0, vi 999]) (st := []) cw_X7_179 q_993 q_994 rfl (soM hp.1 sh_208 (by decide)) (c_X7_takeNumber hp hc_M2m) ⟨rfl, rfl⟩ (by decide) (by decide) rfl (Nat.le_of_ble_eq_true rfl) dX7_tellPlay_77 rfl ?_
    refine w_if_ne hB 85 dX7_tellPlay_80 (by decide) (fun hc => ?_) (fun hc => ?_)
    · replace hF := ifF hc hF
      refine w_aload_n hB 2 dX7_tellPlay_85 rfl rfl ?_
      refine w_aload_n hB 1 dX7_tellPlay_86 rfl rfl ?_
      refine w_getI hB ff_X7_7 (soM hp.1 sh_208 (by decide)) q_287 dX7_tellPlay_87 ?_
      obtain ⟨g2, hF⟩ := gdS hF
      obtain ⟨M3m, e_M3m, hF⟩ := bndS hF
      refine w_putI hB ff_X6_0 (soM hp.1 g2 (by decide)) q_125 e_M3m dX7_tellPlay_90 ?_
      refine w_aload_n hB 2 dX7_tellPlay_93 rfl rfl ?_
      refine w_aload_n hB 1 dX7_tellPlay_94 rfl rfl ?_
      refine w_gettok hB hp 13 ⟨by decide, by decide⟩ q_1027 dX7_tellPlay_95 ?_
      refine w_iconst hB (-1) (by decide) dX7_tellPlay_98 ?_
      obtain ⟨r3, M4m, hc_M4m, hF⟩ := clS hF
      refine w_callV hB (ci := 6) (As := [vr 13, vi (-1)]) (st := [vr n1]) cw_X7_208 q_1006 q_1007 rfl (soM hp.1 sh_208 (by decide)) (c_X7_takeName hp hc_M4m) ⟨rfl, rfl⟩ (by decide) (by decide) rfl (Nat.le_of_ble_eq_true rfl) dX7_tellPlay_99 rfl ?_
      obtain ⟨M5m, e_M5m, hF⟩ := bndS hF
      refine w_putI hB ff_X6_1 (soM hp.1 g2 (by decide)) q_128 e_M5m dX7_tellPlay_102 ?_
      refine w_aload_n hB 2 dX7_tellPlay_105 rfl rfl ?_
      refine w_getI hB ff_X6_1 (soM hp.1 g2 (by decide)) q_128 dX7_tellPlay_106 ?_
      refine w_iconst hB (-1) (by decide) dX7_tellPlay_109 ?_
      refine w_icmp_ne hB 115 dX7_tellPlay_110 (by decide) (fun hc => ?_) (fun hc => ?_)
      · replace hF := ifF hc hF
        refine w_aload_n hB 2 dX7_tellPlay_115 rfl rfl ?_
        refine w_aload_n hB 1 dX7_tellPlay_116 rfl rfl ?_
        refine w_gettok hB hp 12 ⟨by decide, by decide⟩ q_1021 dX7_tellPlay_117 ?_
        refine w_iconst hB (-1) (by decide) dX7_tellPlay_120 ?_
        obtain ⟨r4, M6m, hc_M6m, hF⟩ := clS hF
        refine w_callV hB (ci := 6) (As := [vr 12, vi (-1)]) (st := [vr n1]) cw_X7_208 q_1006 q_1007 rfl (soM hp.1 sh_208 (by decide)) (c_X7_takeName hp hc_M6m) ⟨rfl, rfl⟩ (by decide) (by decide) rfl (Nat.le_of_ble_eq_true rfl) dX7_tellPlay_121 rfl ?_
        obtain ⟨M7m, e_M7m, hF⟩ := bndS hF
        refine w_putI hB ff_X6_2 (soM hp.1 g2 (by decide)) q_130 e_M7m dX7_tellPlay_124 ?_
        refine w_aload_n hB 2 dX7_tellPlay_127 rfl rfl ?_
        refine w_getI hB ff_X6_2 (soM hp.1 g2 (by decide)) q_130 dX7_tellPlay_128 ?_
        refine w_iconst hB (-1) (by decide) dX7_tellPlay_131 ?_
        refine w_icmp_eq hB 145 dX7_tellPlay_132 (by decide) (fun hc => ?_) (fun hc => ?_)
        · replace hF := ifT hc hF
          refine w_iconst hB 0 (by decide) dX7_tellPlay_145 ?_
          obtain ⟨e1, e2⟩ := retS hF
          subst e2
          exact w_zret hB (by decide) dX7_tellPlay_146 e1
        · replace hF := ifF hc hF
          refine w_aload_n hB 1 dX7_tellPlay_135 rfl rfl ?_
          refine w_iconst hB 0 (by decide) dX7_tellPlay_136 ?_
          refine w_bipush hB 99 (by decide) dX7_tellPlay_137 ?_
          obtain ⟨r5, M8m, hc_M8m, hF⟩ := clS hF
          refine w_callV hB (ci := 6) (As := [vi 0, vi 99]) (st := []) cw_X7_179 q_993 q_994 rfl (soM hp.1 sh_208 (by decide)) (c_X7_takeNumber hp hc_M8m) ⟨rfl, rfl⟩ (by decide) (by decide) rfl (Nat.le_of_ble_eq_true rfl) dX7_tellPlay_139 rfl ?_
          refine w_if_ne hB 147 dX7_tellPlay_142 (by decide) (fun hc => ?_) (fun hc => ?_)
          · replace hF := ifF hc hF
            refine w_aload_n hB 2 dX7_tellPlay_147 rfl rfl ?_
            refine w_aload_n hB 1 dX7_tellPlay_148 rfl rfl ?_
            refine w_getI hB ff_X7_7 (soM hp.1 sh_208 (by decide)) q_287 dX7_tellPlay_149 ?_
            obtain ⟨M9m, e_M9m, hF⟩ := bndS hF
            refine w_putI hB ff_X6_3 (soM hp.1 g2 (by decide)) q_132 e_M9m dX7_tellPlay_152 ?_
            refine w_aload_n hB 2 dX7_tellPlay_155 rfl rfl ?_
            refine w_aload_n hB 1 dX7_tellPlay_156 rfl rfl ?_
            refine w_getR hB ff_X7_4 (soM hp.1 sh_208 (by decide)) q_283 dX7_tellPlay_157 ?_
            refine w_gettok hB hp 24 ⟨by decide, by decide⟩ q_1075 dX7_tellPlay_160 ?_
            obtain ⟨g3, hF⟩ := gdS hF
            refine w_acmp_ne hB 170 g3 (by decide) dX7_tellPlay_163 (by decide) (fun hc => ?_) (fun hc => ?_)
            · replace hF := ifF hc hF
              refine w_iconst hB 0 (by decide) dX7_tellPlay_170 ?_
              exact Wt.sub (L' := [(0, vr 208), (1, vr n1)]) [1, 2] rfl (b_X7_tellPlay_b171 hp hB hF)
            · replace hF := ifT hc hF
              refine w_iconst hB 1 (by decide) dX7_tellPlay_166 ?_
              refine w_goto hB 171 dX7_tellPlay_167 (by decide) ?_
              exact Wt.sub (L' := [(0, vr 208), (1, vr n1)]) [1, 2] rfl (b_X7_tellPlay_b171 hp hB hF)
          · replace hF := ifT hc hF
            refine w_iconst hB 0 (by decide) dX7_tellPlay_145 ?_
            obtain ⟨e1, e2⟩ := retS hF
            subst e2
            exact w_zret hB (by decide) dX7_tellPlay_146 e1
      · replace hF := ifT hc hF
        refine w_iconst hB 0 (by decide) dX7_tellPlay_113 ?_
        obtain ⟨e1, e2⟩ := retS hF
        subst e2
        exact w_zret hB (by decide) dX7_tellPlay_114 e1
    · replace hF := ifT hc hF
      refine w_iconst hB 0 (by decide) dX7_tellPlay_83 ?_
      obtain ⟨e1, e2⟩ := retS hF
      subst e2
      exact w_zret hB (by decide) dX7_tellPlay_84 e1
set_option maxRecDepth 100000 in
set_option maxHeartbeats 4000000 in
theorem b_X7_tellPlay {K : Kt} {X : Xt} (hp : St K) (hB : Bx K X { frames := 5, cells := 0, slots := 0, locals := 108 } cX7_tellPlay 4 RX7 (some .boolean)) {r : Int32} {M1 : Mem} {M : Mem} (hF : f_X7_tellPlay M = some (r, M1)) : Wt K X (QM K X (some (vi r)) M1 0 0) 0 0 M 0 [(0, vr 208)] [] := by
  unfold f_X7_tellPlay at hF
  refine w_aload_n hB 0 dX7_tellPlay_0 rfl rfl ?_
  refine w_getR hB ff_X7_1 (soM hp.1 sh_208 (by decide)) q_280 dX7_tellPlay_1 ?_
  obtain ⟨g1, hF⟩ := gdS hF
  refine w_getC hB (v := cr (M.2.2.1 208 1) 12) ff_X9_12 (soM hp.1 g1 (by decide)) hp.1 rfl (shc_ne (crc_8_12 g1).1) q_236 dX7_tellPlay_4 ?_
  refine w_aload_n hB 0 dX7_tellPlay_7 rfl rfl ?_
  refine w_getR hB ff_X7_1 (soM hp.1 sh_208 (by decide)) q_280 dX7_tellPlay_8 ?_
  refine w_getI hB ff_X9_11 (soM hp.1 g1 (by decide)) q_233 dX7_tellPlay_11 ?_
  obtain ⟨g2, hF⟩ := gdS hF
  refine w_aaldC hB (c := 6) (v := cr (cr (M.2.2.1 208 1) 12) (M.1 (M.2.2.1 208 1) 11).toNatClampNeg) (soM hp.1 (crc_8_12 g1).1 (by decide)) rfl (by decide) hp.1 (sl_s (crc_8_12 g1).1 (by decide) (crc_8_12 g1).2) g2 rfl (shc_ne (cre_26 (crc_8_12 g1).1 (by rw [(crc_8_12 g1).2]; exact inb_lt g2))) dX7_tellPlay_14 ?_
  obtain ⟨o1, e_o1, hF⟩ := bndS hF
  rw [← e_o1]
  refine w_astore_n hB (L' := [(1, vr o1), (0, vr 208)]) dX7_tellPlay_15 rfl (by decide) rfl ?_
  refine w_aload_n hB 0 dX7_tellPlay_16 rfl rfl ?_
  obtain ⟨M1m, hc_M1m, hF⟩ := clvS hF
  refine w_callV hB (ci := 5) (As := []) (st := []) cw_X7_304 q_1070 q_1071 rfl (soM hp.1 (by rw [e_o1]; exact (cre_26 (crc_8_12 g1).1 (by rw [(crc_8_12 g1).2]; exact inb_lt g2))) (by decide)) (c_X6_clear hp hc_M1m) ⟨rfl, rfl⟩ (by decide) (by decide) rfl (Nat.le_of_ble_eq_true rfl) dX7_tellPlay_17 rfl ?_
  refine w_aload_n hB 1 dX7_tellPlay_20 rfl rfl ?_
  refine w_getR hB ff_X7_1 (soM hp.1 sh_208 (by decide)) q_280 dX7_tellPlay_21 ?_
  obtain ⟨g3, hF⟩ := gdS hF
  refine w_getI hB ff_X9_11 (soM hp.1 g3 (by decide)) q_233 dX7_tellPlay_24 ?_
  refine w_if_ne hB 34 dX7_tellPlay_27 (by decide) (fun hc => ?_) (fun hc => ?_)
  · replace hF := ifF hc hF
    refine w_aload_n hB 1 dX7_tellPlay_34 rfl rfl ?_
    refine w_getR hB ff_X7_1 (soM hp.1 sh_208 (by decide)) q_280 dX7_tellPlay_35 ?_
    refine w_getC hB (v := cr (M1m.2.2.1 208 1) 12) ff_X9_12 (soM hp.1 g3 (by decide)) hp.1 rfl (shc_ne (crc_8_12 g3).1) q_236 dX7_tellPlay_38 ?_
    refine w_aload_n hB 1 dX7_tellPlay_41 rfl rfl ?_
    refine w_getR hB ff_X7_1 (soM hp.1 sh_208 (by decide)) q_280 dX7_tellPlay_42 ?_
    refine w_getI hB ff_X9_11 (soM hp.1 g3 (by decide)) q_233 dX7_tellPlay_45 ?_
    refine w_iconst hB 1 (by decide) dX7_tellPlay_48 ?_
    refine w_isub hB dX7_tellPlay_49 ?_
    obtain ⟨g4, hF⟩ := gdS hF
    refine w_aaldC hB (c := 6) (v := cr (cr (M1m.2.2.1 208 1) 12) ((M1m.1 (M1m.2.2.1 208 1) 11) - 1).toNatClampNeg) (soM hp.1 (crc_8_12 g3).1 (by decide)) rfl (by decide) hp.1 (sl_s (crc_8_12 g3).1 (by decide) (crc_8_12 g3).2) g4 rfl (shc_ne (cre_26 (crc_8_12 g3).1 (by rw [(crc_8_12 g3).2]; exact inb_lt g4))) dX7_tellPlay_50 ?_
    refine w_getI hB ff_X6_0 (soM hp.1 (cre_26 (crc_8_12 g3).1 (by rw [(crc_8_12 g3).2]; exact inb_lt g4)) (by decide)) q_125 dX7_tellPlay_51 ?_
    exact Wt.sub (L' := [(0, vr 208), (1, vr o1)]) [1, 0] rfl (b_X7_tellPlay_b54 hp hB hF)
  · replace hF := ifT hc hF
    refine w_iconst hB 0 (by decide) dX7_tellPlay_30 ?_
    refine w_goto hB 54 dX7_tellPlay_31 (by decide) ?_
    exact Wt.sub (L' := [(0, vr 208), (1, vr o1)]) [1, 0] rfl (b_X7_tellPlay_b54 hp hB hF)
theorem c_X7_tellPlay {K : Kt} {l : Launch} (hp : St K) {r : Int32} {M1 : Mem} {M : Mem} (hF : f_X7_tellPlay M = some (r, M1)) : MT K l yX7_tellPlay cX7_tellPlay 4 (some .boolean) { frames := 5, cells := 0, slots := 0, locals := 108 } [vr 208] M (some (vi r)) M1 0 0 :=
  MT_of (by decide) rfl (Nat.le_of_ble_eq_true rfl) (fun X _ hB _ => b_X7_tellPlay hp hB hF)
set_option maxRecDepth 100000 in
set_option maxHeartbeats 4000000 in
theorem b_X7_tellSetting {K : Kt} {X : Xt} (hp : St K) (hB : Bx K X { frames := 4, cells := 0, slots := 0, locals := 83 } cX7_tellSetting 3 RX7 (some .boolean)) {r : Int32} {M1 : Mem} {x1 : Int32} {x2 : Int32} {M : Mem} (hF : f_X7_tellSetting x1 x2 M = some (r, M1)) : Wt K X (QM K X (some (vi r)) M1 0 0) 0 0 M 0 [(0, vr 208), (1, vi x1), (2, vi x2)] [] := by
  unfold f_X7_tellSetting at hF
  refine w_aload_n hB 0 dX7_tellSetting_0 rfl rfl ?_
  refine w_iconst hB 0 (by decide) dX7_tellSetting_1 ?_
  refine w_iload_n hB 2 dX7_tellSetting_2 rfl rfl ?_
  obtain ⟨r1, M1m, hc_M1m, hF⟩ := clS hF
  refine w_callV hB (ci := 6) (As := [vi 0, vi x2]) (st := []) cw_X7_179 q_993 q_994 rfl (soM hp.1 sh_208 (by decide)) (c_X7_takeNumber hp hc_M1m) ⟨rfl, rfl⟩ (by decide) (by decide) rfl (Nat.le_of_ble_eq_true rfl) dX7_tellSetting_3 rfl ?_
  refine w_if_ne hB 11 dX7_tellSetting_6 (by decide) (fun hc => ?_) (fun hc => ?_)
  · replace hF := ifF hc hF
    refine w_aload_n hB 0 dX7_tellSetting_11 rfl rfl ?_
    refine w_getR hB ff_X7_1 (soM hp.1 sh_208 (by decide)) q_280 dX7_tellSetting_12 ?_
    obtain ⟨g1, hF⟩ := gdS hF
    refine w_getC hB (v := cr (M1m.2.2.1 208 1) 13) ff_X9_13 (soM hp.1 g1 (by decide)) hp.1 rfl (shc_ne (crc_8_13 g1).1) q_238 dX7_tellSetting_15 ?_
    refine w_iload_n hB 1 dX7_tellSetting_18 rfl rfl ?_
    refine w_aload_n hB 0 dX7_tellSetting_19 rfl rfl ?_
    refine w_getI hB ff_X7_7 (soM hp.1 sh_208 (by decide)) q_287 dX7_tellSetting_20 ?_
    obtain ⟨g2, hF⟩ := gdS hF
    obtain ⟨M2m, e_M2m, hF⟩ := bndS hF
    refine w_iast hB (soM hp.1 (crc_8_13 g1).1 (by decide)) (sl_s (crc_8_13 g1).1 (by decide) (crc_8_13 g1).2) g2 e_M2m dX7_tellSetting_23 ?_
    refine w_aload_n hB 0 dX7_tellSetting_24 rfl rfl ?_
    refine w_dup hB rfl dX7_tellSetting_25 ?_
    refine w_getI hB ff_X7_13 (soM hp.1 sh_208 (by decide)) q_294 dX7_tellSetting_26 ?_
    refine w_iconst hB 1 (by decide) dX7_tellSetting_29 ?_
    refine w_iload_n hB 1 dX7_tellSetting_30 rfl rfl ?_
    refine w_ishl hB dX7_tellSetting_31 ?_
    refine w_ior hB dX7_tellSetting_32 ?_
    obtain ⟨M3m, e_M3m, hF⟩ := bndS hF
    refine w_putI hB ff_X7_13 (soM hp.1 sh_208 (by decide)) q_294 e_M3m dX7_tellSetting_33 ?_
    refine w_iconst hB 1 (by decide) dX7_tellSetting_36 ?_
    obtain ⟨e1, e2⟩ := retS hF
    subst e2
    exact w_zret hB (by decide) dX7_tellSetting_37 e1
  · replace hF := ifT hc hF
    refine w_iconst hB 0 (by decide) dX7_tellSetting_9 ?_
    obtain ⟨e1, e2⟩ := retS hF
    subst e2
    exact w_zret hB (by decide) dX7_tellSetting_10 e1
theorem c_X7_tellSetting {K : Kt} {l : Launch} (hp : St K) {r : Int32} {M1 : Mem} {x1 : Int32} {x2 : Int32} {M : Mem} (hF : f_X7_tellSetting x1 x2 M = some (r, M1)) : MT K l yX7_tellSetting cX7_tellSetting 3 (some .boolean) { frames := 4, cells := 0, slots := 0, locals := 83 } [vr 208, vi x1, vi x2] M (some (vi r)) M1 0 0 :=
  MT_of (by decide) rfl (Nat.le_of_ble_eq_true rfl) (fun X _ hB _ => b_X7_tellSetting hp hB hF)
set_option maxRecDepth 100000 in
set_option maxHeartbeats 4000000 in
theorem b_X7_tellSide {K : Kt} {X : Xt} (hp : St K) (hB : Bx K X { frames := 4, cells := 0, slots := 0, locals := 84 } cX7_tellSide 1 RX7 (some .boolean)) {r : Int32} {M1 : Mem} {M : Mem} (hF : f_X7_tellSide M = some (r, M1)) : Wt K X (QM K X (some (vi r)) M1 0 0) 0 0 M 0 [(0, vr 208)] [] := by
  unfold f_X7_tellSide at hF
  refine w_aload_n hB 0 dX7_tellSide_0 rfl rfl ?_
  refine w_gettok hB hp 12 ⟨by decide, by decide⟩ q_1021 dX7_tellSide_1 ?_
  refine w_aload_n hB 0 dX7_tellSide_4 rfl rfl ?_
  refine w_getR hB ff_X7_1 (soM hp.1 sh_208 (by decide)) q_280 dX7_tellSide_5 ?_
  obtain ⟨g1, hF⟩ := gdS hF
  refine w_getI hB ff_X9_5 (soM hp.1 g1 (by decide)) q_215 dX7_tellSide_8 ?_
  obtain ⟨r1, M1m, hc_M1m, hF⟩ := clS hF
  refine w_callV hB (ci := 6) (As := [vr 12, vi (M.1 (M.2.2.1 208 1) 5)]) (st := []) cw_X7_188 q_988 q_989 rfl (soM hp.1 sh_208 (by decide)) (c_X7_giveName hp hc_M1m) ⟨rfl, rfl⟩ (by decide) (by decide) rfl (Nat.le_of_ble_eq_true rfl) dX7_tellSide_11 rfl ?_
  refine w_if_eq hB 27 dX7_tellSide_14 (by decide) (fun hc => ?_) (fun hc => ?_)
  · replace hF := ifT hc hF
    refine w_iconst hB 0 (by decide) dX7_tellSide_27 ?_
    obtain ⟨e1, e2⟩ := retS hF
    subst e2
    exact w_zret hB (by decide) dX7_tellSide_28 e1
  · replace hF := ifF hc hF
    refine w_aload_n hB 0 dX7_tellSide_17 rfl rfl ?_
    refine w_iconst hB 0 (by decide) dX7_tellSide_18 ?_
    refine w_bipush hB 9 (by decide) dX7_tellSide_19 ?_
    obtain ⟨r2, M2m, hc_M2m, hF⟩ := clS hF
    refine w_callV hB (ci := 6) (As := [vi 0, vi 9]) (st := []) cw_X7_179 q_993 q_994 rfl (soM hp.1 sh_208 (by decide)) (c_X7_takeNumber hp hc_M2m) ⟨rfl, rfl⟩ (by decide) (by decide) rfl (Nat.le_of_ble_eq_true rfl) dX7_tellSide_21 rfl ?_
    refine w_if_ne hB 29 dX7_tellSide_24 (by decide) (fun hc => ?_) (fun hc => ?_)
    · replace hF := ifF hc hF
      refine w_aload_n hB 0 dX7_tellSide_29 rfl rfl ?_
      refine w_getR hB ff_X7_1 (soM hp.1 sh_208 (by decide)) q_280 dX7_tellSide_30 ?_
      obtain ⟨g2, hF⟩ := gdS hF
      refine w_getC hB (v := cr (M2m.2.2.1 208 1) 6) ff_X9_6 (soM hp.1 g2 (by decide)) hp.1 rfl (shc_ne (crc_8_6 g2).1) q_219 dX7_tellSide_33 ?_
      refine w_aload_n hB 0 dX7_tellSide_36 rfl rfl ?_
      refine w_getR hB ff_X7_1 (soM hp.1 sh_208 (by decide)) q_280 dX7_tellSide_37 ?_
      refine w_getI hB ff_X9_5 (soM hp.1 g2 (by decide)) q_215 dX7_tellSide_40 ?_
      refine w_aload_n hB 0 dX7_tellSide_43 rfl rfl ?_
      refine w_getI hB ff_X7_7 (soM hp.1 sh_208 (by decide)) q_287 dX7_tellSide_44 ?_
      obtain ⟨g3, hF⟩ := gdS hF
      obtain ⟨M3m, e_M3m, hF⟩ := bndS hF
      refine w_iast hB (soM hp.1 (crc_8_6 g2).1 (by decide)) (sl_s (crc_8_6 g2).1 (by decide) (crc_8_6 g2).2) g3 e_M3m dX7_tellSide_47 ?_
      refine w_aload_n hB 0 dX7_tellSide_48 rfl rfl ?_
      refine w_getR hB ff_X7_1 (soM hp.1 sh_208 (by decide)) q_280 dX7_tellSide_49 ?_
      refine w_dup hB rfl dX7_tellSide_52 ?_
      obtain ⟨g4, hF⟩ := gdS hF
      refine w_getI hB ff_X9_5 (soM hp.1 g4 (by decide)) q_215 dX7_tellSide_53 ?_
      refine w_iconst hB 1 (by decide) dX7_tellSide_56 ?_
      refine w_iadd hB dX7_tellSide_57 ?_
      obtain ⟨M4m, e_M4m, hF⟩ := bndS hF
      refine w_putI hB ff_X9_5 (soM hp.1 g4 (by decide)) q_215 e_M4m dX7_tellSide_58 ?_
      refine w_iconst hB 1 (by decide) dX7_tellSide_61 ?_
      obtain ⟨e1, e2⟩ := retS hF
      subst e2
      exact w_zret hB (by decide) dX7_tellSide_62 e1
    · replace hF := ifT hc hF
      refine w_iconst hB 0 (by decide) dX7_tellSide_27 ?_
      obtain ⟨e1, e2⟩ := retS hF
      subst e2
      exact w_zret hB (by decide) dX7_tellSide_28 e1
theorem c_X7_tellSide {K : Kt} {l : Launch} (hp : St K) {r : Int32} {M1 : Mem} {M : Mem} (hF : f_X7_tellSide M = some (r, M1)) : MT K l yX7_tellSide cX7_tellSide 1 (some .boolean) { frames := 4, cells := 0, slots := 0, locals := 84 } [vr 208] M (some (vi r)) M1 0 0 :=
  MT_of (by decide) rfl (Nat.le_of_ble_eq_true rfl) (fun X _ hB _ => b_X7_tellSide hp hB hF)
set_option maxRecDepth 100000 in
set_option maxHeartbeats 4000000 in
theorem b_X7_tellLine {K : Kt} {X : Xt} (hp : St K) (hB : Bx K X { frames := 6, cells := 0, slots := 0, locals := 131 } cX7_tellLine 2 RX7 (some .boolean)) {r : Int32} {M1 : Mem} {M : Mem} (hF : f_X7_tellLine M = some (r, M1)) : Wt K X (QM K X (some (vi r)) M1 0 0) 0 0 M 0 [(0, vr 208)] [] := by
  unfold f_X7_tellLine at hF
  refine w_aload_n hB 0 dX7_tellLine_0 rfl rfl ?_
  refine w_getR hB ff_X7_4 (soM hp.1 sh_208 (by decide)) q_283 dX7_tellLine_1 ?_
  obtain ⟨o1, e_o1, hF⟩ := bndS hF
  rw [← e_o1]
  refine w_astore_n hB (L' := [(1, vr o1), (0, vr 208)]) dX7_tellLine_4 rfl (by decide) rfl ?_
  refine w_aload_n hB 1 dX7_tellLine_5 rfl rfl ?_
  refine w_aload_n hB 0 dX7_tellLine_6 rfl rfl ?_
  obtain ⟨r1, M1m, hc_M1m, hF⟩ := clS hF
  refine w_callV hB (ci := 6) (As := [vr o1]) (st := []) cw_X7_117 q_958 q_959 rfl (soM hp.1 sh_208 (by decide)) (c_X7_startLine hp hc_M1m) ⟨rfl, rfl⟩ (by decide) (by decide) rfl (Nat.le_of_ble_eq_true rfl) dX7_tellLine_7 rfl ?_
  refine w_if_ne hB 15 dX7_tellLine_10 (by decide) (fun hc => ?_) (fun hc => ?_)
  · replace hF := ifF hc hF
    refine w_getSWM hB hp q_965 dX7_tellLine_15 ?_
    refine w_aload_n hB 0 dX7_tellLine_18 rfl rfl ?_
    obtain ⟨g1, hF⟩ := gdS hF
    refine w_ordinal hB hp g1 (by decide) (by decide) (Nat.le_of_ble_eq_true rfl) dX7_tellLine_19 ?_
    obtain ⟨g2, hF⟩ := gdS hF
    refine w_swmld hB hp g2 dX7_tellLine_22 ?_
    by_cases ht1 : (swm (Int32.ofNat (o1 - 1)).toNatClampNeg) = 1
    · replace hF := ifT ht1 hF
      refine w_tsIn hB 76 dX7_tellLine_23 (off := 53) (by rw [ht1]; decide) (by rw [ht1]; decide) (by rw [ht1]; rfl) (by decide) ?_
      refine w_aload_n hB 1 dX7_tellLine_76 rfl rfl ?_
      obtain ⟨r2, M2m, hc_M2m, hF⟩ := clS hF
      refine w_callV hB (ci := 6) (As := []) (st := []) cw_X7_130 q_982 q_983 rfl (soM hp.1 sh_208 (by decide)) (c_X7_tellCamera hp hc_M2m) ⟨rfl, rfl⟩ (by decide) (by decide) rfl (Nat.le_of_ble_eq_true rfl) dX7_tellLine_77 rfl ?_
      obtain ⟨g3, hF⟩ := gdS hF
      obtain ⟨e1, e2⟩ := retS hF
      subst e2
      exact w_zret hB g3 dX7_tellLine_80 e1
    replace hF := ifF ht1 hF
    by_cases ht2 : (swm (Int32.ofNat (o1 - 1)).toNatClampNeg) = 2
    · replace hF := ifT ht2 hF
      refine w_tsIn hB 81 dX7_tellLine_23 (off := 58) (by rw [ht2]; decide) (by rw [ht2]; decide) (by rw [ht2]; rfl) (by decide) ?_
      refine w_aload_n hB 1 dX7_tellLine_81 rfl rfl ?_
      obtain ⟨r3, M3m, hc_M3m, hF⟩ := clS hF
      refine w_callV hB (ci := 6) (As := []) (st := []) cw_X7_134 q_1002 q_1003 rfl (soM hp.1 sh_208 (by decide)) (c_X7_tellFlash hp hc_M3m) ⟨rfl, rfl⟩ (by decide) (by decide) rfl (Nat.le_of_ble_eq_true rfl) dX7_tellLine_82 rfl ?_
      obtain ⟨g4, hF⟩ := gdS hF
      obtain ⟨e1, e2⟩ := retS hF
      subst e2
      exact w_zret hB g4 dX7_tellLine_85 e1
    replace hF := ifF ht2 hF
    by_cases ht3 : (swm (Int32.ofNat (o1 - 1)).toNatClampNeg) = 3
    · replace hF := ifT ht3 hF
      refine w_tsIn hB 86 dX7_tellLine_23 (off := 63) (by rw [ht3]; decide) (by rw [ht3]; decide) (by rw [ht3]; rfl) (by decide) ?_
      refine w_aload_n hB 1 dX7_tellLine_86 rfl rfl ?_
      obtain ⟨r4, M4m, hc_M4m, hF⟩ := clS hF
      refine w_callV hB (ci := 6) (As := []) (st := []) cw_X7_137 q_1018 q_1019 rfl (soM hp.1 sh_208 (by decide)) (c_X7_tellSide hp hc_M4m) ⟨rfl, rfl⟩ (by decide) (by decide) rfl (Nat.le_of_ble_eq_true rfl) dX7_tellLine_87 rfl ?_
      obtain ⟨g5, hF⟩ := gdS hF
      obtain ⟨e1, e2⟩ := retS hF
      subst e2
      exact w_zret hB g5 dX7_tellLine_90 e1
    replace hF := ifF ht3 hF
    by_cases ht4 : (swm (Int32.ofNat (o1 - 1)).toNatClampNeg) = 4
    · replace hF := ifT ht4 hF
      refine w_tsIn hB 91 dX7_tellLine_23 (off := 68) (by rw [ht4]; decide) (by rw [ht4]; decide) (by rw [ht4]; rfl) (by decide) ?_
      refine w_aload_n hB 1 dX7_tellLine_91 rfl rfl ?_
      obtain ⟨r5, M5m, hc_M5m, hF⟩ := clS hF
      refine w_callV hB (ci := 6) (As := []) (st := []) cw_X7_140 q_1024 q_1025 rfl (soM hp.1 sh_208 (by decide)) (c_X7_tellKind hp hc_M5m) ⟨rfl, rfl⟩ (by decide) (by decide) rfl (Nat.le_of_ble_eq_true rfl) dX7_tellLine_92 rfl ?_
      obtain ⟨g6, hF⟩ := gdS hF
      obtain ⟨e1, e2⟩ := retS hF
      subst e2
      exact w_zret hB g6 dX7_tellLine_95 e1
    replace hF := ifF ht4 hF
    by_cases ht5 : (swm (Int32.ofNat (o1 - 1)).toNatClampNeg) = 5
    · replace hF := ifT ht5 hF
      refine w_tsIn hB 96 dX7_tellLine_23 (off := 73) (by rw [ht5]; decide) (by rw [ht5]; decide) (by rw [ht5]; rfl) (by decide) ?_
      refine w_aload_n hB 1 dX7_tellLine_96 rfl rfl ?_
      obtain ⟨r6, M6m, hc_M6m, hF⟩ := clS hF
      refine w_callV hB (ci := 6) (As := []) (st := []) cw_X7_143 q_1054 q_1055 rfl (soM hp.1 sh_208 (by decide)) (c_X7_tellBoard hp hc_M6m) ⟨rfl, rfl⟩ (by decide) (by decide) rfl (Nat.le_of_ble_eq_true rfl) dX7_tellLine_97 rfl ?_
      obtain ⟨g7, hF⟩ := gdS hF
      obtain ⟨e1, e2⟩ := retS hF
      subst e2
      exact w_zret hB g7 dX7_tellLine_100 e1
    replace hF := ifF ht5 hF
    by_cases ht6 : (swm (Int32.ofNat (o1 - 1)).toNatClampNeg) = 6
    · replace hF := ifT ht6 hF
      refine w_tsIn hB 101 dX7_tellLine_23 (off := 78) (by rw [ht6]; decide) (by rw [ht6]; decide) (by rw [ht6]; rfl) (by decide) ?_
      refine w_aload_n hB 1 dX7_tellLine_101 rfl rfl ?_
      obtain ⟨r7, M7m, hc_M7m, hF⟩ := clS hF
      refine w_callV hB (ci := 6) (As := []) (st := []) cw_X7_146 q_1066 q_1067 rfl (soM hp.1 sh_208 (by decide)) (c_X7_tellPlay hp hc_M7m) ⟨rfl, rfl⟩ (by decide) (by decide) rfl (Nat.le_of_ble_eq_true rfl) dX7_tellLine_102 rfl ?_
      obtain ⟨g8, hF⟩ := gdS hF
      obtain ⟨e1, e2⟩ := retS hF
      subst e2
      exact w_zret hB g8 dX7_tellLine_105 e1
    replace hF := ifF ht6 hF
    by_cases ht7 : (swm (Int32.ofNat (o1 - 1)).toNatClampNeg) = 7
    · replace hF := ifT ht7 hF
      refine w_tsIn hB 106 dX7_tellLine_23 (off := 83) (by rw [ht7]; decide) (by rw [ht7]; decide) (by rw [ht7]; rfl) (by decide) ?_
      refine w_aload_n hB 1 dX7_tellLine_106 rfl rfl ?_
      refine w_iconst hB 0 (by decide) dX7_tellLine_107 ?_
      refine w_sipush hB 999 (by decide) dX7_tellLine_108 ?_
      obtain ⟨r8, M8m, hc_M8m, hF⟩ := clS hF
      refine w_callV hB (ci := 6) (As := [vi 0, vi 999]) (st := []) cw_X7_149 q_1087 q_1088 rfl (soM hp.1 sh_208 (by decide)) (c_X7_tellSetting hp hc_M8m) ⟨rfl, rfl⟩ (by decide) (by decide) rfl (Nat.le_of_ble_eq_true rfl) dX7_tellLine_111 rfl ?_
      obtain ⟨g9, hF⟩ := gdS hF
      obtain ⟨e1, e2⟩ := retS hF
      subst e2
      exact w_zret hB g9 dX7_tellLine_114 e1
    replace hF := ifF ht7 hF
    by_cases ht8 : (swm (Int32.ofNat (o1 - 1)).toNatClampNeg) = 8
    · replace hF := ifT ht8 hF
      refine w_tsIn hB 115 dX7_tellLine_23 (off := 92) (by rw [ht8]; decide) (by rw [ht8]; decide) (by rw [ht8]; rfl) (by decide) ?_
      refine w_aload_n hB 1 dX7_tellLine_115 rfl rfl ?_
      refine w_iconst hB 1 (by decide) dX7_tellLine_116 ?_
      refine w_bipush hB 9 (by decide) dX7_tellLine_117 ?_
      obtain ⟨r9, M9m, hc_M9m, hF⟩ := clS hF
      refine w_callV hB (ci := 6) (As := [vi 1, vi 9]) (st := []) cw_X7_149 q_1087 q_1088 rfl (soM hp.1 sh_208 (by decide)) (c_X7_tellSetting hp hc_M9m) ⟨rfl, rfl⟩ (by decide) (by decide) rfl (Nat.le_of_ble_eq_true rfl) dX7_tellLine_119 rfl ?_
      obtain ⟨g10, hF⟩ := gdS hF
      obtain ⟨e1, e2⟩ := retS hF
      subst e2
      exact w_zret hB g10 dX7_tellLine_122 e1
    replace hF := ifF ht8 hF
    by_cases ht9 : (swm (Int32.ofNat (o1 - 1)).toNatClampNeg) = 9
    · replace hF := ifT ht9 hF
      refine w_tsIn hB 123 dX7_tellLine_23 (off := 100) (by rw [ht9]; decide) (by rw [ht9]; decide) (by rw [ht9]; rfl) (by decide) ?_
      refine w_aload_n hB 1 dX7_tellLine_123 rfl rfl ?_
      refine w_iconst hB 2 (by decide) dX7_tellLine_124 ?_
      refine w_sipush hB 999 (by decide) dX7_tellLine_125 ?_
      obtain ⟨r10, M10m, hc_M10m, hF⟩ := clS hF
      refine w_callV hB (ci := 6) (As := [vi 2, vi 999]) (st := []) cw_X7_149 q_1087 q_1088 rfl (soM hp.1 sh_208 (by decide)) (c_X7_tellSetting hp hc_M10m) ⟨rfl, rfl⟩ (by decide) (by decide) rfl (Nat.le_of_ble_eq_true rfl) dX7_tellLine_128 rfl ?_
      obtain ⟨g11, hF⟩ := gdS hF
      obtain ⟨e1, e2⟩ := retS hF
      subst e2
      exact w_zret hB g11 dX7_tellLine_131 e1
    replace hF := ifF ht9 hF
    by_cases ht10 : (swm (Int32.ofNat (o1 - 1)).toNatClampNeg) = 10
    · replace hF := ifT ht10 hF
      refine w_tsIn hB 132 dX7_tellLine_23 (off := 109) (by rw [ht10]; decide) (by rw [ht10]; decide) (by rw [ht10]; rfl) (by decide) ?_
      refine w_aload_n hB 1 dX7_tellLine_132 rfl rfl ?_
      refine w_iconst hB 3 (by decide) dX7_tellLine_133 ?_
      refine w_bipush hB 9 (by decide) dX7_tellLine_134 ?_
      obtain ⟨r11, M11m, hc_M11m, hF⟩ := clS hF
      refine w_callV hB (ci := 6) (As := [vi 3, vi 9]) (st := []) cw_X7_149 q_1087 q_1088 rfl (soM hp.1 sh_208 (by decide)) (c_X7_tellSetting hp hc_M11m) ⟨rfl, rfl⟩ (by decide) (by decide) rfl (Nat.le_of_ble_eq_true rfl) dX7_tellLine_136 rfl ?_
      obtain ⟨g12, hF⟩ := gdS hF
      obtain ⟨e1, e2⟩ := retS hF
      subst e2
      exact w_zret hB g12 dX7_tellLine_139 e1
    replace hF := ifF ht10 hF
    have tht1 := lv_neT ht1 (show (1 : Int32).toInt = 1 by decide)
    have tht2 := lv_neT ht2 (show (2 : Int32).toInt = 2 by decide)
    have tht3 := lv_neT ht3 (show (3 : Int32).toInt = 3 by decide)
    have tht4 := lv_neT ht4 (show (4 : Int32).toInt = 4 by decide)
    have tht5 := lv_neT ht5 (show (5 : Int32).toInt = 5 by decide)
    have tht6 := lv_neT ht6 (show (6 : Int32).toInt = 6 by decide)
    have tht7 := lv_neT ht7 (show (7 : Int32).toInt = 7 by decide)
    have tht8 := lv_neT ht8 (show (8 : Int32).toInt = 8 by decide)
    have tht9 := lv_neT ht9 (show (9 : Int32).toInt = 9 by decide)
    have tht10 := lv_neT ht10 (show (10 : Int32).toInt = 10 by decide)
    refine w_tsOut hB 140 dX7_tellLine_23 (by omega) (by decide) ?_
    refine w_aload_n hB 1 dX7_tellLine_140 rfl rfl ?_
    refine w_iconst hB 1 (by decide) dX7_tellLine_141 ?_
    obtain ⟨r12, M12m, hc_M12m, hF⟩ := clS hF
    refine w_callV hB (ci := 6) (As := [vi 1]) (st := []) cw_X7_104 q_978 q_979 rfl (soM hp.1 sh_208 (by decide)) (c_X7_fail hp hc_M12m) ⟨rfl, rfl⟩ (by decide) (by decide) rfl (Nat.le_of_ble_eq_true rfl) dX7_tellLine_142 rfl ?_
    obtain ⟨g13, hF⟩ := gdS hF
    obtain ⟨e1, e2⟩ := retS hF
    subst e2
    exact w_zret hB g13 dX7_tellLine_145 e1
  · replace hF := ifT hc hF
    refine w_iconst hB 0 (by decide) dX7_tellLine_13 ?_
    obtain ⟨e1, e2⟩ := retS hF
    subst e2
    exact w_zret hB (by decide) dX7_tellLine_14 e1
theorem c_X7_tellLine {K : Kt} {l : Launch} (hp : St K) {r : Int32} {M1 : Mem} {M : Mem} (hF : f_X7_tellLine M = some (r, M1)) : MT K l yX7_tellLine cX7_tellLine 2 (some .boolean) { frames := 6, cells := 0, slots := 0, locals := 131 } [vr 208] M (some (vi r)) M1 0 0 :=
  MT_of (by decide) rfl (Nat.le_of_ble_eq_true rfl) (fun X _ hB _ => b_X7_tellLine hp hB hF)
