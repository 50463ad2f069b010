set_option maxRecDepth 100000 in
set_option maxHeartbeats 4000000 in
theorem b_X7_isDigit {K : Kt} {X : Xt} (hp : St K) (hB : Bx K X { frames := 0, cells := 0, slots := 0, locals := 0 } cX7_isDigit 1 RX7 (some .boolean)) {r : Int32} {M1 : Mem} {x0 : Int32} {M : Mem} (hF : f_X7_isDigit x0 M = some (r, M1)) : Wt K X (QM K X (some (vi r)) M1 0 0) 0 0 M 0 [(0, vi x0)] [] := by
  unfold f_X7_isDigit at hF
  refine w_iload_n hB 0 dX7_isDigit_0 rfl rfl ?_
  refine w_bipush hB 48 (by decide) dX7_isDigit_1 ?_
  refine w_icmp_lt hB 16 dX7_isDigit_3 (by decide) (fun hc => ?_) (fun hc => ?_)
  · replace hF := ifT hc hF
    refine w_iconst hB 0 (by decide) dX7_isDigit_16 ?_
    obtain ⟨e1, e2⟩ := retS hF
    subst e2
    exact w_zret hB (by decide) dX7_isDigit_17 e1
  · replace hF := ifF hc hF
    refine w_iload_n hB 0 dX7_isDigit_6 rfl rfl ?_
    refine w_bipush hB 57 (by decide) dX7_isDigit_7 ?_
    refine w_icmp_gt hB 16 dX7_isDigit_9 (by decide) (fun hc => ?_) (fun hc => ?_)
    · replace hF := ifT hc hF
      refine w_iconst hB 0 (by decide) dX7_isDigit_16 ?_
      obtain ⟨e1, e2⟩ := retS hF
      subst e2
      exact w_zret hB (by decide) dX7_isDigit_17 e1
    · replace hF := ifF hc hF
      refine w_iconst hB 1 (by decide) dX7_isDigit_12 ?_
      refine w_goto hB 17 dX7_isDigit_13 (by decide) ?_
      obtain ⟨e1, e2⟩ := retS hF
      subst e2
      exact w_zret hB (by decide) dX7_isDigit_17 e1
theorem c_X7_isDigit {K : Kt} {l : Launch} (hp : St K) {r : Int32} {M1 : Mem} {x0 : Int32} {M : Mem} (hF : f_X7_isDigit x0 M = some (r, M1)) : MT K l yX7_isDigit cX7_isDigit 1 (some .boolean) { frames := 0, cells := 0, slots := 0, locals := 0 } [vi x0] M (some (vi r)) M1 0 0 :=
  MT_of (by decide) rfl (Nat.le_of_ble_eq_true rfl) (fun X _ hB _ => b_X7_isDigit hp hB hF)
set_option maxRecDepth 100000 in
set_option maxHeartbeats 4000000 in
theorem b_X7_isLetter {K : Kt} {X : Xt} (hp : St K) (hB : Bx K X { frames := 0, cells := 0, slots := 0, locals := 0 } cX7_isLetter 1 RX7 (some .boolean)) {r : Int32} {M1 : Mem} {x0 : Int32} {M : Mem} (hF : f_X7_isLetter x0 M = some (r, M1)) : Wt K X (QM K X (some (vi r)) M1 0 0) 0 0 M 0 [(0, vi x0)] [] := by
  unfold f_X7_isLetter at hF
  refine w_iload_n hB 0 dX7_isLetter_0 rfl rfl ?_
  refine w_bipush hB 97 (by decide) dX7_isLetter_1 ?_
  refine w_icmp_lt hB 16 dX7_isLetter_3 (by decide) (fun hc => ?_) (fun hc => ?_)
  · replace hF := ifT hc hF
    refine w_iconst hB 0 (by decide) dX7_isLetter_16 ?_
    obtain ⟨e1, e2⟩ := retS hF
    subst e2
    exact w_zret hB (by decide) dX7_isLetter_17 e1
  · replace hF := ifF hc hF
    refine w_iload_n hB 0 dX7_isLetter_6 rfl rfl ?_
    refine w_bipush hB 122 (by decide) dX7_isLetter_7 ?_
    refine w_icmp_gt hB 16 dX7_isLetter_9 (by decide) (fun hc => ?_) (fun hc => ?_)
    · replace hF := ifT hc hF
      refine w_iconst hB 0 (by decide) dX7_isLetter_16 ?_
      obtain ⟨e1, e2⟩ := retS hF
      subst e2
      exact w_zret hB (by decide) dX7_isLetter_17 e1
    · replace hF := ifF hc hF
      refine w_iconst hB 1 (by decide) dX7_isLetter_12 ?_
      refine w_goto hB 17 dX7_isLetter_13 (by decide) ?_
      obtain ⟨e1, e2⟩ := retS hF
      subst e2
      exact w_zret hB (by decide) dX7_isLetter_17 e1
theorem c_X7_isLetter {K : Kt} {l : Launch} (hp : St K) {r : Int32} {M1 : Mem} {x0 : Int32} {M : Mem} (hF : f_X7_isLetter x0 M = some (r, M1)) : MT K l yX7_isLetter cX7_isLetter 1 (some .boolean) { frames := 0, cells := 0, slots := 0, locals := 0 } [vi x0] M (some (vi r)) M1 0 0 :=
  MT_of (by decide) rfl (Nat.le_of_ble_eq_true rfl) (fun X _ hB _ => b_X7_isLetter hp hB hF)
set_option maxRecDepth 100000 in
set_option maxHeartbeats 4000000 in
theorem b_X7_scanNumber_b106 {K : Kt} {X : Xt} (hp : St K) (hB : Bx K X { frames := 1, cells := 0, slots := 0, locals := 20 } cX7_scanNumber 1 RX7 none) {M1 : Mem} {ns1 : Nat} {M : Mem} (hF : f_X7_scanNumber_b106 ns1 M = some M1) : Wt K X (QM K X none M1 0 0) 0 0 M 106 [] [vr ns1, vr 208] := by
  unfold f_X7_scanNumber_b106 at hF
  obtain ⟨M1m, e_M1m, hF⟩ := bndS hF
  refine w_putR (C := "ReplayBooth$Token") hB ff_X7_4 (soM hp.1 sh_208 (by decide)) q_283 (by decide +kernel) cr_208_4 e_M1m dX7_scanNumber_106 ?_
  cases hF
  exact w_vret hB dX7_scanNumber_109
set_option maxRecDepth 100000 in
set_option maxHeartbeats 4000000 in
theorem b_X7_scanNumber_b83 {K : Kt} {X : Xt} (hp : St K) (hB : Bx K X { frames := 1, cells := 0, slots := 0, locals := 20 } cX7_scanNumber 1 RX7 none) {M1 : Mem} {M : Mem} (hF : f_X7_scanNumber_b83 M = some M1) : Wt K X (QM K X none M1 0 0) 0 0 M 83 [(0, vr 208)] [] := by
  unfold f_X7_scanNumber_b83 at hF
  refine w_aload_n hB 0 dX7_scanNumber_83 rfl rfl ?_
  refine w_aload_n hB 0 dX7_scanNumber_84 rfl rfl ?_
  refine w_getI hB ff_X7_3 (soM hp.1 sh_208 (by decide)) q_282 dX7_scanNumber_85 ?_
  refine w_aload_n hB 0 dX7_scanNumber_88 rfl rfl ?_
  refine w_getI hB ff_X7_5 (soM hp.1 sh_208 (by decide)) q_285 dX7_scanNumber_89 ?_
  refine w_isub hB dX7_scanNumber_92 ?_
  refine w_iconst hB 4 (by decide) dX7_scanNumber_93 ?_
  refine w_icmp_gt hB 103 dX7_scanNumber_94 (by decide) (fun hc => ?_) (fun hc => ?_)
  · replace hF := ifT hc hF
    refine w_gettok hB hp 2 ⟨by decide, by decide⟩ q_919 dX7_scanNumber_103 ?_
    exact Wt.sub (L' := []) [] rfl (b_X7_scanNumber_b106 hp hB hF)
  · replace hF := ifF hc hF
    refine w_gettok hB hp 4 ⟨by decide, by decide⟩ q_917 dX7_scanNumber_97 ?_
    refine w_goto hB 106 dX7_scanNumber_100 (by decide) ?_
    exact Wt.sub (L' := []) [] rfl (b_X7_scanNumber_b106 hp hB hF)
set_option maxRecDepth 100000 in
set_option maxHeartbeats 4000000 in
theorem b_X7_scanNumber_b67 {K : Kt} {X : Xt} (hp : St K) (hB : Bx K X { frames := 1, cells := 0, slots := 0, locals := 20 } cX7_scanNumber 1 RX7 none) {M1 : Mem} {rec0 : Mem → Option Mem}
    (h0 : ∀ M, rec0 M = some M1 → Wt K X (QM K X none M1 0 0) 0 0 M 0 [(0, vr 208)] []) {xs1 : Int32} {M : Mem} (hF : f_X7_scanNumber_b67 rec0 xs1 M = some M1) : Wt K X (QM K X none M1 0 0) 0 0 M 67 [(0, vr 208)] [vi xs1, vr 208] := by
  unfold f_X7_scanNumber_b67 at hF
  obtain ⟨M1m, e_M1m, hF⟩ := bndS hF
  refine w_putI hB ff_X7_6 (soM hp.1 sh_208 (by decide)) q_286 e_M1m dX7_scanNumber_67 ?_
  refine w_aload_n hB 0 dX7_scanNumber_70 rfl rfl ?_
  refine w_dup hB rfl dX7_scanNumber_71 ?_
  refine w_getI hB ff_X7_3 (soM hp.1 sh_208 (by decide)) q_282 dX7_scanNumber_72 ?_
  refine w_iconst hB 1 (by decide) dX7_scanNumber_75 ?_
  refine w_iadd hB dX7_scanNumber_76 ?_
  obtain ⟨M2m, e_M2m, hF⟩ := bndS hF
  refine w_putI hB ff_X7_3 (soM hp.1 sh_208 (by decide)) q_282 e_M2m dX7_scanNumber_77 ?_
  refine w_goto hB 0 dX7_scanNumber_80 (by decide) ?_
  exact Wt.sub (L' := [(0, vr 208)]) [0] rfl (h0 M2m hF)
set_option maxRecDepth 100000 in
set_option maxHeartbeats 4000000 in
theorem b_X7_scanNumber_b0_s {K : Kt} {X : Xt} (hp : St K) (hB : Bx K X { frames := 1, cells := 0, slots := 0, locals := 20 } cX7_scanNumber 1 RX7 none) {M1 : Mem} {rec0 : Mem → Option Mem}
    (h0 : ∀ M, rec0 M = some M1 → Wt K X (QM K X none M1 0 0) 0 0 M 0 [(0, vr 208)] []) {M : Mem} (hF : f_X7_scanNumber_b0_s rec0 M = some M1) : Wt K X (QM K X none M1 0 0) 0 0 M 0 [(0, vr 208)] [] := by
  unfold f_X7_scanNumber_b0_s at hF
  refine w_aload_n hB 0 dX7_scanNumber_0 rfl rfl ?_
  refine w_getI hB ff_X7_3 (soM hp.1 sh_208 (by decide)) q_282 dX7_scanNumber_1 ?_
  refine w_aload_n hB 0 dX7_scanNumber_4 rfl rfl ?_
  refine w_getI hB ff_X7_2 (soM hp.1 sh_208 (by decide)) q_281 dX7_scanNumber_5 ?_
  refine w_icmp_ge hB 83 dX7_scanNumber_8 (by decide) (fun hc => ?_) (fun hc => ?_)
  · replace hF := ifT hc hF
    exact Wt.sub (L' := [(0, vr 208)]) [0] rfl (b_X7_scanNumber_b83 hp hB hF)
  · replace hF := ifF hc hF
    refine w_aload_n hB 0 dX7_scanNumber_11 rfl rfl ?_
    refine w_getC hB (v := 65) ff_X7_0 (soM hp.1 sh_208 (by decide)) hp.1 cr_208_0 (by decide) q_279 dX7_scanNumber_12 ?_
    refine w_aload_n hB 0 dX7_scanNumber_15 rfl rfl ?_
    refine w_getI hB ff_X7_3 (soM hp.1 sh_208 (by decide)) q_282 dX7_scanNumber_16 ?_
    obtain ⟨g1, hF⟩ := gdS hF
    refine w_bald hB (soM hp.1 sh_65 (by decide)) (sl_s sh_65 (by decide) sl_65) g1 dX7_scanNumber_19 ?_
    obtain ⟨r1, M1m, hc_M1m, hF⟩ := clS hF
    refine w_callS hB (As := [vi (M.1 65 (M.1 208 3).toNatClampNeg)]) (st := []) cw_X7_72 q_911 (c_X7_isDigit hp hc_M1m) ⟨rfl, rfl⟩ (by decide) (by decide) rfl (Nat.le_of_ble_eq_true rfl) dX7_scanNumber_20 rfl ?_
    refine w_if_eq hB 83 dX7_scanNumber_23 (by decide) (fun hc => ?_) (fun hc => ?_)
    · replace hF := ifT hc hF
      exact Wt.sub (L' := [(0, vr 208)]) [0] rfl (b_X7_scanNumber_b83 hp hB hF)
    · replace hF := ifF hc hF
      refine w_aload_n hB 0 dX7_scanNumber_26 rfl rfl ?_
      refine w_aload_n hB 0 dX7_scanNumber_27 rfl rfl ?_
      refine w_getI hB ff_X7_3 (soM hp.1 sh_208 (by decide)) q_282 dX7_scanNumber_28 ?_
      refine w_aload_n hB 0 dX7_scanNumber_31 rfl rfl ?_
      refine w_getI hB ff_X7_5 (soM hp.1 sh_208 (by decide)) q_285 dX7_scanNumber_32 ?_
      refine w_isub hB dX7_scanNumber_35 ?_
      refine w_iconst hB 4 (by decide) dX7_scanNumber_36 ?_
      refine w_icmp_ge hB 63 dX7_scanNumber_37 (by decide) (fun hc => ?_) (fun hc => ?_)
      · replace hF := ifT hc hF
        refine w_aload_n hB 0 dX7_scanNumber_63 rfl rfl ?_
        refine w_getI hB ff_X7_6 (soM hp.1 sh_208 (by decide)) q_286 dX7_scanNumber_64 ?_
        exact Wt.sub (L' := [(0, vr 208)]) [0] rfl (b_X7_scanNumber_b67 hp hB h0 hF)
      · replace hF := ifF hc hF
        refine w_aload_n hB 0 dX7_scanNumber_40 rfl rfl ?_
        refine w_getI hB ff_X7_6 (soM hp.1 sh_208 (by decide)) q_286 dX7_scanNumber_41 ?_
        refine w_bipush hB 10 (by decide) dX7_scanNumber_44 ?_
        refine w_imul hB dX7_scanNumber_46 ?_
        refine w_aload_n hB 0 dX7_scanNumber_47 rfl rfl ?_
        refine w_getC hB (v := 65) ff_X7_0 (soM hp.1 sh_208 (by decide)) hp.1 cr_208_0 (by decide) q_279 dX7_scanNumber_48 ?_
        refine w_aload_n hB 0 dX7_scanNumber_51 rfl rfl ?_
        refine w_getI hB ff_X7_3 (soM hp.1 sh_208 (by decide)) q_282 dX7_scanNumber_52 ?_
        obtain ⟨g2, hF⟩ := gdS hF
        refine w_bald hB (soM hp.1 sh_65 (by decide)) (sl_s sh_65 (by decide) sl_65) g2 dX7_scanNumber_55 ?_
        refine w_iadd hB dX7_scanNumber_56 ?_
        refine w_bipush hB 48 (by decide) dX7_scanNumber_57 ?_
        refine w_isub hB dX7_scanNumber_59 ?_
        refine w_goto hB 67 dX7_scanNumber_60 (by decide) ?_
        exact Wt.sub (L' := [(0, vr 208)]) [0] rfl (b_X7_scanNumber_b67 hp hB h0 hF)
theorem b_X7_scanNumber_b0 {K : Kt} {X : Xt} (hp : St K) (hB : Bx K X { frames := 1, cells := 0, slots := 0, locals := 20 } cX7_scanNumber 1 RX7 none) {M1 : Mem} (k : Nat) : ∀ M, f_X7_scanNumber_b0 k M = some M1 → Wt K X (QM K X none M1 0 0) 0 0 M 0 [(0, vr 208)] [] := by
  refine lpN_ind (P := fun (f : Mem → Option Mem) => ∀ M, f M = some M1 → Wt K X (QM K X none M1 0 0) 0 0 M 0 [(0, vr 208)] []) (fun _ h => by cases h) (fun f hf M hF => ?_) k
  exact b_X7_scanNumber_b0_s hp hB hf hF
set_option maxRecDepth 100000 in
set_option maxHeartbeats 4000000 in
theorem b_X7_scanNumber {K : Kt} {X : Xt} (hp : St K) (hB : Bx K X { frames := 1, cells := 0, slots := 0, locals := 20 } cX7_scanNumber 1 RX7 none) {M1 : Mem} {M : Mem} (hF : f_X7_scanNumber M = some M1) : Wt K X (QM K X none M1 0 0) 0 0 M 0 [(0, vr 208)] [] := by
  unfold f_X7_scanNumber at hF
  exact Wt.sub (L' := [(0, vr 208)]) [0] rfl (b_X7_scanNumber_b0 hp hB fuel M hF)
theorem c_X7_scanNumber {K : Kt} {l : Launch} (hp : St K) {M1 : Mem} {M : Mem} (hF : f_X7_scanNumber M = some M1) : MT K l yX7_scanNumber cX7_scanNumber 1 none { frames := 1, cells := 0, slots := 0, locals := 20 } [vr 208] M none M1 0 0 :=
  MT_of (by decide) rfl (Nat.le_of_ble_eq_true rfl) (fun X _ hB _ => b_X7_scanNumber hp hB hF)
set_option maxRecDepth 100000 in
set_option maxHeartbeats 4000000 in
theorem b_X8_ofWord_b2_s {K : Kt} {X : Xt} (hp : St K) (hB : Bx K X { frames := 0, cells := 0, slots := 0, locals := 0 } cX8_ofWord 2 RX8 (some (.object "ReplayBooth$Token"))) {r : Nat} {M1 : Mem} {rec2 : Int32 → Int32 → Mem → Option (Nat × Mem)}
    (h2 : ∀ x0 x1 M, rec2 x0 x1 M = some (r, M1) → Wt K X (QM K X (some (vr r)) M1 0 0) 0 0 M 2 [(0, vi x0), (1, vi x1)] []) {x0 : Int32} {x1 : Int32} {M : Mem} (hF : f_X8_ofWord_b2_s rec2 x0 x1 M = some (r, M1)) : Wt K X (QM K X (some (vr r)) M1 0 0) 0 0 M 2 [(0, vi x0), (1, vi x1)] [] := by
  unfold f_X8_ofWord_b2_s at hF
  refine w_iload_n hB 1 dX8_ofWord_2 rfl rfl ?_
  refine w_getTOKS hB hp dX8_ofWord_3 ?_
  refine w_toklen hB hp dX8_ofWord_6 ?_
  refine w_icmp_ge hB 34 dX8_ofWord_7 (by decide) (fun hc => ?_) (fun hc => ?_)
  · replace hF := ifT hc hF
    refine w_gettok hB hp 3 ⟨by decide, by decide⟩ q_936 dX8_ofWord_34 ?_
    obtain ⟨e1, e2⟩ := retS hF
    subst e2
    exact w_aret hB dX8_ofWord_37 e1
  · replace hF := ifF hc hF
    refine w_getTOKS hB hp dX8_ofWord_10 ?_
    refine w_iload_n hB 1 dX8_ofWord_13 rfl rfl ?_
    obtain ⟨g1, hF⟩ := gdS hF
    refine w_tokld hB hp g1 dX8_ofWord_14 ?_
    refine w_tokcode hB hp (tok_in g1) q_1241 dX8_ofWord_15 ?_
    refine w_iload_n hB 0 dX8_ofWord_18 rfl rfl ?_
    refine w_icmp_ne hB 28 dX8_ofWord_19 (by decide) (fun hc => ?_) (fun hc => ?_)
    · replace hF := ifF hc hF
      obtain ⟨a1, e_a1, hF⟩ := bndS hF
      refine w_iinc hB 1 (v := 1) (L' := [(1, vi a1), (0, vi x0)]) dX8_ofWord_28 rfl (by decide) (by decide) e_a1 rfl ?_
      refine w_goto hB 2 dX8_ofWord_31 (by decide) ?_
      exact Wt.sub (L' := [(0, vi x0), (1, vi a1)]) [1, 0] rfl (h2 _ _ M hF)
    · replace hF := ifT hc hF
      refine w_getTOKS hB hp dX8_ofWord_22 ?_
      refine w_iload_n hB 1 dX8_ofWord_25 rfl rfl ?_
      refine w_tokld hB hp g1 dX8_ofWord_26 ?_
      obtain ⟨e1, e2⟩ := retS hF
      subst e2
      exact w_aret hB dX8_ofWord_27 e1
theorem b_X8_ofWord_b2 {K : Kt} {X : Xt} (hp : St K) (hB : Bx K X { frames := 0, cells := 0, slots := 0, locals := 0 } cX8_ofWord 2 RX8 (some (.object "ReplayBooth$Token"))) {r : Nat} {M1 : Mem} (k : Nat) : ∀ (x0 : Int32) (x1 : Int32) M, f_X8_ofWord_b2 k x0 x1 M = some (r, M1) → Wt K X (QM K X (some (vr r)) M1 0 0) 0 0 M 2 [(0, vi x0), (1, vi x1)] [] := by
  refine lpN_ind (P := fun (f : Int32 → Int32 → Mem → Option (Nat × Mem)) => ∀ (x0 : Int32) (x1 : Int32) M, f x0 x1 M = some (r, M1) → Wt K X (QM K X (some (vr r)) M1 0 0) 0 0 M 2 [(0, vi x0), (1, vi x1)] []) (fun _ _ _ h => by cases h) (fun f hf x0 x1 M hF => ?_) k
  exact b_X8_ofWord_b2_s hp hB hf hF
set_option maxRecDepth 100000 in
set_option maxHeartbeats 4000000 in
theorem b_X8_ofWord {K : Kt} {X : Xt} (hp : St K) (hB : Bx K X { frames := 0, cells := 0, slots := 0, locals := 0 } cX8_ofWord 2 RX8 (some (.object "ReplayBooth$Token"))) {r : Nat} {M1 : Mem} {x0 : Int32} {M : Mem} (hF : f_X8_ofWord x0 M = some (r, M1)) : Wt K X (QM K X (some (vr r)) M1 0 0) 0 0 M 0 [(0, vi x0)] [] := by
  unfold f_X8_ofWord at hF
  refine w_iconst hB 0 (by decide) dX8_ofWord_0 ?_
  refine w_istore_n hB (L' := [(1, vi 0), (0, vi x0)]) dX8_ofWord_1 rfl (by decide) rfl rfl ?_
  exact Wt.sub (L' := [(0, vi x0), (1, vi 0)]) [1, 0] rfl (b_X8_ofWord_b2 hp hB fuel _ _ M hF)
theorem c_X8_ofWord {K : Kt} {l : Launch} (hp : St K) {r : Nat} {M1 : Mem} {x0 : Int32} {M : Mem} (hF : f_X8_ofWord x0 M = some (r, M1)) : MT K l yX8_ofWord cX8_ofWord 2 (some (.object "ReplayBooth$Token")) { frames := 0, cells := 0, slots := 0, locals := 0 } [vi x0] M (some (vr r)) M1 0 0 :=
  MT_of (by decide) rfl (Nat.le_of_ble_eq_true rfl) (fun X _ hB _ => b_X8_ofWord hp hB hF)
set_option maxRecDepth 100000 in
set_option maxHeartbeats 4000000 in
theorem b_X8_withLetter {K : Kt} {X : Xt} (hp : St K) (hB : Bx K X { frames := 0, cells := 0, slots := 0, locals := 0 } cX8_withLetter 2 RX8 (some .int)) {r : Int32} {M1 : Mem} {x0 : Int32} {x1 : Int32} {M : Mem} (hF : f_X8_withLetter x0 x1 M = some (r, M1)) : Wt K X (QM K X (some (vi r)) M1 0 0) 0 0 M 0 [(0, vi x0), (1, vi x1)] [] := by
  unfold f_X8_withLetter at hF
  refine w_iload_n hB 0 dX8_withLetter_0 rfl rfl ?_
  refine w_bipush hB 32 (by decide) dX8_withLetter_1 ?_
  refine w_imul hB dX8_withLetter_3 ?_
  refine w_iload_n hB 1 dX8_withLetter_4 rfl rfl ?_
  refine w_iadd hB dX8_withLetter_5 ?_
  refine w_bipush hB 97 (by decide) dX8_withLetter_6 ?_
  refine w_isub hB dX8_withLetter_8 ?_
  refine w_iconst hB 1 (by decide) dX8_withLetter_9 ?_
  refine w_iadd hB dX8_withLetter_10 ?_
  obtain ⟨e1, e2⟩ := retS hF
  subst e2
  exact w_iret hB dX8_withLetter_11 e1
theorem c_X8_withLetter {K : Kt} {l : Launch} (hp : St K) {r : Int32} {M1 : Mem} {x0 : Int32} {x1 : Int32} {M : Mem} (hF : f_X8_withLetter x0 x1 M = some (r, M1)) : MT K l yX8_withLetter cX8_withLetter 2 (some .int) { frames := 0, cells := 0, slots := 0, locals := 0 } [vi x0, vi x1] M (some (vi r)) M1 0 0 :=
  MT_of (by decide) rfl (Nat.le_of_ble_eq_true rfl) (fun X _ hB _ => b_X8_withLetter hp hB hF)
set_option maxRecDepth 100000 in
set_option maxHeartbeats 4000000 in
theorem b_X7_scanWord_b108 {K : Kt} {X : Xt} (hp : St K) (hB : Bx K X { frames := 1, cells := 0, slots := 0, locals := 21 } cX7_scanWord 1 RX7 none) {M1 : Mem} {ns1 : Nat} {M : Mem} (hF : f_X7_scanWord_b108 ns1 M = some M1) : Wt K X (QM K X none M1 0 0) 0 0 M 108 [] [vr ns1, vr 208] := by
  unfold f_X7_scanWord_b108 at hF
  obtain ⟨M1m, e_M1m, hF⟩ := bndS hF
  refine w_putR (C := "ReplayBooth$Token") hB ff_X7_4 (soM hp.1 sh_208 (by decide)) q_283 (by decide +kernel) cr_208_4 e_M1m dX7_scanWord_108 ?_
  cases hF
  exact w_vret hB dX7_scanWord_111
set_option maxRecDepth 100000 in
set_option maxHeartbeats 4000000 in
theorem b_X7_scanWord_b80 {K : Kt} {X : Xt} (hp : St K) (hB : Bx K X { frames := 1, cells := 0, slots := 0, locals := 21 } cX7_scanWord 1 RX7 none) {M1 : Mem} {M : Mem} (hF : f_X7_scanWord_b80 M = some M1) : Wt K X (QM K X none M1 0 0) 0 0 M 80 [(0, vr 208)] [] := by
  unfold f_X7_scanWord_b80 at hF
  refine w_aload_n hB 0 dX7_scanWord_80 rfl rfl ?_
  refine w_aload_n hB 0 dX7_scanWord_81 rfl rfl ?_
  refine w_getI hB ff_X7_3 (soM hp.1 sh_208 (by decide)) q_282 dX7_scanWord_82 ?_
  refine w_aload_n hB 0 dX7_scanWord_85 rfl rfl ?_
  refine w_getI hB ff_X7_5 (soM hp.1 sh_208 (by decide)) q_285 dX7_scanWord_86 ?_
  refine w_isub hB dX7_scanWord_89 ?_
  refine w_bipush hB 6 (by decide) dX7_scanWord_90 ?_
  refine w_icmp_gt hB 105 dX7_scanWord_92 (by decide) (fun hc => ?_) (fun hc => ?_)
  · replace hF := ifT hc hF
    refine w_gettok hB hp 2 ⟨by decide, by decide⟩ q_919 dX7_scanWord_105 ?_
    exact Wt.sub (L' := []) [] rfl (b_X7_scanWord_b108 hp hB hF)
  · replace hF := ifF hc hF
    refine w_aload_n hB 0 dX7_scanWord_95 rfl rfl ?_
    refine w_getI hB ff_X7_6 (soM hp.1 sh_208 (by decide)) q_286 dX7_scanWord_96 ?_
    obtain ⟨o1, M1m, hc_M1m, hF⟩ := clS hF
    refine w_callS hB (As := [vi (M.1 208 6)]) (st := [vr 208]) cw_X7_98 q_932 (c_X8_ofWord hp hc_M1m) ⟨rfl, rfl⟩ (by decide) (by decide) rfl (Nat.le_of_ble_eq_true rfl) dX7_scanWord_99 rfl ?_
    refine w_goto hB 108 dX7_scanWord_102 (by decide) ?_
    exact Wt.sub (L' := []) [] rfl (b_X7_scanWord_b108 hp hB hF)
set_option maxRecDepth 100000 in
set_option maxHeartbeats 4000000 in
theorem b_X7_scanWord_b64 {K : Kt} {X : Xt} (hp : St K) (hB : Bx K X { frames := 1, cells := 0, slots := 0, locals := 21 } cX7_scanWord 1 RX7 none) {M1 : Mem} {rec0 : Mem → Option Mem}
    (h0 : ∀ M, rec0 M = some M1 → Wt K X (QM K X none M1 0 0) 0 0 M 0 [(0, vr 208)] []) {xs1 : Int32} {M : Mem} (hF : f_X7_scanWord_b64 rec0 xs1 M = some M1) : Wt K X (QM K X none M1 0 0) 0 0 M 64 [(0, vr 208)] [vi xs1, vr 208] := by
  unfold f_X7_scanWord_b64 at hF
  obtain ⟨M1m, e_M1m, hF⟩ := bndS hF
  refine w_putI hB ff_X7_6 (soM hp.1 sh_208 (by decide)) q_286 e_M1m dX7_scanWord_64 ?_
  refine w_aload_n hB 0 dX7_scanWord_67 rfl rfl ?_
  refine w_dup hB rfl dX7_scanWord_68 ?_
  refine w_getI hB ff_X7_3 (soM hp.1 sh_208 (by decide)) q_282 dX7_scanWord_69 ?_
  refine w_iconst hB 1 (by decide) dX7_scanWord_72 ?_
  refine w_iadd hB dX7_scanWord_73 ?_
  obtain ⟨M2m, e_M2m, hF⟩ := bndS hF
  refine w_putI hB ff_X7_3 (soM hp.1 sh_208 (by decide)) q_282 e_M2m dX7_scanWord_74 ?_
  refine w_goto hB 0 dX7_scanWord_77 (by decide) ?_
  exact Wt.sub (L' := [(0, vr 208)]) [0] rfl (h0 M2m hF)
set_option maxRecDepth 100000 in
set_option maxHeartbeats 4000000 in
theorem b_X7_scanWord_b0_s {K : Kt} {X : Xt} (hp : St K) (hB : Bx K X { frames := 1, cells := 0, slots := 0, locals := 21 } cX7_scanWord 1 RX7 none) {M1 : Mem} {rec0 : Mem → Option Mem}
    (h0 : ∀ M, rec0 M = some M1 → Wt K X (QM K X none M1 0 0) 0 0 M 0 [(0, vr 208)] []) {M : Mem} (hF : f_X7_scanWord_b0_s rec0 M = some M1) : Wt K X (QM K X none M1 0 0) 0 0 M 0 [(0, vr 208)] [] := by
  unfold f_X7_scanWord_b0_s at hF
  refine w_aload_n hB 0 dX7_scanWord_0 rfl rfl ?_
  refine w_getI hB ff_X7_3 (soM hp.1 sh_208 (by decide)) q_282 dX7_scanWord_1 ?_
  refine w_aload_n hB 0 dX7_scanWord_4 rfl rfl ?_
  refine w_getI hB ff_X7_2 (soM hp.1 sh_208 (by decide)) q_281 dX7_scanWord_5 ?_
  refine w_icmp_ge hB 80 dX7_scanWord_8 (by decide) (fun hc => ?_) (fun hc => ?_)
  · replace hF := ifT hc hF
    exact Wt.sub (L' := [(0, vr 208)]) [0] rfl (b_X7_scanWord_b80 hp hB hF)
  · replace hF := ifF hc hF
    refine w_aload_n hB 0 dX7_scanWord_11 rfl rfl ?_
    refine w_getC hB (v := 65) ff_X7_0 (soM hp.1 sh_208 (by decide)) hp.1 cr_208_0 (by decide) q_279 dX7_scanWord_12 ?_
    refine w_aload_n hB 0 dX7_scanWord_15 rfl rfl ?_
    refine w_getI hB ff_X7_3 (soM hp.1 sh_208 (by decide)) q_282 dX7_scanWord_16 ?_
    obtain ⟨g1, hF⟩ := gdS hF
    refine w_bald hB (soM hp.1 sh_65 (by decide)) (sl_s sh_65 (by decide) sl_65) g1 dX7_scanWord_19 ?_
    obtain ⟨r1, M1m, hc_M1m, hF⟩ := clS hF
    refine w_callS hB (As := [vi (M.1 65 (M.1 208 3).toNatClampNeg)]) (st := []) cw_X7_79 q_922 (c_X7_isLetter hp hc_M1m) ⟨rfl, rfl⟩ (by decide) (by decide) rfl (Nat.le_of_ble_eq_true rfl) dX7_scanWord_20 rfl ?_
    refine w_if_eq hB 80 dX7_scanWord_23 (by decide) (fun hc => ?_) (fun hc => ?_)
    · replace hF := ifT hc hF
      exact Wt.sub (L' := [(0, vr 208)]) [0] rfl (b_X7_scanWord_b80 hp hB hF)
    · replace hF := ifF hc hF
      refine w_aload_n hB 0 dX7_scanWord_26 rfl rfl ?_
      refine w_aload_n hB 0 dX7_scanWord_27 rfl rfl ?_
      refine w_getI hB ff_X7_3 (soM hp.1 sh_208 (by decide)) q_282 dX7_scanWord_28 ?_
      refine w_aload_n hB 0 dX7_scanWord_31 rfl rfl ?_
      refine w_getI hB ff_X7_5 (soM hp.1 sh_208 (by decide)) q_285 dX7_scanWord_32 ?_
      refine w_isub hB dX7_scanWord_35 ?_
      refine w_bipush hB 6 (by decide) dX7_scanWord_36 ?_
      refine w_icmp_ge hB 60 dX7_scanWord_38 (by decide) (fun hc => ?_) (fun hc => ?_)
      · replace hF := ifT hc hF
        refine w_aload_n hB 0 dX7_scanWord_60 rfl rfl ?_
        refine w_getI hB ff_X7_6 (soM hp.1 sh_208 (by decide)) q_286 dX7_scanWord_61 ?_
        exact Wt.sub (L' := [(0, vr 208)]) [0] rfl (b_X7_scanWord_b64 hp hB h0 hF)
      · replace hF := ifF hc hF
        refine w_aload_n hB 0 dX7_scanWord_41 rfl rfl ?_
        refine w_getI hB ff_X7_6 (soM hp.1 sh_208 (by decide)) q_286 dX7_scanWord_42 ?_
        refine w_aload_n hB 0 dX7_scanWord_45 rfl rfl ?_
        refine w_getC hB (v := 65) ff_X7_0 (soM hp.1 sh_208 (by decide)) hp.1 cr_208_0 (by decide) q_279 dX7_scanWord_46 ?_
        refine w_aload_n hB 0 dX7_scanWord_49 rfl rfl ?_
        refine w_getI hB ff_X7_3 (soM hp.1 sh_208 (by decide)) q_282 dX7_scanWord_50 ?_
        obtain ⟨g2, hF⟩ := gdS hF
        refine w_bald hB (soM hp.1 sh_65 (by decide)) (sl_s sh_65 (by decide) sl_65) g2 dX7_scanWord_53 ?_
        obtain ⟨r2, M2m, hc_M2m, hF⟩ := clS hF
        refine w_callS hB (As := [vi (M1m.1 208 6), vi (M1m.1 65 (M1m.1 208 3).toNatClampNeg)]) (st := [vr 208]) cw_X7_95 q_929 (c_X8_withLetter hp hc_M2m) ⟨rfl, rfl⟩ (by decide) (by decide) rfl (Nat.le_of_ble_eq_true rfl) dX7_scanWord_54 rfl ?_
        refine w_goto hB 64 dX7_scanWord_57 (by decide) ?_
        exact Wt.sub (L' := [(0, vr 208)]) [0] rfl (b_X7_scanWord_b64 hp hB h0 hF)
theorem b_X7_scanWord_b0 {K : Kt} {X : Xt} (hp : St K) (hB : Bx K X { frames := 1, cells := 0, slots := 0, locals := 21 } cX7_scanWord 1 RX7 none) {M1 : Mem} (k : Nat) : ∀ M, f_X7_scanWord_b0 k M = some M1 → Wt K X (QM K X none M1 0 0) 0 0 M 0 [(0, vr 208)] [] := by
  refine lpN_ind (P := fun (f : Mem → Option Mem) => ∀ M, f M = some M1 → Wt K X (QM K X none M1 0 0) 0 0 M 0 [(0, vr 208)] []) (fun _ h => by cases h) (fun f hf M hF => ?_) k
  exact b_X7_scanWord_b0_s hp hB hf hF
set_option maxRecDepth 100000 in
set_option maxHeartbeats 4000000 in
theorem b_X7_scanWord {K : Kt} {X : Xt} (hp : St K) (hB : Bx K X { frames := 1, cells := 0, slots := 0, locals := 21 } cX7_scanWord 1 RX7 none) {M1 : Mem} {M : Mem} (hF : f_X7_scanWord M = some M1) : Wt K X (QM K X none M1 0 0) 0 0 M 0 [(0, vr 208)] [] := by
  unfold f_X7_scanWord at hF
  exact Wt.sub (L' := [(0, vr 208)]) [0] rfl (b_X7_scanWord_b0 hp hB fuel M hF)
theorem c_X7_scanWord {K : Kt} {l : Launch} (hp : St K) {M1 : Mem} {M : Mem} (hF : f_X7_scanWord M = some M1) : MT K l yX7_scanWord cX7_scanWord 1 none { frames := 1, cells := 0, slots := 0, locals := 21 } [vr 208] M none M1 0 0 :=
  MT_of (by decide) rfl (Nat.le_of_ble_eq_true rfl) (fun X _ hB _ => b_X7_scanWord hp hB hF)
set_option maxRecDepth 100000 in
set_option maxHeartbeats 4000000 in
theorem b_X8_ofSign {K : Kt} {X : Xt} (hp : St K) (hB : Bx K X { frames := 0, cells := 0, slots := 0, locals := 0 } cX8_ofSign 1 RX8 (some (.object "ReplayBooth$Token"))) {r : Nat} {M1 : Mem} {x0 : Int32} {M : Mem} (hF : f_X8_ofSign x0 M = some (r, M1)) : Wt K X (QM K X (some (vr r)) M1 0 0) 0 0 M 0 [(0, vi x0)] [] := by
  unfold f_X8_ofSign at hF
  refine w_iload_n hB 0 dX8_ofSign_0 rfl rfl ?_
  by_cases ht33 : x0 = 33
  · replace hF := ifT ht33 hF
    refine w_lsw hB 64 dX8_ofSign_1 (off := 63) (by decide) (by rw [ht33]; decide) (by decide) ?_
    refine w_gettok hB hp 8 ⟨by decide, by decide⟩ q_947 dX8_ofSign_64 ?_
    obtain ⟨e1, e2⟩ := retS hF
    subst e2
    exact w_aret hB dX8_ofSign_67 e1
  replace hF := ifF ht33 hF
  by_cases ht40 : x0 = 40
  · replace hF := ifT ht40 hF
    refine w_lsw hB 56 dX8_ofSign_1 (off := 55) (by decide) (by rw [ht40]; decide) (by decide) ?_
    refine w_gettok hB hp 6 ⟨by decide, by decide⟩ q_943 dX8_ofSign_56 ?_
    obtain ⟨e1, e2⟩ := retS hF
    subst e2
    exact w_aret hB dX8_ofSign_59 e1
  replace hF := ifF ht40 hF
  by_cases ht41 : x0 = 41
  · replace hF := ifT ht41 hF
    refine w_lsw hB 60 dX8_ofSign_1 (off := 59) (by decide) (by rw [ht41]; decide) (by decide) ?_
    refine w_gettok hB hp 7 ⟨by decide, by decide⟩ q_945 dX8_ofSign_60 ?_
    obtain ⟨e1, e2⟩ := retS hF
    subst e2
    exact w_aret hB dX8_ofSign_63 e1
  replace hF := ifF ht41 hF
  by_cases ht59 : x0 = 59
  · replace hF := ifT ht59 hF
    refine w_lsw hB 52 dX8_ofSign_1 (off := 51) (by decide) (by rw [ht59]; decide) (by decide) ?_
    refine w_gettok hB hp 5 ⟨by decide, by decide⟩ q_941 dX8_ofSign_52 ?_
    obtain ⟨e1, e2⟩ := retS hF
    subst e2
    exact w_aret hB dX8_ofSign_55 e1
  replace hF := ifF ht59 hF
  by_cases ht63 : x0 = 63
  · replace hF := ifT ht63 hF
    refine w_lsw hB 68 dX8_ofSign_1 (off := 67) (by decide) (by rw [ht63]; decide) (by decide) ?_
    refine w_gettok hB hp 9 ⟨by decide, by decide⟩ q_949 dX8_ofSign_68 ?_
    obtain ⟨e1, e2⟩ := retS hF
    subst e2
    exact w_aret hB dX8_ofSign_71 e1
  replace hF := ifF ht63 hF
  refine w_lsw hB 72 dX8_ofSign_1 (off := 71) (by decide) (by show Op.lookupswitch.offset [(33, 63), (40, 55), (41, 59), (59, 51), (63, 67)] 71 _ = 71; rw [lv_osw ht33 (show (33 : Int32).toInt = 33 by decide), lv_osw ht40 (show (40 : Int32).toInt = 40 by decide), lv_osw ht41 (show (41 : Int32).toInt = 41 by decide), lv_osw ht59 (show (59 : Int32).toInt = 59 by decide), lv_osw ht63 (show (63 : Int32).toInt = 63 by decide)]; rfl) (by decide) ?_
  refine w_gettok hB hp 2 ⟨by decide, by decide⟩ q_951 dX8_ofSign_72 ?_
  obtain ⟨e1, e2⟩ := retS hF
  subst e2
  exact w_aret hB dX8_ofSign_75 e1
theorem c_X8_ofSign {K : Kt} {l : Launch} (hp : St K) {r : Nat} {M1 : Mem} {x0 : Int32} {M : Mem} (hF : f_X8_ofSign x0 M = some (r, M1)) : MT K l yX8_ofSign cX8_ofSign 1 (some (.object "ReplayBooth$Token")) { frames := 0, cells := 0, slots := 0, locals := 0 } [vi x0] M (some (vr r)) M1 0 0 :=
  MT_of (by decide) rfl (Nat.le_of_ble_eq_true rfl) (fun X _ hB _ => b_X8_ofSign hp hB hF)
set_option maxRecDepth 100000 in
set_option maxHeartbeats 4000000 in
theorem b_X7_advance_b52 {K : Kt} {X : Xt} (hp : St K) (hB : Bx K X { frames := 2, cells := 0, slots := 0, locals := 41 } cX7_advance 1 RX7 none) {M1 : Mem} {M : Mem} (hF : f_X7_advance_b52 M = some M1) : Wt K X (QM K X none M1 0 0) 0 0 M 52 [(0, vr 208)] [] := by
  unfold f_X7_advance_b52 at hF
  refine w_aload_n hB 0 dX7_advance_52 rfl rfl ?_
  refine w_aload_n hB 0 dX7_advance_53 rfl rfl ?_
  refine w_getI hB ff_X7_3 (soM hp.1 sh_208 (by decide)) q_282 dX7_advance_54 ?_
  obtain ⟨M1m, e_M1m, hF⟩ := bndS hF
  refine w_putI hB ff_X7_5 (soM hp.1 sh_208 (by decide)) q_285 e_M1m dX7_advance_57 ?_
  refine w_aload_n hB 0 dX7_advance_60 rfl rfl ?_
  refine w_iconst hB 0 (by decide) dX7_advance_61 ?_
  obtain ⟨M2m, e_M2m, hF⟩ := bndS hF
  refine w_putI hB ff_X7_6 (soM hp.1 sh_208 (by decide)) q_286 e_M2m dX7_advance_62 ?_
  refine w_aload_n hB 0 dX7_advance_65 rfl rfl ?_
  refine w_getI hB ff_X7_3 (soM hp.1 sh_208 (by decide)) q_282 dX7_advance_66 ?_
  refine w_aload_n hB 0 dX7_advance_69 rfl rfl ?_
  refine w_getI hB ff_X7_2 (soM hp.1 sh_208 (by decide)) q_281 dX7_advance_70 ?_
  refine w_icmp_lt hB 86 dX7_advance_73 (by decide) (fun hc => ?_) (fun hc => ?_)
  · replace hF := ifT hc hF
    refine w_aload_n hB 0 dX7_advance_86 rfl rfl ?_
    refine w_getC hB (v := 65) ff_X7_0 (soM hp.1 sh_208 (by decide)) hp.1 cr_208_0 (by decide) q_279 dX7_advance_87 ?_
    refine w_aload_n hB 0 dX7_advance_90 rfl rfl ?_
    refine w_getI hB ff_X7_3 (soM hp.1 sh_208 (by decide)) q_282 dX7_advance_91 ?_
    obtain ⟨g1, hF⟩ := gdS hF
    refine w_bald hB (soM hp.1 sh_65 (by decide)) (sl_s sh_65 (by decide) sl_65) g1 dX7_advance_94 ?_
    obtain ⟨r1, M3m, hc_M3m, hF⟩ := clS hF
    refine w_callS hB (As := [vi (M2m.1 65 (M2m.1 208 3).toNatClampNeg)]) (st := []) cw_X7_72 q_911 (c_X7_isDigit hp hc_M3m) ⟨rfl, rfl⟩ (by decide) (by decide) rfl (Nat.le_of_ble_eq_true rfl) dX7_advance_95 rfl ?_
    refine w_if_eq hB 108 dX7_advance_98 (by decide) (fun hc => ?_) (fun hc => ?_)
    · replace hF := ifT hc hF
      refine w_aload_n hB 0 dX7_advance_108 rfl rfl ?_
      refine w_getC hB (v := 65) ff_X7_0 (soM hp.1 sh_208 (by decide)) hp.1 cr_208_0 (by decide) q_279 dX7_advance_109 ?_
      refine w_aload_n hB 0 dX7_advance_112 rfl rfl ?_
      refine w_getI hB ff_X7_3 (soM hp.1 sh_208 (by decide)) q_282 dX7_advance_113 ?_
      obtain ⟨g2, hF⟩ := gdS hF
      refine w_bald hB (soM hp.1 sh_65 (by decide)) (sl_s sh_65 (by decide) sl_65) g2 dX7_advance_116 ?_
      obtain ⟨r2, M4m, hc_M4m, hF⟩ := clS hF
      refine w_callS hB (As := [vi (M3m.1 65 (M3m.1 208 3).toNatClampNeg)]) (st := []) cw_X7_79 q_922 (c_X7_isLetter hp hc_M4m) ⟨rfl, rfl⟩ (by decide) (by decide) rfl (Nat.le_of_ble_eq_true rfl) dX7_advance_117 rfl ?_
      refine w_if_eq hB 130 dX7_advance_120 (by decide) (fun hc => ?_) (fun hc => ?_)
      · replace hF := ifT hc hF
        refine w_aload_n hB 0 dX7_advance_130 rfl rfl ?_
        refine w_aload_n hB 0 dX7_advance_131 rfl rfl ?_
        refine w_getC hB (v := 65) ff_X7_0 (soM hp.1 sh_208 (by decide)) hp.1 cr_208_0 (by decide) q_279 dX7_advance_132 ?_
        refine w_aload_n hB 0 dX7_advance_135 rfl rfl ?_
        refine w_getI hB ff_X7_3 (soM hp.1 sh_208 (by decide)) q_282 dX7_advance_136 ?_
        obtain ⟨g3, hF⟩ := gdS hF
        refine w_bald hB (soM hp.1 sh_65 (by decide)) (sl_s sh_65 (by decide) sl_65) g3 dX7_advance_139 ?_
        obtain ⟨o1, M5m, hc_M5m, hF⟩ := clS hF
        refine w_callS hB (As := [vi (M4m.1 65 (M4m.1 208 3).toNatClampNeg)]) (st := [vr 208]) cw_X7_85 q_939 (c_X8_ofSign hp hc_M5m) ⟨rfl, rfl⟩ (by decide) (by decide) rfl (Nat.le_of_ble_eq_true rfl) dX7_advance_140 rfl ?_
        obtain ⟨M6m, e_M6m, hF⟩ := bndS hF
        refine w_putR (C := "ReplayBooth$Token") hB ff_X7_4 (soM hp.1 sh_208 (by decide)) q_283 (by decide +kernel) cr_208_4 e_M6m dX7_advance_143 ?_
        refine w_aload_n hB 0 dX7_advance_146 rfl rfl ?_
        refine w_dup hB rfl dX7_advance_147 ?_
        refine w_getI hB ff_X7_3 (soM hp.1 sh_208 (by decide)) q_282 dX7_advance_148 ?_
        refine w_iconst hB 1 (by decide) dX7_advance_151 ?_
        refine w_iadd hB dX7_advance_152 ?_
        obtain ⟨M7m, e_M7m, hF⟩ := bndS hF
        refine w_putI hB ff_X7_3 (soM hp.1 sh_208 (by decide)) q_282 e_M7m dX7_advance_153 ?_
        cases hF
        exact w_vret hB dX7_advance_156
      · replace hF := ifF hc hF
        refine w_aload_n hB 0 dX7_advance_123 rfl rfl ?_
        obtain ⟨M8m, hc_M8m, hF⟩ := clvS hF
        refine w_callV hB (ci := 6) (As := []) (st := []) cw_X7_82 q_925 q_926 rfl (soM hp.1 sh_208 (by decide)) (c_X7_scanWord hp hc_M8m) ⟨rfl, rfl⟩ (by decide) (by decide) rfl (Nat.le_of_ble_eq_true rfl) dX7_advance_124 rfl ?_
        refine w_goto hB 156 dX7_advance_127 (by decide) ?_
        cases hF
        exact w_vret hB dX7_advance_156
    · replace hF := ifF hc hF
      refine w_aload_n hB 0 dX7_advance_101 rfl rfl ?_
      obtain ⟨M9m, hc_M9m, hF⟩ := clvS hF
      refine w_callV hB (ci := 6) (As := []) (st := []) cw_X7_76 q_914 q_915 rfl (soM hp.1 sh_208 (by decide)) (c_X7_scanNumber hp hc_M9m) ⟨rfl, rfl⟩ (by decide) (by decide) rfl (Nat.le_of_ble_eq_true rfl) dX7_advance_102 rfl ?_
      refine w_goto hB 156 dX7_advance_105 (by decide) ?_
      cases hF
      exact w_vret hB dX7_advance_156
  · replace hF := ifF hc hF
    refine w_aload_n hB 0 dX7_advance_76 rfl rfl ?_
    refine w_gettok hB hp 1 ⟨by decide, by decide⟩ q_275 dX7_advance_77 ?_
    obtain ⟨M10m, e_M10m, hF⟩ := bndS hF
    refine w_putR (C := "ReplayBooth$Token") hB ff_X7_4 (soM hp.1 sh_208 (by decide)) q_283 (by decide +kernel) cr_208_4 e_M10m dX7_advance_80 ?_
    refine w_goto hB 156 dX7_advance_83 (by decide) ?_
    cases hF
    exact w_vret hB dX7_advance_156
set_option maxRecDepth 100000 in
set_option maxHeartbeats 4000000 in
theorem b_X7_advance_b39 {K : Kt} {X : Xt} (hp : St K) (hB : Bx K X { frames := 2, cells := 0, slots := 0, locals := 41 } cX7_advance 1 RX7 none) {M1 : Mem} {rec0 : Mem → Option Mem}
    (h0 : ∀ M, rec0 M = some M1 → Wt K X (QM K X none M1 0 0) 0 0 M 0 [(0, vr 208)] []) {M : Mem} (hF : f_X7_advance_b39 rec0 M = some M1) : Wt K X (QM K X none M1 0 0) 0 0 M 39 [(0, vr 208)] [] := by
  unfold f_X7_advance_b39 at hF
  refine w_aload_n hB 0 dX7_advance_39 rfl rfl ?_
  refine w_dup hB rfl dX7_advance_40 ?_
  refine w_getI hB ff_X7_3 (soM hp.1 sh_208 (by decide)) q_282 dX7_advance_41 ?_
  refine w_iconst hB 1 (by decide) dX7_advance_44 ?_
  refine w_iadd hB dX7_advance_45 ?_
  obtain ⟨M1m, e_M1m, hF⟩ := bndS hF
  refine w_putI hB ff_X7_3 (soM hp.1 sh_208 (by decide)) q_282 e_M1m dX7_advance_46 ?_
  refine w_goto hB 0 dX7_advance_49 (by decide) ?_
  exact Wt.sub (L' := [(0, vr 208)]) [0] rfl (h0 M1m hF)
set_option maxRecDepth 100000 in
set_option maxHeartbeats 4000000 in
theorem b_X7_advance_b0_s {K : Kt} {X : Xt} (hp : St K) (hB : Bx K X { frames := 2, cells := 0, slots := 0, locals := 41 } cX7_advance 1 RX7 none) {M1 : Mem} {rec0 : Mem → Option Mem}
    (h0 : ∀ M, rec0 M = some M1 → Wt K X (QM K X none M1 0 0) 0 0 M 0 [(0, vr 208)] []) {M : Mem} (hF : f_X7_advance_b0_s rec0 M = some M1) : Wt K X (QM K X none M1 0 0) 0 0 M 0 [(0, vr 208)] [] := by
  unfold f_X7_advance_b0_s at hF
  refine w_aload_n hB 0 dX7_advance_0 rfl rfl ?_
  refine w_getI hB ff_X7_3 (soM hp.1 sh_208 (by decide)) q_282 dX7_advance_1 ?_
  refine w_aload_n hB 0 dX7_advance_4 rfl rfl ?_
  refine w_getI hB ff_X7_2 (soM hp.1 sh_208 (by decide)) q_281 dX7_advance_5 ?_
  refine w_icmp_ge hB 52 dX7_advance_8 (by decide) (fun hc => ?_) (fun hc => ?_)
  · replace hF := ifT hc hF
    exact Wt.sub (L' := [(0, vr 208)]) [0] rfl (b_X7_advance_b52 hp hB hF)
  · replace hF := ifF hc hF
    refine w_aload_n hB 0 dX7_advance_11 rfl rfl ?_
    refine w_getC hB (v := 65) ff_X7_0 (soM hp.1 sh_208 (by decide)) hp.1 cr_208_0 (by decide) q_279 dX7_advance_12 ?_
    refine w_aload_n hB 0 dX7_advance_15 rfl rfl ?_
    refine w_getI hB ff_X7_3 (soM hp.1 sh_208 (by decide)) q_282 dX7_advance_16 ?_
    obtain ⟨g1, hF⟩ := gdS hF
    refine w_bald hB (soM hp.1 sh_65 (by decide)) (sl_s sh_65 (by decide) sl_65) g1 dX7_advance_19 ?_
    refine w_bipush hB 32 (by decide) dX7_advance_20 ?_
    refine w_icmp_eq hB 39 dX7_advance_22 (by decide) (fun hc => ?_) (fun hc => ?_)
    · replace hF := ifT hc hF
      exact Wt.sub (L' := [(0, vr 208)]) [0] rfl (b_X7_advance_b39 hp hB h0 hF)
    · replace hF := ifF hc hF
      refine w_aload_n hB 0 dX7_advance_25 rfl rfl ?_
      refine w_getC hB (v := 65) ff_X7_0 (soM hp.1 sh_208 (by decide)) hp.1 cr_208_0 (by decide) q_279 dX7_advance_26 ?_
      refine w_aload_n hB 0 dX7_advance_29 rfl rfl ?_
      refine w_getI hB ff_X7_3 (soM hp.1 sh_208 (by decide)) q_282 dX7_advance_30 ?_
      refine w_bald hB (soM hp.1 sh_65 (by decide)) (sl_s sh_65 (by decide) sl_65) g1 dX7_advance_33 ?_
      refine w_bipush hB 10 (by decide) dX7_advance_34 ?_
      refine w_icmp_ne hB 52 dX7_advance_36 (by decide) (fun hc => ?_) (fun hc => ?_)
      · replace hF := ifF hc hF
        exact Wt.sub (L' := [(0, vr 208)]) [0] rfl (b_X7_advance_b52 hp hB hF)
      · replace hF := ifT hc hF
        exact Wt.sub (L' := [(0, vr 208)]) [0] rfl (b_X7_advance_b39 hp hB h0 hF)
theorem b_X7_advance_b0 {K : Kt} {X : Xt} (hp : St K) (hB : Bx K X { frames := 2, cells := 0, slots := 0, locals := 41 } cX7_advance 1 RX7 none) {M1 : Mem} (k : Nat) : ∀ M, f_X7_advance_b0 k M = some M1 → Wt K X (QM K X none M1 0 0) 0 0 M 0 [(0, vr 208)] [] := by
  refine lpN_ind (P := fun (f : Mem → Option Mem) => ∀ M, f M = some M1 → Wt K X (QM K X none M1 0 0) 0 0 M 0 [(0, vr 208)] []) (fun _ h => by cases h) (fun f hf M hF => ?_) k
  exact b_X7_advance_b0_s hp hB hf hF
set_option maxRecDepth 100000 in
set_option maxHeartbeats 4000000 in
theorem b_X7_advance {K : Kt} {X : Xt} (hp : St K) (hB : Bx K X { frames := 2, cells := 0, slots := 0, locals := 41 } cX7_advance 1 RX7 none) {M1 : Mem} {M : Mem} (hF : f_X7_advance M = some M1) : Wt K X (QM K X none M1 0 0) 0 0 M 0 [(0, vr 208)] [] := by
  unfold f_X7_advance at hF
  exact Wt.sub (L' := [(0, vr 208)]) [0] rfl (b_X7_advance_b0 hp hB fuel M hF)
theorem c_X7_advance {K : Kt} {l : Launch} (hp : St K) {M1 : Mem} {M : Mem} (hF : f_X7_advance M = some M1) : MT K l yX7_advance cX7_advance 1 none { frames := 2, cells := 0, slots := 0, locals := 41 } [vr 208] M none M1 0 0 :=
  MT_of (by decide) rfl (Nat.le_of_ble_eq_true rfl) (fun X _ hB _ => b_X7_advance hp hB hF)
set_option maxRecDepth 100000 in
set_option maxHeartbeats 4000000 in
theorem b_X7_begin {K : Kt} {X : Xt} (hp : St K) (hB : Bx K X { frames := 3, cells := 0, slots := 0, locals := 64 } cX7_begin 3 RX7 none) {M1 : Mem} {n1 : Nat} {x2 : Int32} {M : Mem} (hF : f_X7_begin n1 x2 M = some M1) : Wt K X (QM K X none M1 0 0) 0 0 M 0 [(0, vr 208), (1, vr n1), (2, vi x2)] [] := by
  unfold f_X7_begin at hF
  refine w_aload_n hB 1 dX7_begin_0 rfl rfl ?_
  obtain ⟨g1, hF⟩ := gdS hF
  obtain ⟨M1m, hc_M1m, hF⟩ := clvS hF
  refine w_callV hB (ci := 7) (As := []) (st := []) cw_X7_39 q_185 q_186 rfl (soM hp.1 g1 (by decide)) (c_X9_clear hp hc_M1m) ⟨rfl, rfl⟩ (by decide) (by decide) rfl (Nat.le_of_ble_eq_true rfl) dX7_begin_1 rfl ?_
  refine w_aload_n hB 0 dX7_begin_4 rfl rfl ?_
  refine w_aload_n hB 1 dX7_begin_5 rfl rfl ?_
  obtain ⟨M2m, e_M2m, hF⟩ := bndS hF
  refine w_putR (C := "ReplayBooth$Told") hB ff_X7_1 (soM hp.1 sh_208 (by decide)) q_280 (by decide +kernel) cr_208_1 e_M2m dX7_begin_6 ?_
  refine w_aload_n hB 0 dX7_begin_9 rfl rfl ?_
  refine w_iload_n hB 2 dX7_begin_10 rfl rfl ?_
  refine w_aload_n hB 0 dX7_begin_11 rfl rfl ?_
  refine w_getC hB (v := 65) ff_X7_0 (soM hp.1 sh_208 (by decide)) hp.1 cr_208_0 (by decide) q_279 dX7_begin_12 ?_
  refine w_alen hB (v := 600) (c := 2) (soM hp.1 sh_65 (by decide)) (by decide) (sl_s sh_65 (by decide) sl_65) (by decide) dX7_begin_15 ?_
  refine w_min hB q_905 (by decide) (Nat.le_of_ble_eq_true rfl) (by decide) dX7_begin_16 ?_
  obtain ⟨M3m, e_M3m, hF⟩ := bndS hF
  refine w_putI hB ff_X7_2 (soM hp.1 sh_208 (by decide)) q_281 e_M3m dX7_begin_19 ?_
  refine w_aload_n hB 0 dX7_begin_22 rfl rfl ?_
  refine w_iconst hB 0 (by decide) dX7_begin_23 ?_
  obtain ⟨M4m, e_M4m, hF⟩ := bndS hF
  refine w_putI hB ff_X7_3 (soM hp.1 sh_208 (by decide)) q_282 e_M4m dX7_begin_24 ?_
  refine w_aload_n hB 0 dX7_begin_27 rfl rfl ?_
  refine w_iconst hB 0 (by decide) dX7_begin_28 ?_
  obtain ⟨M5m, e_M5m, hF⟩ := bndS hF
  refine w_putI hB ff_X7_9 (soM hp.1 sh_208 (by decide)) q_290 e_M5m dX7_begin_29 ?_
  refine w_aload_n hB 0 dX7_begin_32 rfl rfl ?_
  refine w_iconst hB 0 (by decide) dX7_begin_33 ?_
  obtain ⟨M6m, e_M6m, hF⟩ := bndS hF
  refine w_putI hB ff_X7_13 (soM hp.1 sh_208 (by decide)) q_294 e_M6m dX7_begin_34 ?_
  refine w_aload_n hB 0 dX7_begin_37 rfl rfl ?_
  obtain ⟨M7m, hc_M7m, hF⟩ := clvS hF
  refine w_callV hB (ci := 6) (As := []) (st := []) cw_X7_63 q_907 q_908 rfl (soM hp.1 sh_208 (by decide)) (c_X7_advance hp hc_M7m) ⟨rfl, rfl⟩ (by decide) (by decide) rfl (Nat.le_of_ble_eq_true rfl) dX7_begin_38 rfl ?_
  cases hF
  exact w_vret hB dX7_begin_41
theorem c_X7_begin {K : Kt} {l : Launch} (hp : St K) {M1 : Mem} {n1 : Nat} {x2 : Int32} {M : Mem} (hF : f_X7_begin n1 x2 M = some M1) : MT K l yX7_begin cX7_begin 3 none { frames := 3, cells := 0, slots := 0, locals := 64 } [vr 208, vr n1, vi x2] M none M1 0 0 :=
  MT_of (by decide) rfl (Nat.le_of_ble_eq_true rfl) (fun X _ hB _ => b_X7_begin hp hB hF)
set_option maxRecDepth 100000 in
set_option maxHeartbeats 4000000 in
theorem b_X7_fail {K : Kt} {X : Xt} (hp : St K) (hB : Bx K X { frames := 0, cells := 0, slots := 0, locals := 0 } cX7_fail 2 RX7 (some .boolean)) {r : Int32} {M1 : Mem} {x1 : Int32} {M : Mem} (hF : f_X7_fail x1 M = some (r, M1)) : Wt K X (QM K X (some (vi r)) M1 0 0) 0 0 M 0 [(0, vr 208), (1, vi x1)] [] := by
  unfold f_X7_fail at hF
  refine w_aload_n hB 0 dX7_fail_0 rfl rfl ?_
  refine w_bipush hB 8 (by decide) dX7_fail_1 ?_
  refine w_aload_n hB 0 dX7_fail_3 rfl rfl ?_
  refine w_getI hB ff_X7_5 (soM hp.1 sh_208 (by decide)) q_285 dX7_fail_4 ?_
  refine w_imul hB dX7_fail_7 ?_
  refine w_iload_n hB 1 dX7_fail_8 rfl rfl ?_
  refine w_iadd hB dX7_fail_9 ?_
  obtain ⟨M1m, e_M1m, hF⟩ := bndS hF
  refine w_putI hB ff_X7_8 (soM hp.1 sh_208 (by decide)) q_289 e_M1m dX7_fail_10 ?_
  refine w_iconst hB 0 (by decide) dX7_fail_13 ?_
  obtain ⟨e1, e2⟩ := retS hF
  subst e2
  exact w_zret hB (by decide) dX7_fail_14 e1
theorem c_X7_fail {K : Kt} {l : Launch} (hp : St K) {r : Int32} {M1 : Mem} {x1 : Int32} {M : Mem} (hF : f_X7_fail x1 M = some (r, M1)) : MT K l yX7_fail cX7_fail 2 (some .boolean) { frames := 0, cells := 0, slots := 0, locals := 0 } [vr 208, vi x1] M (some (vi r)) M1 0 0 :=
  MT_of (by decide) rfl (Nat.le_of_ble_eq_true rfl) (fun X _ hB _ => b_X7_fail hp hB hF)
set_option maxRecDepth 100000 in
set_option maxHeartbeats 4000000 in
theorem b_X7_take {K : Kt} {X : Xt} (hp : St K) (hB : Bx K X { frames := 3, cells := 0, slots := 0, locals := 61 } cX7_take 2 RX7 (some .boolean)) {r : Int32} {M1 : Mem} {n1 : Nat} {M : Mem} (hF : f_X7_take n1 M = some (r, M1)) : Wt K X (QM K X (some (vi r)) M1 0 0) 0 0 M 0 [(0, vr 208), (1, vr n1)] [] := by
  unfold f_X7_take at hF
  refine w_aload_n hB 0 dX7_take_0 rfl rfl ?_
  refine w_getR hB ff_X7_4 (soM hp.1 sh_208 (by decide)) q_283 dX7_take_1 ?_
  refine w_aload_n hB 1 dX7_take_4 rfl rfl ?_
  obtain ⟨g1, hF⟩ := gdS hF
  obtain ⟨g2, hF⟩ := gdS hF
  refine w_acmp_eq hB 14 g1 g2 dX7_take_5 (by decide) (fun hc => ?_) (fun hc => ?_)
  · replace hF := ifT hc hF
    refine w_aload_n hB 0 dX7_take_14 rfl rfl ?_
    obtain ⟨M1m, hc_M1m, hF⟩ := clvS hF
    refine w_callV hB (ci := 6) (As := []) (st := []) cw_X7_63 q_907 q_908 rfl (soM hp.1 sh_208 (by decide)) (c_X7_advance hp hc_M1m) ⟨rfl, rfl⟩ (by decide) (by decide) rfl (Nat.le_of_ble_eq_true rfl) dX7_take_15 rfl ?_
    refine w_iconst hB 1 (by decide) dX7_take_18 ?_
    obtain ⟨e1, e2⟩ := retS hF
    subst e2
    exact w_zret hB (by decide) dX7_take_19 e1
  · replace hF := ifF hc hF
    refine w_aload_n hB 0 dX7_take_8 rfl rfl ?_
    refine w_iconst hB 1 (by decide) dX7_take_9 ?_
    obtain ⟨r1, M2m, hc_M2m, hF⟩ := clS hF
    refine w_callV hB (ci := 6) (As := [vi 1]) (st := []) cw_X7_104 q_978 q_979 rfl (soM hp.1 sh_208 (by decide)) (c_X7_fail hp hc_M2m) ⟨rfl, rfl⟩ (by decide) (by decide) rfl (Nat.le_of_ble_eq_true rfl) dX7_take_10 rfl ?_
    obtain ⟨g3, hF⟩ := gdS hF
    obtain ⟨e1, e2⟩ := retS hF
    subst e2
    exact w_zret hB g3 dX7_take_13 e1
theorem c_X7_take {K : Kt} {l : Launch} (hp : St K) {r : Int32} {M1 : Mem} {n1 : Nat} {M : Mem} (hF : f_X7_take n1 M = some (r, M1)) : MT K l yX7_take cX7_take 2 (some .boolean) { frames := 3, cells := 0, slots := 0, locals := 61 } [vr 208, vr n1] M (some (vi r)) M1 0 0 :=
  MT_of (by decide) rfl (Nat.le_of_ble_eq_true rfl) (fun X _ hB _ => b_X7_take hp hB hF)
set_option maxRecDepth 100000 in
set_option maxHeartbeats 4000000 in
theorem b_X7_skip_b13 {K : Kt} {X : Xt} (hp : St K) (hB : Bx K X { frames := 3, cells := 0, slots := 0, locals := 61 } cX7_skip 3 RX7 (some .boolean)) {r : Int32} {M1 : Mem} {xs0 : Int32} {M : Mem} (hF : f_X7_skip_b13 xs0 M = some (r, M1)) : Wt K X (QM K X (some (vi r)) M1 0 0) 0 0 M 13 [(0, vr 208)] [vi xs0] := by
  unfold f_X7_skip_b13 at hF
  refine w_istore_n hB (L' := [(2, vi xs0), (0, vr 208)]) dX7_skip_13 rfl (by decide) rfl rfl ?_
  refine w_iload_n hB 0 dX7_skip_14 rfl rfl ?_
  refine w_if_eq hB 22 dX7_skip_15 (by decide) (fun hc => ?_) (fun hc => ?_)
  · replace hF := ifT hc hF
    refine w_iload_n hB 0 dX7_skip_22 rfl rfl ?_
    obtain ⟨g1, hF⟩ := gdS hF
    obtain ⟨e1, e2⟩ := retS hF
    subst e2
    exact w_zret hB g1 dX7_skip_23 e1
  · replace hF := ifF hc hF
    refine w_aload_n hB 1 dX7_skip_18 rfl rfl ?_
    obtain ⟨M1m, hc_M1m, hF⟩ := clvS hF
    refine w_callV hB (ci := 6) (As := []) (st := []) cw_X7_63 q_907 q_908 rfl (soM hp.1 sh_208 (by decide)) (c_X7_advance hp hc_M1m) ⟨rfl, rfl⟩ (by decide) (by decide) rfl (Nat.le_of_ble_eq_true rfl) dX7_skip_19 rfl ?_
    refine w_iload_n hB 0 dX7_skip_22 rfl rfl ?_
    obtain ⟨g2, hF⟩ := gdS hF
    obtain ⟨e1, e2⟩ := retS hF
    subst e2
    exact w_zret hB g2 dX7_skip_23 e1
set_option maxRecDepth 100000 in
set_option maxHeartbeats 4000000 in
theorem b_X7_skip {K : Kt} {X : Xt} (hp : St K) (hB : Bx K X { frames := 3, cells := 0, slots := 0, locals := 61 } cX7_skip 3 RX7 (some .boolean)) {r : Int32} {M1 : Mem} {n1 : Nat} {M : Mem} (hF : f_X7_skip n1 M = some (r, M1)) : Wt K X (QM K X (some (vi r)) M1 0 0) 0 0 M 0 [(0, vr 208), (1, vr n1)] [] := by
  unfold f_X7_skip at hF
  refine w_aload_n hB 0 dX7_skip_0 rfl rfl ?_
  refine w_getR hB ff_X7_4 (soM hp.1 sh_208 (by decide)) q_283 dX7_skip_1 ?_
  refine w_aload_n hB 1 dX7_skip_4 rfl rfl ?_
  obtain ⟨g1, hF⟩ := gdS hF
  obtain ⟨g2, hF⟩ := gdS hF
  refine w_acmp_ne hB 12 g1 g2 dX7_skip_5 (by decide) (fun hc => ?_) (fun hc => ?_)
  · replace hF := ifF hc hF
    refine w_iconst hB 0 (by decide) dX7_skip_12 ?_
    exact Wt.sub (L' := [(0, vr 208)]) [0] rfl (b_X7_skip_b13 hp hB hF)
  · replace hF := ifT hc hF
    refine w_iconst hB 1 (by decide) dX7_skip_8 ?_
    refine w_goto hB 13 dX7_skip_9 (by decide) ?_
    exact Wt.sub (L' := [(0, vr 208)]) [0] rfl (b_X7_skip_b13 hp hB hF)
theorem c_X7_skip {K : Kt} {l : Launch} (hp : St K) {r : Int32} {M1 : Mem} {n1 : Nat} {M : Mem} (hF : f_X7_skip n1 M = some (r, M1)) : MT K l yX7_skip cX7_skip 3 (some .boolean) { frames := 3, cells := 0, slots := 0, locals := 61 } [vr 208, vr n1] M (some (vi r)) M1 0 0 :=
  MT_of (by decide) rfl (Nat.le_of_ble_eq_true rfl) (fun X _ hB _ => b_X7_skip hp hB hF)
set_option maxRecDepth 100000 in
set_option maxHeartbeats 4000000 in
theorem b_X7_takeNumber_b32 {K : Kt} {X : Xt} (hp : St K) (hB : Bx K X { frames := 3, cells := 0, slots := 0, locals := 61 } cX7_takeNumber 3 RX7 (some .boolean)) {r : Int32} {M1 : Mem} {M : Mem} (hF : f_X7_takeNumber_b32 M = some (r, M1)) : Wt K X (QM K X (some (vi r)) M1 0 0) 0 0 M 32 [(0, vr 208)] [] := by
  unfold f_X7_takeNumber_b32 at hF
  refine w_aload_n hB 0 dX7_takeNumber_32 rfl rfl ?_
  refine w_iconst hB 3 (by decide) dX7_takeNumber_33 ?_
  obtain ⟨r1, M1m, hc_M1m, hF⟩ := clS hF
  refine w_callV hB (ci := 6) (As := [vi 3]) (st := []) cw_X7_104 q_978 q_979 rfl (soM hp.1 sh_208 (by decide)) (c_X7_fail hp hc_M1m) ⟨rfl, rfl⟩ (by decide) (by decide) rfl (Nat.le_of_ble_eq_true rfl) dX7_takeNumber_34 rfl ?_
  obtain ⟨g1, hF⟩ := gdS hF
  obtain ⟨e1, e2⟩ := retS hF
  subst e2
  exact w_zret hB g1 dX7_takeNumber_37 e1
set_option maxRecDepth 100000 in
set_option maxHeartbeats 4000000 in
theorem b_X7_takeNumber {K : Kt} {X : Xt} (hp : St K) (hB : Bx K X { frames := 3, cells := 0, slots := 0, locals := 61 } cX7_takeNumber 3 RX7 (some .boolean)) {r : Int32} {M1 : Mem} {x1 : Int32} {x2 : Int32} {M : Mem} (hF : f_X7_takeNumber x1 x2 M = some (r, M1)) : Wt K X (QM K X (some (vi r)) M1 0 0) 0 0 M 0 [(0, vr 208), (1, vi x1), (2, vi x2)] [] := by
  unfold f_X7_takeNumber at hF
  refine w_aload_n hB 0 dX7_takeNumber_0 rfl rfl ?_
  refine w_getR hB ff_X7_4 (soM hp.1 sh_208 (by decide)) q_283 dX7_takeNumber_1 ?_
  refine w_gettok hB hp 4 ⟨by decide, by decide⟩ q_917 dX7_takeNumber_4 ?_
  obtain ⟨g1, hF⟩ := gdS hF
  refine w_acmp_eq hB 16 g1 (by decide) dX7_takeNumber_7 (by decide) (fun hc => ?_) (fun hc => ?_)
  · replace hF := ifT hc hF
    refine w_aload_n hB 0 dX7_takeNumber_16 rfl rfl ?_
    refine w_getI hB ff_X7_6 (soM hp.1 sh_208 (by decide)) q_286 dX7_takeNumber_17 ?_
    refine w_iload_n hB 1 dX7_takeNumber_20 rfl rfl ?_
    refine w_icmp_lt hB 32 dX7_takeNumber_21 (by decide) (fun hc => ?_) (fun hc => ?_)
    · replace hF := ifT hc hF
      exact Wt.sub (L' := [(0, vr 208)]) [0] rfl (b_X7_takeNumber_b32 hp hB hF)
    · replace hF := ifF hc hF
      refine w_aload_n hB 0 dX7_takeNumber_24 rfl rfl ?_
      refine w_getI hB ff_X7_6 (soM hp.1 sh_208 (by decide)) q_286 dX7_takeNumber_25 ?_
      refine w_iload_n hB 2 dX7_takeNumber_28 rfl rfl ?_
      refine w_icmp_le hB 38 dX7_takeNumber_29 (by decide) (fun hc => ?_) (fun hc => ?_)
      · replace hF := ifT hc hF
        refine w_aload_n hB 0 dX7_takeNumber_38 rfl rfl ?_
        refine w_aload_n hB 0 dX7_takeNumber_39 rfl rfl ?_
        refine w_getI hB ff_X7_6 (soM hp.1 sh_208 (by decide)) q_286 dX7_takeNumber_40 ?_
        obtain ⟨M1m, e_M1m, hF⟩ := bndS hF
        refine w_putI hB ff_X7_7 (soM hp.1 sh_208 (by decide)) q_287 e_M1m dX7_takeNumber_43 ?_
        refine w_aload_n hB 0 dX7_takeNumber_46 rfl rfl ?_
        obtain ⟨M2m, hc_M2m, hF⟩ := clvS hF
        refine w_callV hB (ci := 6) (As := []) (st := []) cw_X7_63 q_907 q_908 rfl (soM hp.1 sh_208 (by decide)) (c_X7_advance hp hc_M2m) ⟨rfl, rfl⟩ (by decide) (by decide) rfl (Nat.le_of_ble_eq_true rfl) dX7_takeNumber_47 rfl ?_
        refine w_iconst hB 1 (by decide) dX7_takeNumber_50 ?_
        obtain ⟨e1, e2⟩ := retS hF
        subst e2
        exact w_zret hB (by decide) dX7_takeNumber_51 e1
      · replace hF := ifF hc hF
        exact Wt.sub (L' := [(0, vr 208)]) [0] rfl (b_X7_takeNumber_b32 hp hB hF)
  · replace hF := ifF hc hF
    refine w_aload_n hB 0 dX7_takeNumber_10 rfl rfl ?_
    refine w_iconst hB 1 (by decide) dX7_takeNumber_11 ?_
    obtain ⟨r1, M3m, hc_M3m, hF⟩ := clS hF
    refine w_callV hB (ci := 6) (As := [vi 1]) (st := []) cw_X7_104 q_978 q_979 rfl (soM hp.1 sh_208 (by decide)) (c_X7_fail hp hc_M3m) ⟨rfl, rfl⟩ (by decide) (by decide) rfl (Nat.le_of_ble_eq_true rfl) dX7_takeNumber_12 rfl ?_
    obtain ⟨g2, hF⟩ := gdS hF
    obtain ⟨e1, e2⟩ := retS hF
    subst e2
    exact w_zret hB g2 dX7_takeNumber_15 e1
theorem c_X7_takeNumber {K : Kt} {l : Launch} (hp : St K) {r : Int32} {M1 : Mem} {x1 : Int32} {x2 : Int32} {M : Mem} (hF : f_X7_takeNumber x1 x2 M = some (r, M1)) : MT K l yX7_takeNumber cX7_takeNumber 3 (some .boolean) { frames := 3, cells := 0, slots := 0, locals := 61 } [vr 208, vi x1, vi x2] M (some (vi r)) M1 0 0 :=
  MT_of (by decide) rfl (Nat.le_of_ble_eq_true rfl) (fun X _ hB _ => b_X7_takeNumber hp hB hF)
set_option maxRecDepth 100000 in
set_option maxHeartbeats 4000000 in
theorem b_X7_takeMark_b35 {K : Kt} {X : Xt} (hp : St K) (hB : Bx K X { frames := 3, cells := 0, slots := 0, locals := 61 } cX7_takeMark 2 RX7 (some .boolean)) {r : Int32} {M1 : Mem} {M : Mem} (hF : f_X7_takeMark_b35 M = some (r, M1)) : Wt K X (QM K X (some (vi r)) M1 0 0) 0 0 M 35 [(0, vr 208)] [] := by
  unfold f_X7_takeMark_b35 at hF
  refine w_aload_n hB 0 dX7_takeMark_35 rfl rfl ?_
  refine w_iconst hB 3 (by decide) dX7_takeMark_36 ?_
  obtain ⟨r1, M1m, hc_M1m, hF⟩ := clS hF
  refine w_callV hB (ci := 6) (As := [vi 3]) (st := []) cw_X7_104 q_978 q_979 rfl (soM hp.1 sh_208 (by decide)) (c_X7_fail hp hc_M1m) ⟨rfl, rfl⟩ (by decide) (by decide) rfl (Nat.le_of_ble_eq_true rfl) dX7_takeMark_37 rfl ?_
  obtain ⟨g1, hF⟩ := gdS hF
  obtain ⟨e1, e2⟩ := retS hF
  subst e2
  exact w_zret hB g1 dX7_takeMark_40 e1
set_option maxRecDepth 100000 in
set_option maxHeartbeats 4000000 in
theorem b_X7_takeMark {K : Kt} {X : Xt} (hp : St K) (hB : Bx K X { frames := 3, cells := 0, slots := 0, locals := 61 } cX7_takeMark 2 RX7 (some .boolean)) {r : Int32} {M1 : Mem} {x1 : Int32} {M : Mem} (hF : f_X7_takeMark x1 M = some (r, M1)) : Wt K X (QM K X (some (vi r)) M1 0 0) 0 0 M 0 [(0, vr 208), (1, vi x1)] [] := by
  unfold f_X7_takeMark at hF
  refine w_aload_n hB 0 dX7_takeMark_0 rfl rfl ?_
  refine w_getR hB ff_X7_4 (soM hp.1 sh_208 (by decide)) q_283 dX7_takeMark_1 ?_
  refine w_gettok hB hp 4 ⟨by decide, by decide⟩ q_917 dX7_takeMark_4 ?_
  obtain ⟨g1, hF⟩ := gdS hF
  refine w_acmp_eq hB 16 g1 (by decide) dX7_takeMark_7 (by decide) (fun hc => ?_) (fun hc => ?_)
  · replace hF := ifT hc hF
    refine w_aload_n hB 0 dX7_takeMark_16 rfl rfl ?_
    refine w_getI hB ff_X7_6 (soM hp.1 sh_208 (by decide)) q_286 dX7_takeMark_17 ?_
    refine w_iconst hB 4 (by decide) dX7_takeMark_20 ?_
    refine w_icmp_ge hB 35 dX7_takeMark_21 (by decide) (fun hc => ?_) (fun hc => ?_)
    · replace hF := ifT hc hF
      exact Wt.sub (L' := [(0, vr 208)]) [0] rfl (b_X7_takeMark_b35 hp hB hF)
    · replace hF := ifF hc hF
      refine w_iload_n hB 1 dX7_takeMark_24 rfl rfl ?_
      refine w_aload_n hB 0 dX7_takeMark_25 rfl rfl ?_
      refine w_getI hB ff_X7_6 (soM hp.1 sh_208 (by decide)) q_286 dX7_takeMark_26 ?_
      refine w_ishr hB dX7_takeMark_29 ?_
      refine w_iconst hB 1 (by decide) dX7_takeMark_30 ?_
      refine w_iand hB dX7_takeMark_31 ?_
      refine w_if_eq hB 41 dX7_takeMark_32 (by decide) (fun hc => ?_) (fun hc => ?_)
      · replace hF := ifT hc hF
        refine w_aload_n hB 0 dX7_takeMark_41 rfl rfl ?_
        refine w_aload_n hB 0 dX7_takeMark_42 rfl rfl ?_
        refine w_getI hB ff_X7_6 (soM hp.1 sh_208 (by decide)) q_286 dX7_takeMark_43 ?_
        obtain ⟨M1m, e_M1m, hF⟩ := bndS hF
        refine w_putI hB ff_X7_7 (soM hp.1 sh_208 (by decide)) q_287 e_M1m dX7_takeMark_46 ?_
        refine w_aload_n hB 0 dX7_takeMark_49 rfl rfl ?_
        obtain ⟨M2m, hc_M2m, hF⟩ := clvS hF
        refine w_callV hB (ci := 6) (As := []) (st := []) cw_X7_63 q_907 q_908 rfl (soM hp.1 sh_208 (by decide)) (c_X7_advance hp hc_M2m) ⟨rfl, rfl⟩ (by decide) (by decide) rfl (Nat.le_of_ble_eq_true rfl) dX7_takeMark_50 rfl ?_
        refine w_iconst hB 1 (by decide) dX7_takeMark_53 ?_
        obtain ⟨e1, e2⟩ := retS hF
        subst e2
        exact w_zret hB (by decide) dX7_takeMark_54 e1
      · replace hF := ifF hc hF
        exact Wt.sub (L' := [(0, vr 208)]) [0] rfl (b_X7_takeMark_b35 hp hB hF)
  · replace hF := ifF hc hF
    refine w_aload_n hB 0 dX7_takeMark_10 rfl rfl ?_
    refine w_iconst hB 1 (by decide) dX7_takeMark_11 ?_
    obtain ⟨r1, M3m, hc_M3m, hF⟩ := clS hF
    refine w_callV hB (ci := 6) (As := [vi 1]) (st := []) cw_X7_104 q_978 q_979 rfl (soM hp.1 sh_208 (by decide)) (c_X7_fail hp hc_M3m) ⟨rfl, rfl⟩ (by decide) (by decide) rfl (Nat.le_of_ble_eq_true rfl) dX7_takeMark_12 rfl ?_
    obtain ⟨g2, hF⟩ := gdS hF
    obtain ⟨e1, e2⟩ := retS hF
    subst e2
    exact w_zret hB g2 dX7_takeMark_15 e1
theorem c_X7_takeMark {K : Kt} {l : Launch} (hp : St K) {r : Int32} {M1 : Mem} {x1 : Int32} {M : Mem} (hF : f_X7_takeMark x1 M = some (r, M1)) : MT K l yX7_takeMark cX7_takeMark 2 (some .boolean) { frames := 3, cells := 0, slots := 0, locals := 61 } [vr 208, vi x1] M (some (vi r)) M1 0 0 :=
  MT_of (by decide) rfl (Nat.le_of_ble_eq_true rfl) (fun X _ hB _ => b_X7_takeMark hp hB hF)
set_option maxRecDepth 100000 in
set_option maxHeartbeats 4000000 in
theorem b_X7_giveName_b103 {K : Kt} {X : Xt} (hp : St K) (hB : Bx K X { frames := 3, cells := 0, slots := 0, locals := 61 } cX7_giveName 4 RX7 (some .boolean)) {r : Int32} {M1 : Mem} {M : Mem} (hF : f_X7_giveName_b103 M = some (r, M1)) : Wt K X (QM K X (some (vi r)) M1 0 0) 0 0 M 103 [(0, vr 208)] [] := by
  unfold f_X7_giveName_b103 at hF
  refine w_aload_n hB 0 dX7_giveName_103 rfl rfl ?_
  obtain ⟨M1m, hc_M1m, hF⟩ := clvS hF
  refine w_callV hB (ci := 6) (As := []) (st := []) cw_X7_63 q_907 q_908 rfl (soM hp.1 sh_208 (by decide)) (c_X7_advance hp hc_M1m) ⟨rfl, rfl⟩ (by decide) (by decide) rfl (Nat.le_of_ble_eq_true rfl) dX7_giveName_104 rfl ?_
  refine w_iconst hB 1 (by decide) dX7_giveName_107 ?_
  obtain ⟨e1, e2⟩ := retS hF
  subst e2
  exact w_zret hB (by decide) dX7_giveName_108 e1
set_option maxRecDepth 100000 in
set_option maxHeartbeats 4000000 in
theorem b_X7_giveName_b18_s {K : Kt} {X : Xt} (hp : St K) (hB : Bx K X { frames := 3, cells := 0, slots := 0, locals := 61 } cX7_giveName 4 RX7 (some .boolean)) {r : Int32} {M1 : Mem} {rec18 : Nat → Int32 → Int32 → Mem → Option (Int32 × Mem)}
    (h18 : ∀ n1 x2 x3 M, rec18 n1 x2 x3 M = some (r, M1) → Wt K X (QM K X (some (vi r)) M1 0 0) 0 0 M 18 [(0, vr 208), (1, vr n1), (2, vi x2), (3, vi x3)] []) {n1 : Nat} {x2 : Int32} {x3 : Int32} {M : Mem} (hF : f_X7_giveName_b18_s rec18 n1 x2 x3 M = some (r, M1)) : Wt K X (QM K X (some (vi r)) M1 0 0) 0 0 M 18 [(0, vr 208), (1, vr n1), (2, vi x2), (3, vi x3)] [] := by
  unfold f_X7_giveName_b18_s at hF
  refine w_iload_n hB 3 dX7_giveName_18 rfl rfl ?_
  refine w_aload_n hB 0 dX7_giveName_19 rfl rfl ?_
  refine w_getI hB ff_X7_9 (soM hp.1 sh_208 (by decide)) q_290 dX7_giveName_20 ?_
  refine w_icmp_ge hB 51 dX7_giveName_23 (by decide) (fun hc => ?_) (fun hc => ?_)
  · replace hF := ifT hc hF
    refine w_aload_n hB 0 dX7_giveName_51 rfl rfl ?_
    refine w_getI hB ff_X7_9 (soM hp.1 sh_208 (by decide)) q_290 dX7_giveName_52 ?_
    refine w_bipush hB 25 (by decide) dX7_giveName_55 ?_
    refine w_icmp_ge hB 103 dX7_giveName_57 (by decide) (fun hc => ?_) (fun hc => ?_)
    · replace hF := ifT hc hF
      exact Wt.sub (L' := [(0, vr 208)]) [0] rfl (b_X7_giveName_b103 hp hB hF)
    · replace hF := ifF hc hF
      refine w_aload_n hB 0 dX7_giveName_60 rfl rfl ?_
      refine w_getC hB (v := 209) ff_X7_10 (soM hp.1 sh_208 (by decide)) hp.1 cr_208_10 (by decide) q_291 dX7_giveName_61 ?_
      refine w_aload_n hB 0 dX7_giveName_64 rfl rfl ?_
      refine w_getI hB ff_X7_9 (soM hp.1 sh_208 (by decide)) q_290 dX7_giveName_65 ?_
      refine w_aload_n hB 0 dX7_giveName_68 rfl rfl ?_
      refine w_getI hB ff_X7_6 (soM hp.1 sh_208 (by decide)) q_286 dX7_giveName_69 ?_
      obtain ⟨g1, hF⟩ := gdS hF
      obtain ⟨M1m, e_M1m, hF⟩ := bndS hF
      refine w_iast hB (soM hp.1 sh_209 (by decide)) (sl_s sh_209 (by decide) sl_209) g1 e_M1m dX7_giveName_72 ?_
      refine w_aload_n hB 0 dX7_giveName_73 rfl rfl ?_
      refine w_getC hB (v := 210) ff_X7_11 (soM hp.1 sh_208 (by decide)) hp.1 cr_208_11 (by decide) q_292 dX7_giveName_74 ?_
      refine w_aload_n hB 0 dX7_giveName_77 rfl rfl ?_
      refine w_getI hB ff_X7_9 (soM hp.1 sh_208 (by decide)) q_290 dX7_giveName_78 ?_
      refine w_aload_n hB 1 dX7_giveName_81 rfl rfl ?_
      obtain ⟨g2, hF⟩ := gdS hF
      obtain ⟨g3, hF⟩ := gdS hF
      obtain ⟨M2m, e_M2m, hF⟩ := bndS hF
      refine w_aastT hB hp sh_210 sl_210 g3 g2 (cr_210_n _) e_M2m dX7_giveName_82 ?_
      refine w_aload_n hB 0 dX7_giveName_83 rfl rfl ?_
      refine w_getC hB (v := 211) ff_X7_12 (soM hp.1 sh_208 (by decide)) hp.1 cr_208_12 (by decide) q_293 dX7_giveName_84 ?_
      refine w_aload_n hB 0 dX7_giveName_87 rfl rfl ?_
      refine w_getI hB ff_X7_9 (soM hp.1 sh_208 (by decide)) q_290 dX7_giveName_88 ?_
      refine w_iload_n hB 2 dX7_giveName_91 rfl rfl ?_
      obtain ⟨g4, hF⟩ := gdS hF
      obtain ⟨M3m, e_M3m, hF⟩ := bndS hF
      refine w_iast hB (soM hp.1 sh_211 (by decide)) (sl_s sh_211 (by decide) sl_211) g4 e_M3m dX7_giveName_92 ?_
      refine w_aload_n hB 0 dX7_giveName_93 rfl rfl ?_
      refine w_dup hB rfl dX7_giveName_94 ?_
      refine w_getI hB ff_X7_9 (soM hp.1 sh_208 (by decide)) q_290 dX7_giveName_95 ?_
      refine w_iconst hB 1 (by decide) dX7_giveName_98 ?_
      refine w_iadd hB dX7_giveName_99 ?_
      obtain ⟨M4m, e_M4m, hF⟩ := bndS hF
      refine w_putI hB ff_X7_9 (soM hp.1 sh_208 (by decide)) q_290 e_M4m dX7_giveName_100 ?_
      exact Wt.sub (L' := [(0, vr 208)]) [0] rfl (b_X7_giveName_b103 hp hB hF)
  · replace hF := ifF hc hF
    refine w_aload_n hB 0 dX7_giveName_26 rfl rfl ?_
    refine w_getC hB (v := 209) ff_X7_10 (soM hp.1 sh_208 (by decide)) hp.1 cr_208_10 (by decide) q_291 dX7_giveName_27 ?_
    refine w_iload_n hB 3 dX7_giveName_30 rfl rfl ?_
    obtain ⟨g5, hF⟩ := gdS hF
    refine w_iald hB (soM hp.1 sh_209 (by decide)) (sl_s sh_209 (by decide) sl_209) g5 dX7_giveName_31 ?_
    refine w_aload_n hB 0 dX7_giveName_32 rfl rfl ?_
    refine w_getI hB ff_X7_6 (soM hp.1 sh_208 (by decide)) q_286 dX7_giveName_33 ?_
    refine w_icmp_ne hB 45 dX7_giveName_36 (by decide) (fun hc => ?_) (fun hc => ?_)
    · replace hF := ifF hc hF
      obtain ⟨a1, e_a1, hF⟩ := bndS hF
      refine w_iinc hB 3 (v := 1) (L' := [(3, vi a1), (0, vr 208), (1, vr n1), (2, vi x2)]) dX7_giveName_45 rfl (by decide) (by decide) e_a1 rfl ?_
      refine w_goto hB 18 dX7_giveName_48 (by decide) ?_
      exact Wt.sub (L' := [(0, vr 208), (1, vr n1), (2, vi x2), (3, vi a1)]) [1, 2, 3, 0] rfl (h18 _ _ _ M hF)
    · replace hF := ifT hc hF
      refine w_aload_n hB 0 dX7_giveName_39 rfl rfl ?_
      refine w_iconst hB 2 (by decide) dX7_giveName_40 ?_
      obtain ⟨r1, M5m, hc_M5m, hF⟩ := clS hF
      refine w_callV hB (ci := 6) (As := [vi 2]) (st := []) cw_X7_104 q_978 q_979 rfl (soM hp.1 sh_208 (by decide)) (c_X7_fail hp hc_M5m) ⟨rfl, rfl⟩ (by decide) (by decide) rfl (Nat.le_of_ble_eq_true rfl) dX7_giveName_41 rfl ?_
      obtain ⟨g6, hF⟩ := gdS hF
      obtain ⟨e1, e2⟩ := retS hF
      subst e2
      exact w_zret hB g6 dX7_giveName_44 e1
theorem b_X7_giveName_b18 {K : Kt} {X : Xt} (hp : St K) (hB : Bx K X { frames := 3, cells := 0, slots := 0, locals := 61 } cX7_giveName 4 RX7 (some .boolean)) {r : Int32} {M1 : Mem} (k : Nat) : ∀ (n1 : Nat) (x2 : Int32) (x3 : Int32) M, f_X7_giveName_b18 k n1 x2 x3 M = some (r, M1) → Wt K X (QM K X (some (vi r)) M1 0 0) 0 0 M 18 [(0, vr 208), (1, vr n1), (2, vi x2), (3, vi x3)] [] := by
  refine lpN_ind (P := fun (f : Nat → Int32 → Int32 → Mem → Option (Int32 × Mem)) => ∀ (n1 : Nat) (x2 : Int32) (x3 : Int32) M, f n1 x2 x3 M = some (r, M1) → Wt K X (QM K X (some (vi r)) M1 0 0) 0 0 M 18 [(0, vr 208), (1, vr n1), (2, vi x2), (3, vi x3)] []) (fun _ _ _ _ h => by cases h) (fun f hf n1 x2 x3 M hF => ?_) k
  exact b_X7_giveName_b18_s hp hB hf hF
set_option maxRecDepth 100000 in
set_option maxHeartbeats 4000000 in
theorem b_X7_giveName {K : Kt} {X : Xt} (hp : St K) (hB : Bx K X { frames := 3, cells := 0, slots := 0, locals := 61 } cX7_giveName 4 RX7 (some .boolean)) {r : Int32} {M1 : Mem} {n1 : Nat} {x2 : Int32} {M : Mem} (hF : f_X7_giveName n1 x2 M = some (r, M1)) : Wt K X (QM K X (some (vi r)) M1 0 0) 0 0 M 0 [(0, vr 208), (1, vr n1), (2, vi x2)] [] := by
  unfold f_X7_giveName at hF
  refine w_aload_n hB 0 dX7_giveName_0 rfl rfl ?_
  refine w_getR hB ff_X7_4 (soM hp.1 sh_208 (by decide)) q_283 dX7_giveName_1 ?_
  refine w_gettok hB hp 3 ⟨by decide, by decide⟩ q_991 dX7_giveName_4 ?_
  obtain ⟨g1, hF⟩ := gdS hF
  refine w_acmp_eq hB 16 g1 (by decide) dX7_giveName_7 (by decide) (fun hc => ?_) (fun hc => ?_)
  · replace hF := ifT hc hF
    refine w_iconst hB 0 (by decide) dX7_giveName_16 ?_
    refine w_istore_n hB (L' := [(3, vi 0), (0, vr 208), (1, vr n1), (2, vi x2)]) dX7_giveName_17 rfl (by decide) rfl rfl ?_
    exact Wt.sub (L' := [(0, vr 208), (1, vr n1), (2, vi x2), (3, vi 0)]) [1, 2, 3, 0] rfl (b_X7_giveName_b18 hp hB fuel _ _ _ M hF)
  · replace hF := ifF hc hF
    refine w_aload_n hB 0 dX7_giveName_10 rfl rfl ?_
    refine w_iconst hB 1 (by decide) dX7_giveName_11 ?_
    obtain ⟨r1, M1m, hc_M1m, hF⟩ := clS hF
    refine w_callV hB (ci := 6) (As := [vi 1]) (st := []) cw_X7_104 q_978 q_979 rfl (soM hp.1 sh_208 (by decide)) (c_X7_fail hp hc_M1m) ⟨rfl, rfl⟩ (by decide) (by decide) rfl (Nat.le_of_ble_eq_true rfl) dX7_giveName_12 rfl ?_
    obtain ⟨g2, hF⟩ := gdS hF
    obtain ⟨e1, e2⟩ := retS hF
    subst e2
    exact w_zret hB g2 dX7_giveName_15 e1
theorem c_X7_giveName {K : Kt} {l : Launch} (hp : St K) {r : Int32} {M1 : Mem} {n1 : Nat} {x2 : Int32} {M : Mem} (hF : f_X7_giveName n1 x2 M = some (r, M1)) : MT K l yX7_giveName cX7_giveName 4 (some .boolean) { frames := 3, cells := 0, slots := 0, locals := 61 } [vr 208, vr n1, vi x2] M (some (vi r)) M1 0 0 :=
  MT_of (by decide) rfl (Nat.le_of_ble_eq_true rfl) (fun X _ hB _ => b_X7_giveName hp hB hF)
set_option maxRecDepth 100000 in
set_option maxHeartbeats 4000000 in
theorem b_X7_findName_b20_s {K : Kt} {X : Xt} (hp : St K) (hB : Bx K X { frames := 1, cells := 0, slots := 0, locals := 21 } cX7_findName 4 RX7 (some .int)) {r : Int32} {M1 : Mem} {rec20 : Nat → Int32 → Int32 → Mem → Option (Int32 × Mem)}
    (h20 : ∀ n1 x2 x3 M, rec20 n1 x2 x3 M = some (r, M1) → Wt K X (QM K X (some (vi r)) M1 0 0) 0 0 M 20 [(0, vr 208), (1, vr n1), (2, vi x2), (3, vi x3)] []) {n1 : Nat} {x2 : Int32} {x3 : Int32} {M : Mem} (hF : f_X7_findName_b20_s rec20 n1 x2 x3 M = some (r, M1)) : Wt K X (QM K X (some (vi r)) M1 0 0) 0 0 M 20 [(0, vr 208), (1, vr n1), (2, vi x2), (3, vi x3)] [] := by
  unfold f_X7_findName_b20_s at hF
  refine w_iload_n hB 3 dX7_findName_20 rfl rfl ?_
  refine w_aload_n hB 0 dX7_findName_21 rfl rfl ?_
  refine w_getI hB ff_X7_9 (soM hp.1 sh_208 (by decide)) q_290 dX7_findName_22 ?_
  refine w_icmp_ge hB 74 dX7_findName_25 (by decide) (fun hc => ?_) (fun hc => ?_)
  · replace hF := ifT hc hF
    refine w_aload_n hB 0 dX7_findName_74 rfl rfl ?_
    refine w_iconst hB 4 (by decide) dX7_findName_75 ?_
    obtain ⟨r1, M1m, hc_M1m, hF⟩ := clS hF
    refine w_callV hB (ci := 6) (As := [vi 4]) (st := []) cw_X7_104 q_978 q_979 rfl (soM hp.1 sh_208 (by decide)) (c_X7_fail hp hc_M1m) ⟨rfl, rfl⟩ (by decide) (by decide) rfl (Nat.le_of_ble_eq_true rfl) dX7_findName_76 rfl ?_
    refine w_pop hB rfl dX7_findName_79 ?_
    refine w_iconst hB (-1) (by decide) dX7_findName_80 ?_
    obtain ⟨e1, e2⟩ := retS hF
    subst e2
    exact w_iret hB dX7_findName_81 e1
  · replace hF := ifF hc hF
    refine w_aload_n hB 0 dX7_findName_28 rfl rfl ?_
    refine w_getC hB (v := 209) ff_X7_10 (soM hp.1 sh_208 (by decide)) hp.1 cr_208_10 (by decide) q_291 dX7_findName_29 ?_
    refine w_iload_n hB 3 dX7_findName_32 rfl rfl ?_
    obtain ⟨g1, hF⟩ := gdS hF
    refine w_iald hB (soM hp.1 sh_209 (by decide)) (sl_s sh_209 (by decide) sl_209) g1 dX7_findName_33 ?_
    refine w_aload_n hB 0 dX7_findName_34 rfl rfl ?_
    refine w_getI hB ff_X7_6 (soM hp.1 sh_208 (by decide)) q_286 dX7_findName_35 ?_
    refine w_icmp_ne hB 68 dX7_findName_38 (by decide) (fun hc => ?_) (fun hc => ?_)
    · replace hF := ifF hc hF
      obtain ⟨a3, e_a3, hF⟩ := bndS hF
      refine w_iinc hB 3 (v := 1) (L' := [(3, vi a3), (0, vr 208), (1, vr n1), (2, vi x2)]) dX7_findName_68 rfl (by decide) (by decide) e_a3 rfl ?_
      refine w_goto hB 20 dX7_findName_71 (by decide) ?_
      exact Wt.sub (L' := [(0, vr 208), (1, vr n1), (2, vi x2), (3, vi a3)]) [1, 2, 3, 0] rfl (h20 _ _ _ M hF)
    · replace hF := ifT hc hF
      refine w_aload_n hB 0 dX7_findName_41 rfl rfl ?_
      refine w_getC hB (v := 210) ff_X7_11 (soM hp.1 sh_208 (by decide)) hp.1 cr_208_11 (by decide) q_292 dX7_findName_42 ?_
      refine w_iload_n hB 3 dX7_findName_45 rfl rfl ?_
      refine w_aaldR hB (c := 8) (soM hp.1 sh_210 (by decide)) rfl (by decide) (sl_s sh_210 (by decide) sl_210) g1 dX7_findName_46 ?_
      refine w_aload_n hB 1 dX7_findName_47 rfl rfl ?_
      obtain ⟨g2, hF⟩ := gdS hF
      obtain ⟨g3, hF⟩ := gdS hF
      refine w_acmp_ne hB 68 g2 g3 dX7_findName_48 (by decide) (fun hc => ?_) (fun hc => ?_)
      · replace hF := ifF hc hF
        obtain ⟨a2, e_a2, hF⟩ := bndS hF
        refine w_iinc hB 3 (v := 1) (L' := [(3, vi a2), (0, vr 208), (1, vr n1), (2, vi x2)]) dX7_findName_68 rfl (by decide) (by decide) e_a2 rfl ?_
        refine w_goto hB 20 dX7_findName_71 (by decide) ?_
        exact Wt.sub (L' := [(0, vr 208), (1, vr n1), (2, vi x2), (3, vi a2)]) [1, 2, 3, 0] rfl (h20 _ _ _ M hF)
      · replace hF := ifT hc hF
        refine w_aload_n hB 0 dX7_findName_51 rfl rfl ?_
        refine w_getC hB (v := 211) ff_X7_12 (soM hp.1 sh_208 (by decide)) hp.1 cr_208_12 (by decide) q_293 dX7_findName_52 ?_
        refine w_iload_n hB 3 dX7_findName_55 rfl rfl ?_
        refine w_iald hB (soM hp.1 sh_211 (by decide)) (sl_s sh_211 (by decide) sl_211) g1 dX7_findName_56 ?_
        refine w_iload_n hB 2 dX7_findName_57 rfl rfl ?_
        refine w_icmp_eq hB 68 dX7_findName_58 (by decide) (fun hc => ?_) (fun hc => ?_)
        · replace hF := ifT hc hF
          obtain ⟨a1, e_a1, hF⟩ := bndS hF
          refine w_iinc hB 3 (v := 1) (L' := [(3, vi a1), (0, vr 208), (1, vr n1), (2, vi x2)]) dX7_findName_68 rfl (by decide) (by decide) e_a1 rfl ?_
          refine w_goto hB 20 dX7_findName_71 (by decide) ?_
          exact Wt.sub (L' := [(0, vr 208), (1, vr n1), (2, vi x2), (3, vi a1)]) [1, 2, 3, 0] rfl (h20 _ _ _ M hF)
        · replace hF := ifF hc hF
          refine w_aload_n hB 0 dX7_findName_61 rfl rfl ?_
          refine w_getC hB (v := 211) ff_X7_12 (soM hp.1 sh_208 (by decide)) hp.1 cr_208_12 (by decide) q_293 dX7_findName_62 ?_
          refine w_iload_n hB 3 dX7_findName_65 rfl rfl ?_
          refine w_iald hB (soM hp.1 sh_211 (by decide)) (sl_s sh_211 (by decide) sl_211) g1 dX7_findName_66 ?_
          obtain ⟨e1, e2⟩ := retS hF
          subst e2
          exact w_iret hB dX7_findName_67 e1
theorem b_X7_findName_b20 {K : Kt} {X : Xt} (hp : St K) (hB : Bx K X { frames := 1, cells := 0, slots := 0, locals := 21 } cX7_findName 4 RX7 (some .int)) {r : Int32} {M1 : Mem} (k : Nat) : ∀ (n1 : Nat) (x2 : Int32) (x3 : Int32) M, f_X7_findName_b20 k n1 x2 x3 M = some (r, M1) → Wt K X (QM K X (some (vi r)) M1 0 0) 0 0 M 20 [(0, vr 208), (1, vr n1), (2, vi x2), (3, vi x3)] [] := by
  refine lpN_ind (P := fun (f : Nat → Int32 → Int32 → Mem → Option (Int32 × Mem)) => ∀ (n1 : Nat) (x2 : Int32) (x3 : Int32) M, f n1 x2 x3 M = some (r, M1) → Wt K X (QM K X (some (vi r)) M1 0 0) 0 0 M 20 [(0, vr 208), (1, vr n1), (2, vi x2), (3, vi x3)] []) (fun _ _ _ _ h => by cases h) (fun f hf n1 x2 x3 M hF => ?_) k
  exact b_X7_findName_b20_s hp hB hf hF
set_option maxRecDepth 100000 in
set_option maxHeartbeats 4000000 in
theorem b_X7_findName {K : Kt} {X : Xt} (hp : St K) (hB : Bx K X { frames := 1, cells := 0, slots := 0, locals := 21 } cX7_findName 4 RX7 (some .int)) {r : Int32} {M1 : Mem} {n1 : Nat} {x2 : Int32} {M : Mem} (hF : f_X7_findName n1 x2 M = some (r, M1)) : Wt K X (QM K X (some (vi r)) M1 0 0) 0 0 M 0 [(0, vr 208), (1, vr n1), (2, vi x2)] [] := by
  unfold f_X7_findName at hF
  refine w_aload_n hB 0 dX7_findName_0 rfl rfl ?_
  refine w_getR hB ff_X7_4 (soM hp.1 sh_208 (by decide)) q_283 dX7_findName_1 ?_
  refine w_gettok hB hp 3 ⟨by decide, by decide⟩ q_991 dX7_findName_4 ?_
  obtain ⟨g1, hF⟩ := gdS hF
  refine w_acmp_eq hB 18 g1 (by decide) dX7_findName_7 (by decide) (fun hc => ?_) (fun hc => ?_)
  · replace hF := ifT hc hF
    refine w_iconst hB 0 (by decide) dX7_findName_18 ?_
    refine w_istore_n hB (L' := [(3, vi 0), (0, vr 208), (1, vr n1), (2, vi x2)]) dX7_findName_19 rfl (by decide) rfl rfl ?_
    exact Wt.sub (L' := [(0, vr 208), (1, vr n1), (2, vi x2), (3, vi 0)]) [1, 2, 3, 0] rfl (b_X7_findName_b20 hp hB fuel _ _ _ M hF)
  · replace hF := ifF hc hF
    refine w_aload_n hB 0 dX7_findName_10 rfl rfl ?_
    refine w_iconst hB 1 (by decide) dX7_findName_11 ?_
    obtain ⟨r1, M1m, hc_M1m, hF⟩ := clS hF
    refine w_callV hB (ci := 6) (As := [vi 1]) (st := []) cw_X7_104 q_978 q_979 rfl (soM hp.1 sh_208 (by decide)) (c_X7_fail hp hc_M1m) ⟨rfl, rfl⟩ (by decide) (by decide) rfl (Nat.le_of_ble_eq_true rfl) dX7_findName_12 rfl ?_
    refine w_pop hB rfl dX7_findName_15 ?_
    refine w_iconst hB (-1) (by decide) dX7_findName_16 ?_
    obtain ⟨e1, e2⟩ := retS hF
    subst e2
    exact w_iret hB dX7_findName_17 e1
theorem c_X7_findName {K : Kt} {l : Launch} (hp : St K) {r : Int32} {M1 : Mem} {n1 : Nat} {x2 : Int32} {M : Mem} (hF : f_X7_findName n1 x2 M = some (r, M1)) : MT K l yX7_findName cX7_findName 4 (some .int) { frames := 1, cells := 0, slots := 0, locals := 21 } [vr 208, vr n1, vi x2] M (some (vi r)) M1 0 0 :=
  MT_of (by decide) rfl (Nat.le_of_ble_eq_true rfl) (fun X _ hB _ => b_X7_findName hp hB hF)
set_option maxRecDepth 100000 in
set_option maxHeartbeats 4000000 in
theorem b_X7_takeName {K : Kt} {X : Xt} (hp : St K) (hB : Bx K X { frames := 3, cells := 0, slots := 0, locals := 61 } cX7_takeName 4 RX7 (some .int)) {r : Int32} {M1 : Mem} {n1 : Nat} {x2 : Int32} {M : Mem} (hF : f_X7_takeName n1 x2 M = some (r, M1)) : Wt K X (QM K X (some (vi r)) M1 0 0) 0 0 M 0 [(0, vr 208), (1, vr n1), (2, vi x2)] [] := by
  unfold f_X7_takeName at hF
  refine w_aload_n hB 0 dX7_takeName_0 rfl rfl ?_
  refine w_aload_n hB 1 dX7_takeName_1 rfl rfl ?_
  refine w_iload_n hB 2 dX7_takeName_2 rfl rfl ?_
  obtain ⟨r1, M1m, hc_M1m, hF⟩ := clS hF
  refine w_callV hB (ci := 6) (As := [vr n1, vi x2]) (st := []) cw_X7_113 q_1010 q_1011 rfl (soM hp.1 sh_208 (by decide)) (c_X7_findName hp hc_M1m) ⟨rfl, rfl⟩ (by decide) (by decide) rfl (Nat.le_of_ble_eq_true rfl) dX7_takeName_3 rfl ?_
  refine w_istore_n hB (L' := [(3, vi r1), (0, vr 208), (1, vr n1), (2, vi x2)]) dX7_takeName_6 rfl (by decide) rfl rfl ?_
  refine w_iload_n hB 0 dX7_takeName_7 rfl rfl ?_
  refine w_iconst hB (-1) (by decide) dX7_takeName_8 ?_
  refine w_icmp_eq hB 16 dX7_takeName_9 (by decide) (fun hc => ?_) (fun hc => ?_)
  · replace hF := ifT hc hF
    refine w_iload_n hB 0 dX7_takeName_16 rfl rfl ?_
    obtain ⟨e1, e2⟩ := retS hF
    subst e2
    exact w_iret hB dX7_takeName_17 e1
  · replace hF := ifF hc hF
    refine w_aload_n hB 1 dX7_takeName_12 rfl rfl ?_
    obtain ⟨M2m, hc_M2m, hF⟩ := clvS hF
    refine w_callV hB (ci := 6) (As := []) (st := []) cw_X7_63 q_907 q_908 rfl (soM hp.1 sh_208 (by decide)) (c_X7_advance hp hc_M2m) ⟨rfl, rfl⟩ (by decide) (by decide) rfl (Nat.le_of_ble_eq_true rfl) dX7_takeName_13 rfl ?_
    refine w_iload_n hB 0 dX7_takeName_16 rfl rfl ?_
    obtain ⟨e1, e2⟩ := retS hF
    subst e2
    exact w_iret hB dX7_takeName_17 e1
theorem c_X7_takeName {K : Kt} {l : Launch} (hp : St K) {r : Int32} {M1 : Mem} {n1 : Nat} {x2 : Int32} {M : Mem} (hF : f_X7_takeName n1 x2 M = some (r, M1)) : MT K l yX7_takeName cX7_takeName 4 (some .int) { frames := 3, cells := 0, slots := 0, locals := 61 } [vr 208, vr n1, vi x2] M (some (vi r)) M1 0 0 :=
  MT_of (by decide) rfl (Nat.le_of_ble_eq_true rfl) (fun X _ hB _ => b_X7_takeName hp hB hF)
set_option maxRecDepth 100000 in
set_option maxHeartbeats 4000000 in
theorem b_X7_roomForSetting {K : Kt} {X : Xt} (hp : St K) (hB : Bx K X { frames := 0, cells := 0, slots := 0, locals := 0 } cX7_roomForSetting 2 RX7 (some .int)) {r : Int32} {M1 : Mem} {x1 : Int32} {M : Mem} (hF : f_X7_roomForSetting x1 M = some (r, M1)) : Wt K X (QM K X (some (vi r)) M1 0 0) 0 0 M 0 [(0, vr 208), (1, vi x1)] [] := by
  unfold f_X7_roomForSetting at hF
  refine w_iconst hB 1 (by decide) dX7_roomForSetting_0 ?_
  refine w_aload_n hB 0 dX7_roomForSetting_1 rfl rfl ?_
  refine w_getI hB ff_X7_13 (soM hp.1 sh_208 (by decide)) q_294 dX7_roomForSetting_2 ?_
  refine w_iload_n hB 1 dX7_roomForSetting_5 rfl rfl ?_
  refine w_ishr hB dX7_roomForSetting_6 ?_
  refine w_iconst hB 1 (by decide) dX7_roomForSetting_7 ?_
  refine w_iand hB dX7_roomForSetting_8 ?_
  refine w_isub hB dX7_roomForSetting_9 ?_
  obtain ⟨e1, e2⟩ := retS hF
  subst e2
  exact w_iret hB dX7_roomForSetting_10 e1
theorem c_X7_roomForSetting {K : Kt} {l : Launch} (hp : St K) {r : Int32} {M1 : Mem} {x1 : Int32} {M : Mem} (hF : f_X7_roomForSetting x1 M = some (r, M1)) : MT K l yX7_roomForSetting cX7_roomForSetting 2 (some .int) { frames := 0, cells := 0, slots := 0, locals := 0 } [vr 208, vi x1] M (some (vi r)) M1 0 0 :=
  MT_of (by decide) rfl (Nat.le_of_ble_eq_true rfl) (fun X _ hB _ => b_X7_roomForSetting hp hB hF)
set_option maxRecDepth 100000 in
set_option maxHeartbeats 4000000 in
theorem b_X7_roomFor {K : Kt} {X : Xt} (hp : St K) (hB : Bx K X { frames := 1, cells := 0, slots := 0, locals := 21 } cX7_roomFor 2 RX7 (some .int)) {r : Int32} {M1 : Mem} {n1 : Nat} {M : Mem} (hF : f_X7_roomFor n1 M = some (r, M1)) : Wt K X (QM K X (some (vi r)) M1 0 0) 0 0 M 0 [(0, vr 208), (1, vr n1)] [] := by
  unfold f_X7_roomFor at hF
  refine w_getSWM hB hp q_965 dX7_roomFor_0 ?_
  refine w_aload_n hB 1 dX7_roomFor_3 rfl rfl ?_
  obtain ⟨g1, hF⟩ := gdS hF
  refine w_ordinal hB hp g1 (by decide) (by decide) (Nat.le_of_ble_eq_true rfl) dX7_roomFor_4 ?_
  obtain ⟨g2, hF⟩ := gdS hF
  refine w_swmld hB hp g2 dX7_roomFor_7 ?_
  by_cases ht1 : (swm (Int32.ofNat (n1 - 1)).toNatClampNeg) = 1
  · replace hF := ifT ht1 hF
    refine w_tsIn hB 64 dX7_roomFor_8 (off := 56) (by rw [ht1]; decide) (by rw [ht1]; decide) (by rw [ht1]; rfl) (by decide) ?_
    refine w_iconst hB 5 (by decide) dX7_roomFor_64 ?_
    refine w_aload_n hB 0 dX7_roomFor_65 rfl rfl ?_
    refine w_getR hB ff_X7_1 (soM hp.1 sh_208 (by decide)) q_280 dX7_roomFor_66 ?_
    obtain ⟨g3, hF⟩ := gdS hF
    refine w_getI hB ff_X9_0 (soM hp.1 g3 (by decide)) q_199 dX7_roomFor_69 ?_
    refine w_isub hB dX7_roomFor_72 ?_
    obtain ⟨e1, e2⟩ := retS hF
    subst e2
    exact w_iret hB dX7_roomFor_73 e1
  replace hF := ifF ht1 hF
  by_cases ht2 : (swm (Int32.ofNat (n1 - 1)).toNatClampNeg) = 2
  · replace hF := ifT ht2 hF
    refine w_tsIn hB 74 dX7_roomFor_8 (off := 66) (by rw [ht2]; decide) (by rw [ht2]; decide) (by rw [ht2]; rfl) (by decide) ?_
    refine w_bipush hB 6 (by decide) dX7_roomFor_74 ?_
    refine w_aload_n hB 0 dX7_roomFor_76 rfl rfl ?_
    refine w_getR hB ff_X7_1 (soM hp.1 sh_208 (by decide)) q_280 dX7_roomFor_77 ?_
    obtain ⟨g4, hF⟩ := gdS hF
    refine w_getI hB ff_X9_3 (soM hp.1 g4 (by decide)) q_207 dX7_roomFor_80 ?_
    refine w_isub hB dX7_roomFor_83 ?_
    obtain ⟨e1, e2⟩ := retS hF
    subst e2
    exact w_iret hB dX7_roomFor_84 e1
  replace hF := ifF ht2 hF
  by_cases ht3 : (swm (Int32.ofNat (n1 - 1)).toNatClampNeg) = 3
  · replace hF := ifT ht3 hF
    refine w_tsIn hB 85 dX7_roomFor_8 (off := 77) (by rw [ht3]; decide) (by rw [ht3]; decide) (by rw [ht3]; rfl) (by decide) ?_
    refine w_iconst hB 4 (by decide) dX7_roomFor_85 ?_
    refine w_aload_n hB 0 dX7_roomFor_86 rfl rfl ?_
    refine w_getR hB ff_X7_1 (soM hp.1 sh_208 (by decide)) q_280 dX7_roomFor_87 ?_
    obtain ⟨g5, hF⟩ := gdS hF
    refine w_getI hB ff_X9_5 (soM hp.1 g5 (by decide)) q_215 dX7_roomFor_90 ?_
    refine w_isub hB dX7_roomFor_93 ?_
    obtain ⟨e1, e2⟩ := retS hF
    subst e2
    exact w_iret hB dX7_roomFor_94 e1
  replace hF := ifF ht3 hF
  by_cases ht4 : (swm (Int32.ofNat (n1 - 1)).toNatClampNeg) = 4
  · replace hF := ifT ht4 hF
    refine w_tsIn hB 95 dX7_roomFor_8 (off := 87) (by rw [ht4]; decide) (by rw [ht4]; decide) (by rw [ht4]; rfl) (by decide) ?_
    refine w_iconst hB 5 (by decide) dX7_roomFor_95 ?_
    refine w_aload_n hB 0 dX7_roomFor_96 rfl rfl ?_
    refine w_getR hB ff_X7_1 (soM hp.1 sh_208 (by decide)) q_280 dX7_roomFor_97 ?_
    obtain ⟨g6, hF⟩ := gdS hF
    refine w_getI hB ff_X9_7 (soM hp.1 g6 (by decide)) q_221 dX7_roomFor_100 ?_
    refine w_isub hB dX7_roomFor_103 ?_
    obtain ⟨e1, e2⟩ := retS hF
    subst e2
    exact w_iret hB dX7_roomFor_104 e1
  replace hF := ifF ht4 hF
  by_cases ht5 : (swm (Int32.ofNat (n1 - 1)).toNatClampNeg) = 5
  · replace hF := ifT ht5 hF
    refine w_tsIn hB 105 dX7_roomFor_8 (off := 97) (by rw [ht5]; decide) (by rw [ht5]; decide) (by rw [ht5]; rfl) (by decide) ?_
    refine w_iconst hB 3 (by decide) dX7_roomFor_105 ?_
    refine w_aload_n hB 0 dX7_roomFor_106 rfl rfl ?_
    refine w_getR hB ff_X7_1 (soM hp.1 sh_208 (by decide)) q_280 dX7_roomFor_107 ?_
    obtain ⟨g7, hF⟩ := gdS hF
    refine w_getI hB ff_X9_9 (soM hp.1 g7 (by decide)) q_227 dX7_roomFor_110 ?_
    refine w_isub hB dX7_roomFor_113 ?_
    obtain ⟨e1, e2⟩ := retS hF
    subst e2
    exact w_iret hB dX7_roomFor_114 e1
  replace hF := ifF ht5 hF
  by_cases ht6 : (swm (Int32.ofNat (n1 - 1)).toNatClampNeg) = 6
  · replace hF := ifT ht6 hF
    refine w_tsIn hB 115 dX7_roomFor_8 (off := 107) (by rw [ht6]; decide) (by rw [ht6]; decide) (by rw [ht6]; rfl) (by decide) ?_
    refine w_bipush hB 8 (by decide) dX7_roomFor_115 ?_
    refine w_aload_n hB 0 dX7_roomFor_117 rfl rfl ?_
    refine w_getR hB ff_X7_1 (soM hp.1 sh_208 (by decide)) q_280 dX7_roomFor_118 ?_
    obtain ⟨g8, hF⟩ := gdS hF
    refine w_getI hB ff_X9_11 (soM hp.1 g8 (by decide)) q_233 dX7_roomFor_121 ?_
    refine w_isub hB dX7_roomFor_124 ?_
    obtain ⟨e1, e2⟩ := retS hF
    subst e2
    exact w_iret hB dX7_roomFor_125 e1
  replace hF := ifF ht6 hF
  by_cases ht7 : (swm (Int32.ofNat (n1 - 1)).toNatClampNeg) = 7
  · replace hF := ifT ht7 hF
    refine w_tsIn hB 126 dX7_roomFor_8 (off := 118) (by rw [ht7]; decide) (by rw [ht7]; decide) (by rw [ht7]; rfl) (by decide) ?_
    refine w_aload_n hB 0 dX7_roomFor_126 rfl rfl ?_
    refine w_iconst hB 0 (by decide) dX7_roomFor_127 ?_
    obtain ⟨r1, M1m, hc_M1m, hF⟩ := clS hF
    refine w_callV hB (ci := 6) (As := [vi 0]) (st := []) cw_X7_175 q_974 q_975 rfl (soM hp.1 sh_208 (by decide)) (c_X7_roomForSetting hp hc_M1m) ⟨rfl, rfl⟩ (by decide) (by decide) rfl (Nat.le_of_ble_eq_true rfl) dX7_roomFor_128 rfl ?_
    obtain ⟨e1, e2⟩ := retS hF
    subst e2
    exact w_iret hB dX7_roomFor_131 e1
  replace hF := ifF ht7 hF
  by_cases ht8 : (swm (Int32.ofNat (n1 - 1)).toNatClampNeg) = 8
  · replace hF := ifT ht8 hF
    refine w_tsIn hB 132 dX7_roomFor_8 (off := 124) (by rw [ht8]; decide) (by rw [ht8]; decide) (by rw [ht8]; rfl) (by decide) ?_
    refine w_aload_n hB 0 dX7_roomFor_132 rfl rfl ?_
    refine w_iconst hB 1 (by decide) dX7_roomFor_133 ?_
    obtain ⟨r2, M2m, hc_M2m, hF⟩ := clS hF
    refine w_callV hB (ci := 6) (As := [vi 1]) (st := []) cw_X7_175 q_974 q_975 rfl (soM hp.1 sh_208 (by decide)) (c_X7_roomForSetting hp hc_M2m) ⟨rfl, rfl⟩ (by decide) (by decide) rfl (Nat.le_of_ble_eq_true rfl) dX7_roomFor_134 rfl ?_
    obtain ⟨e1, e2⟩ := retS hF
    subst e2
    exact w_iret hB dX7_roomFor_137 e1
  replace hF := ifF ht8 hF
  by_cases ht9 : (swm (Int32.ofNat (n1 - 1)).toNatClampNeg) = 9
  · replace hF := ifT ht9 hF
    refine w_tsIn hB 138 dX7_roomFor_8 (off := 130) (by rw [ht9]; decide) (by rw [ht9]; decide) (by rw [ht9]; rfl) (by decide) ?_
    refine w_aload_n hB 0 dX7_roomFor_138 rfl rfl ?_
    refine w_iconst hB 2 (by decide) dX7_roomFor_139 ?_
    obtain ⟨r3, M3m, hc_M3m, hF⟩ := clS hF
    refine w_callV hB (ci := 6) (As := [vi 2]) (st := []) cw_X7_175 q_974 q_975 rfl (soM hp.1 sh_208 (by decide)) (c_X7_roomForSetting hp hc_M3m) ⟨rfl, rfl⟩ (by decide) (by decide) rfl (Nat.le_of_ble_eq_true rfl) dX7_roomFor_140 rfl ?_
    obtain ⟨e1, e2⟩ := retS hF
    subst e2
    exact w_iret hB dX7_roomFor_143 e1
  replace hF := ifF ht9 hF
  by_cases ht10 : (swm (Int32.ofNat (n1 - 1)).toNatClampNeg) = 10
  · replace hF := ifT ht10 hF
    refine w_tsIn hB 144 dX7_roomFor_8 (off := 136) (by rw [ht10]; decide) (by rw [ht10]; decide) (by rw [ht10]; rfl) (by decide) ?_
    refine w_aload_n hB 0 dX7_roomFor_144 rfl rfl ?_
    refine w_iconst hB 3 (by decide) dX7_roomFor_145 ?_
    obtain ⟨r4, M4m, hc_M4m, hF⟩ := clS hF
    refine w_callV hB (ci := 6) (As := [vi 3]) (st := []) cw_X7_175 q_974 q_975 rfl (soM hp.1 sh_208 (by decide)) (c_X7_roomForSetting hp hc_M4m) ⟨rfl, rfl⟩ (by decide) (by decide) rfl (Nat.le_of_ble_eq_true rfl) dX7_roomFor_146 rfl ?_
    obtain ⟨e1, e2⟩ := retS hF
    subst e2
    exact w_iret hB dX7_roomFor_149 e1
  replace hF := ifF ht10 hF
  have tht1 := lv_neT ht1 (show (1 : Int32).toInt = 1 by decide)
  have tht2 := lv_neT ht2 (show (2 : Int32).toInt = 2 by decide)
  have tht3 := lv_neT ht3 (show (3 : Int32).toInt = 3 by decide)
  have tht4 := lv_neT ht4 (show (4 : Int32).toInt = 4 by decide)
  have tht5 := lv_neT ht5 (show (5 : Int32).toInt = 5 by decide)
  have tht6 := lv_neT ht6 (show (6 : Int32).toInt = 6 by decide)
  have tht7 := lv_neT ht7 (show (7 : Int32).toInt = 7 by decide)
  have tht8 := lv_neT ht8 (show (8 : Int32).toInt = 8 by decide)
  have tht9 := lv_neT ht9 (show (9 : Int32).toInt = 9 by decide)
  have tht10 := lv_neT ht10 (show (10 : Int32).toInt = 10 by decide)
  refine w_tsOut hB 150 dX7_roomFor_8 (by omega) (by decide) ?_
  refine w_iconst hB (-1) (by decide) dX7_roomFor_150 ?_
  obtain ⟨e1, e2⟩ := retS hF
  subst e2
  exact w_iret hB dX7_roomFor_151 e1
theorem c_X7_roomFor {K : Kt} {l : Launch} (hp : St K) {r : Int32} {M1 : Mem} {n1 : Nat} {M : Mem} (hF : f_X7_roomFor n1 M = some (r, M1)) : MT K l yX7_roomFor cX7_roomFor 2 (some .int) { frames := 1, cells := 0, slots := 0, locals := 21 } [vr 208, vr n1] M (some (vi r)) M1 0 0 :=
  MT_of (by decide) rfl (Nat.le_of_ble_eq_true rfl) (fun X _ hB _ => b_X7_roomFor hp hB hF)
set_option maxRecDepth 100000 in
set_option maxHeartbeats 4000000 in
theorem b_X7_startLine_b21 {K : Kt} {X : Xt} (hp : St K) (hB : Bx K X { frames := 3, cells := 0, slots := 0, locals := 61 } cX7_startLine 3 RX7 (some .boolean)) {r : Int32} {M1 : Mem} {xs1 : Int32} {M : Mem} (hF : f_X7_startLine_b21 xs1 M = some (r, M1)) : Wt K X (QM K X (some (vi r)) M1 0 0) 0 0 M 21 [] [vi xs1, vr 208] := by
  unfold f_X7_startLine_b21 at hF
  obtain ⟨r1, M1m, hc_M1m, hF⟩ := clS hF
  refine w_callV hB (ci := 6) (As := [vi xs1]) (st := []) cw_X7_104 q_978 q_979 rfl (soM hp.1 sh_208 (by decide)) (c_X7_fail hp hc_M1m) ⟨rfl, rfl⟩ (by decide) (by decide) rfl (Nat.le_of_ble_eq_true rfl) dX7_startLine_21 rfl ?_
  obtain ⟨g1, hF⟩ := gdS hF
  obtain ⟨e1, e2⟩ := retS hF
  subst e2
  exact w_zret hB g1 dX7_startLine_24 e1
set_option maxRecDepth 100000 in
set_option maxHeartbeats 4000000 in
theorem b_X7_startLine {K : Kt} {X : Xt} (hp : St K) (hB : Bx K X { frames := 3, cells := 0, slots := 0, locals := 61 } cX7_startLine 3 RX7 (some .boolean)) {r : Int32} {M1 : Mem} {n1 : Nat} {M : Mem} (hF : f_X7_startLine n1 M = some (r, M1)) : Wt K X (QM K X (some (vi r)) M1 0 0) 0 0 M 0 [(0, vr 208), (1, vr n1)] [] := by
  unfold f_X7_startLine at hF
  refine w_aload_n hB 0 dX7_startLine_0 rfl rfl ?_
  refine w_aload_n hB 1 dX7_startLine_1 rfl rfl ?_
  obtain ⟨r1, M1m, hc_M1m, hF⟩ := clS hF
  refine w_callV hB (ci := 6) (As := [vr n1]) (st := []) cw_X7_153 q_962 q_963 rfl (soM hp.1 sh_208 (by decide)) (c_X7_roomFor hp hc_M1m) ⟨rfl, rfl⟩ (by decide) (by decide) rfl (Nat.le_of_ble_eq_true rfl) dX7_startLine_2 rfl ?_
  refine w_istore_n hB (L' := [(2, vi r1), (0, vr 208), (1, vr n1)]) dX7_startLine_5 rfl (by decide) rfl rfl ?_
  refine w_iload_n hB 0 dX7_startLine_6 rfl rfl ?_
  refine w_if_gt hB 25 dX7_startLine_7 (by decide) (fun hc => ?_) (fun hc => ?_)
  · replace hF := ifT hc hF
    refine w_aload_n hB 1 dX7_startLine_25 rfl rfl ?_
    obtain ⟨M2m, hc_M2m, hF⟩ := clvS hF
    refine w_callV hB (ci := 6) (As := []) (st := []) cw_X7_63 q_907 q_908 rfl (soM hp.1 sh_208 (by decide)) (c_X7_advance hp hc_M2m) ⟨rfl, rfl⟩ (by decide) (by decide) rfl (Nat.le_of_ble_eq_true rfl) dX7_startLine_26 rfl ?_
    refine w_iconst hB 1 (by decide) dX7_startLine_29 ?_
    obtain ⟨e1, e2⟩ := retS hF
    subst e2
    exact w_zret hB (by decide) dX7_startLine_30 e1
  · replace hF := ifF hc hF
    refine w_aload_n hB 1 dX7_startLine_10 rfl rfl ?_
    refine w_iload_n hB 0 dX7_startLine_11 rfl rfl ?_
    refine w_iconst hB (-1) (by decide) dX7_startLine_12 ?_
    refine w_icmp_ne hB 20 dX7_startLine_13 (by decide) (fun hc => ?_) (fun hc => ?_)
    · replace hF := ifF hc hF
      refine w_iconst hB 5 (by decide) dX7_startLine_20 ?_
      exact Wt.sub (L' := []) [] rfl (b_X7_startLine_b21 hp hB hF)
    · replace hF := ifT hc hF
      refine w_iconst hB 1 (by decide) dX7_startLine_16 ?_
      refine w_goto hB 21 dX7_startLine_17 (by decide) ?_
      exact Wt.sub (L' := []) [] rfl (b_X7_startLine_b21 hp hB hF)
theorem c_X7_startLine {K : Kt} {l : Launch} (hp : St K) {r : Int32} {M1 : Mem} {n1 : Nat} {M : Mem} (hF : f_X7_startLine n1 M = some (r, M1)) : MT K l yX7_startLine cX7_startLine 3 (some .boolean) { frames := 3, cells := 0, slots := 0, locals := 61 } [vr 208, vr n1] M (some (vi r)) M1 0 0 :=
  MT_of (by decide) rfl (Nat.le_of_ble_eq_true rfl) (fun X _ hB _ => b_X7_startLine hp hB hF)
set_option maxRecDepth 100000 in
set_option maxHeartbeats 4000000 in
theorem b_X7_tellMember_b56 {K : Kt} {X : Xt} (hp : St K) (hB : Bx K X { frames := 4, cells := 0, slots := 0, locals := 84 } cX7_tellMember 5 RX7 (some .boolean)) {r : Int32} {M1 : Mem} {n1 : Nat} {x2 : Int32} {M : Mem} (hF : f_X7_tellMember_b56 n1 x2 M = some (r, M1)) : Wt K X (QM K X (some (vi r)) M1 0 0) 0 0 M 56 [(0, vr 208), (1, vr n1), (2, vi x2)] [] := by
  unfold f_X7_tellMember_b56 at hF
  refine w_aload_n hB 1 dX7_tellMember_56 rfl rfl ?_
  obtain ⟨g1, hF⟩ := gdS hF
  refine w_getC hB (v := cr n1 2) ff_X1_2 (soM hp.1 g1 (by decide)) hp.1 rfl (shc_ne (crc_1_2 g1).1) q_111 dX7_tellMember_57 ?_
  refine w_aload_n hB 1 dX7_tellMember_60 rfl rfl ?_
  refine w_getI hB ff_X1_1 (soM hp.1 g1 (by decide)) q_109 dX7_tellMember_61 ?_
  refine w_iload_n hB 2 dX7_tellMember_64 rfl rfl ?_
  obtain ⟨g2, hF⟩ := gdS hF
  obtain ⟨M1m, e_M1m, hF⟩ := bndS hF
  refine w_iast hB (soM hp.1 (crc_1_2 g1).1 (by decide)) (sl_s (crc_1_2 g1).1 (by decide) (crc_1_2 g1).2) g2 e_M1m dX7_tellMember_65 ?_
  refine w_aload_n hB 1 dX7_tellMember_66 rfl rfl ?_
  refine w_dup hB rfl dX7_tellMember_67 ?_
  refine w_getI hB ff_X1_1 (soM hp.1 g1 (by decide)) q_109 dX7_tellMember_68 ?_
  refine w_iconst hB 1 (by decide) dX7_tellMember_71 ?_
  refine w_iadd hB dX7_tellMember_72 ?_
  obtain ⟨M2m, e_M2m, hF⟩ := bndS hF
  refine w_putI hB ff_X1_1 (soM hp.1 g1 (by decide)) q_109 e_M2m dX7_tellMember_73 ?_
  refine w_aload_n hB 0 dX7_tellMember_76 rfl rfl ?_
  refine w_gettok hB hp 7 ⟨by decide, by decide⟩ q_1064 dX7_tellMember_77 ?_
  obtain ⟨r1, M3m, hc_M3m, hF⟩ := clS hF
  refine w_callV hB (ci := 6) (As := [vr 7]) (st := []) cw_X7_264 q_1048 q_1049 rfl (soM hp.1 sh_208 (by decide)) (c_X7_take hp hc_M3m) ⟨rfl, rfl⟩ (by decide) (by decide) rfl (Nat.le_of_ble_eq_true rfl) dX7_tellMember_80 rfl ?_
  obtain ⟨g3, hF⟩ := gdS hF
  obtain ⟨e1, e2⟩ := retS hF
  subst e2
  exact w_zret hB g3 dX7_tellMember_83 e1
set_option maxRecDepth 100000 in
set_option maxHeartbeats 4000000 in
theorem b_X7_tellMember_b25 {K : Kt} {X : Xt} (hp : St K) (hB : Bx K X { frames := 4, cells := 0, slots := 0, locals := 84 } cX7_tellMember 5 RX7 (some .boolean)) {r : Int32} {M1 : Mem} {rec4 : Nat → Int32 → Int32 → Mem → Option (Int32 × Mem)}
    (h4 : ∀ n1 x2 x3 M, rec4 n1 x2 x3 M = some (r, M1) → Wt K X (QM K X (some (vi r)) M1 0 0) 0 0 M 4 [(0, vr 208), (1, vr n1), (2, vi x2), (3, vi x3)] []) {n1 : Nat} {x2 : Int32} {x3 : Int32} {M : Mem} (hF : f_X7_tellMember_b25 rec4 n1 x2 x3 M = some (r, M1)) : Wt K X (QM K X (some (vi r)) M1 0 0) 0 0 M 25 [(0, vr 208), (1, vr n1), (2, vi x2), (3, vi x3)] [] := by
  unfold f_X7_tellMember_b25 at hF
  refine w_aload_n hB 0 dX7_tellMember_25 rfl rfl ?_
  refine w_gettok hB hp 10 ⟨by decide, by decide⟩ q_985 dX7_tellMember_26 ?_
  refine w_iconst hB (-1) (by decide) dX7_tellMember_29 ?_
  obtain ⟨r1, M1m, hc_M1m, hF⟩ := clS hF
  refine w_callV hB (ci := 6) (As := [vr 10, vi (-1)]) (st := []) cw_X7_208 q_1006 q_1007 rfl (soM hp.1 sh_208 (by decide)) (c_X7_takeName hp hc_M1m) ⟨rfl, rfl⟩ (by decide) (by decide) rfl (Nat.le_of_ble_eq_true rfl) dX7_tellMember_30 rfl ?_
  refine w_istore hB (L' := [(4, vi r1), (0, vr 208), (1, vr n1), (2, vi x2), (3, vi x3)]) dX7_tellMember_33 (by decide) rfl rfl ?_
  refine w_iload hB 0 dX7_tellMember_35 rfl ?_
  refine w_iconst hB (-1) (by decide) dX7_tellMember_37 ?_
  refine w_icmp_ne hB 43 dX7_tellMember_38 (by decide) (fun hc => ?_) (fun hc => ?_)
  · replace hF := ifF hc hF
    refine w_iload_n hB 3 dX7_tellMember_43 rfl rfl ?_
    refine w_iconst hB 1 (by decide) dX7_tellMember_44 ?_
    refine w_iload hB 0 dX7_tellMember_45 rfl ?_
    refine w_ishl hB dX7_tellMember_47 ?_
    refine w_ior hB dX7_tellMember_48 ?_
    obtain ⟨a1, e_a1, hF⟩ := bndS hF
    refine w_istore_n hB (L' := [(2, vi a1), (4, vi r1), (0, vr 208), (1, vr n1), (3, vi x3)]) dX7_tellMember_49 rfl (by decide) e_a1 rfl ?_
    obtain ⟨a2, e_a2, hF⟩ := bndS hF
    refine w_iinc hB 4 (v := 1) (L' := [(3, vi a2), (2, vi a1), (4, vi r1), (0, vr 208), (1, vr n1)]) dX7_tellMember_50 rfl (by decide) (by decide) e_a2 rfl ?_
    refine w_goto hB 4 dX7_tellMember_53 (by decide) ?_
    exact Wt.sub (L' := [(0, vr 208), (1, vr n1), (2, vi a1), (3, vi a2)]) [3, 4, 1, 0] rfl (h4 _ _ _ M1m hF)
  · replace hF := ifT hc hF
    refine w_iconst hB 0 (by decide) dX7_tellMember_41 ?_
    obtain ⟨e1, e2⟩ := retS hF
    subst e2
    exact w_zret hB (by decide) dX7_tellMember_42 e1
set_option maxRecDepth 100000 in
set_option maxHeartbeats 4000000 in
theorem b_X7_tellMember_b4_s {K : Kt} {X : Xt} (hp : St K) (hB : Bx K X { frames := 4, cells := 0, slots := 0, locals := 84 } cX7_tellMember 5 RX7 (some .boolean)) {r : Int32} {M1 : Mem} {rec4 : Nat → Int32 → Int32 → Mem → Option (Int32 × Mem)}
    (h4 : ∀ n1 x2 x3 M, rec4 n1 x2 x3 M = some (r, M1) → Wt K X (QM K X (some (vi r)) M1 0 0) 0 0 M 4 [(0, vr 208), (1, vr n1), (2, vi x2), (3, vi x3)] []) {n1 : Nat} {x2 : Int32} {x3 : Int32} {M : Mem} (hF : f_X7_tellMember_b4_s rec4 n1 x2 x3 M = some (r, M1)) : Wt K X (QM K X (some (vi r)) M1 0 0) 0 0 M 4 [(0, vr 208), (1, vr n1), (2, vi x2), (3, vi x3)] [] := by
  unfold f_X7_tellMember_b4_s at hF
  refine w_iload_n hB 3 dX7_tellMember_4 rfl rfl ?_
  refine w_sipush hB 600 (by decide) dX7_tellMember_5 ?_
  refine w_icmp_ge hB 56 dX7_tellMember_8 (by decide) (fun hc => ?_) (fun hc => ?_)
  · replace hF := ifT hc hF
    exact Wt.sub (L' := [(0, vr 208), (1, vr n1), (2, vi x2)]) [0, 1, 2] rfl (b_X7_tellMember_b56 hp hB hF)
  · replace hF := ifF hc hF
    refine w_iload_n hB 3 dX7_tellMember_11 rfl rfl ?_
    refine w_if_eq hB 25 dX7_tellMember_12 (by decide) (fun hc => ?_) (fun hc => ?_)
    · replace hF := ifT hc hF
      exact Wt.sub (L' := [(0, vr 208), (1, vr n1), (2, vi x2), (3, vi x3)]) [0, 1, 2, 3] rfl (b_X7_tellMember_b25 hp hB h4 hF)
    · replace hF := ifF hc hF
      refine w_aload_n hB 0 dX7_tellMember_15 rfl rfl ?_
      refine w_getR hB ff_X7_4 (soM hp.1 sh_208 (by decide)) q_283 dX7_tellMember_16 ?_
      refine w_gettok hB hp 7 ⟨by decide, by decide⟩ q_1064 dX7_tellMember_19 ?_
      obtain ⟨g1, hF⟩ := gdS hF
      refine w_acmp_eq hB 56 g1 (by decide) dX7_tellMember_22 (by decide) (fun hc => ?_) (fun hc => ?_)
      · replace hF := ifT hc hF
        exact Wt.sub (L' := [(0, vr 208), (1, vr n1), (2, vi x2)]) [0, 1, 2] rfl (b_X7_tellMember_b56 hp hB hF)
      · replace hF := ifF hc hF
        exact Wt.sub (L' := [(0, vr 208), (1, vr n1), (2, vi x2), (3, vi x3)]) [0, 1, 2, 3] rfl (b_X7_tellMember_b25 hp hB h4 hF)
theorem b_X7_tellMember_b4 {K : Kt} {X : Xt} (hp : St K) (hB : Bx K X { frames := 4, cells := 0, slots := 0, locals := 84 } cX7_tellMember 5 RX7 (some .boolean)) {r : Int32} {M1 : Mem} (k : Nat) : ∀ (n1 : Nat) (x2 : Int32) (x3 : Int32) M, f_X7_tellMember_b4 k n1 x2 x3 M = some (r, M1) → Wt K X (QM K X (some (vi r)) M1 0 0) 0 0 M 4 [(0, vr 208), (1, vr n1), (2, vi x2), (3, vi x3)] [] := by
  refine lpN_ind (P := fun (f : Nat → Int32 → Int32 → Mem → Option (Int32 × Mem)) => ∀ (n1 : Nat) (x2 : Int32) (x3 : Int32) M, f n1 x2 x3 M = some (r, M1) → Wt K X (QM K X (some (vi r)) M1 0 0) 0 0 M 4 [(0, vr 208), (1, vr n1), (2, vi x2), (3, vi x3)] []) (fun _ _ _ _ h => by cases h) (fun f hf n1 x2 x3 M hF => ?_) k
  exact b_X7_tellMember_b4_s hp hB hf hF
set_option maxRecDepth 100000 in
set_option maxHeartbeats 4000000 in
theorem b_X7_tellMember {K : Kt} {X : Xt} (hp : St K) (hB : Bx K X { frames := 4, cells := 0, slots := 0, locals := 84 } cX7_tellMember 5 RX7 (some .boolean)) {r : Int32} {M1 : Mem} {n1 : Nat} {M : Mem} (hF : f_X7_tellMember n1 M = some (r, M1)) : Wt K X (QM K X (some (vi r)) M1 0 0) 0 0 M 0 [(0, vr 208), (1, vr n1)] [] := by
  unfold f_X7_tellMember at hF
  refine w_iconst hB 0 (by decide) dX7_tellMember_0 ?_
  refine w_istore_n hB (L' := [(2, vi 0), (0, vr 208), (1, vr n1)]) dX7_tellMember_1 rfl (by decide) rfl rfl ?_
  refine w_iconst hB 0 (by decide) dX7_tellMember_2 ?_
  refine w_istore_n hB (L' := [(3, vi 0), (2, vi 0), (0, vr 208), (1, vr n1)]) dX7_tellMember_3 rfl (by decide) rfl rfl ?_
  exact Wt.sub (L' := [(0, vr 208), (1, vr n1), (2, vi 0), (3, vi 0)]) [2, 3, 1, 0] rfl (b_X7_tellMember_b4 hp hB fuel _ _ _ M hF)
theorem c_X7_tellMember {K : Kt} {l : Launch} (hp : St K) {r : Int32} {M1 : Mem} {n1 : Nat} {M : Mem} (hF : f_X7_tellMember n1 M = some (r, M1)) : MT K l yX7_tellMember cX7_tellMember 5 (some .boolean) { frames := 4, cells := 0, slots := 0, locals := 84 } [vr 208, vr n1] M (some (vi r)) M1 0 0 :=
  MT_of (by decide) rfl (Nat.le_of_ble_eq_true rfl) (fun X _ hB _ => b_X7_tellMember hp hB hF)
set_option maxRecDepth 100000 in
set_option maxHeartbeats 4000000 in
theorem b_X7_tellBoard_b124 {K : Kt} {X : Xt} (hp : St K) (hB : Bx K X { frames := 5, cells := 0, slots := 0, locals := 108 } cX7_tellBoard 3 RX7 (some .boolean)) {r : Int32} {M1 : Mem} {M : Mem} (hF : f_X7_tellBoard_b124 M = some (r, M1)) : Wt K X (QM K X (some (vi r)) M1 0 0) 0 0 M 124 [(0, vr 208)] [] := by
  unfold f_X7_tellBoard_b124 at hF
  refine w_aload_n hB 0 dX7_tellBoard_124 rfl rfl ?_
  refine w_getR hB ff_X7_1 (soM hp.1 sh_208 (by decide)) q_280 dX7_tellBoard_125 ?_
  refine w_dup hB rfl dX7_tellBoard_128 ?_
  obtain ⟨g1, hF⟩ := gdS hF
  refine w_getI hB ff_X9_9 (soM hp.1 g1 (by decide)) q_227 dX7_tellBoard_129 ?_
  refine w_iconst hB 1 (by decide) dX7_tellBoard_132 ?_
  refine w_iadd hB dX7_tellBoard_133 ?_
  obtain ⟨M1m, e_M1m, hF⟩ := bndS hF
  refine w_putI hB ff_X9_9 (soM hp.1 g1 (by decide)) q_227 e_M1m dX7_tellBoard_134 ?_
  refine w_iconst hB 1 (by decide) dX7_tellBoard_137 ?_
  obtain ⟨e1, e2⟩ := retS hF
  subst e2
  exact w_zret hB (by decide) dX7_tellBoard_138 e1
set_option maxRecDepth 100000 in
set_option maxHeartbeats 4000000 in
theorem b_X7_tellBoard_b76_s {K : Kt} {X : Xt} (hp : St K) (hB : Bx K X { frames := 5, cells := 0, slots := 0, locals := 108 } cX7_tellBoard 3 RX7 (some .boolean)) {r : Int32} {M1 : Mem} {rec76 : Nat → Int32 → Mem → Option (Int32 × Mem)}
    (h76 : ∀ n1 x2 M, rec76 n1 x2 M = some (r, M1) → Wt K X (QM K X (some (vi r)) M1 0 0) 0 0 M 76 [(0, vr 208), (1, vr n1), (2, vi x2)] []) {n1 : Nat} {x2 : Int32} {M : Mem} (hF : f_X7_tellBoard_b76_s rec76 n1 x2 M = some (r, M1)) : Wt K X (QM K X (some (vi r)) M1 0 0) 0 0 M 76 [(0, vr 208), (1, vr n1), (2, vi x2)] [] := by
  unfold f_X7_tellBoard_b76_s at hF
  refine w_iload_n hB 2 dX7_tellBoard_76 rfl rfl ?_
  refine w_bipush hB 7 (by decide) dX7_tellBoard_77 ?_
  refine w_icmp_gt hB 124 dX7_tellBoard_79 (by decide) (fun hc => ?_) (fun hc => ?_)
  · replace hF := ifT hc hF
    exact Wt.sub (L' := [(0, vr 208)]) [0] rfl (b_X7_tellBoard_b124 hp hB hF)
  · replace hF := ifF hc hF
    refine w_aload_n hB 0 dX7_tellBoard_82 rfl rfl ?_
    refine w_getR hB ff_X7_4 (soM hp.1 sh_208 (by decide)) q_283 dX7_tellBoard_83 ?_
    refine w_gettok hB hp 6 ⟨by decide, by decide⟩ q_1059 dX7_tellBoard_86 ?_
    obtain ⟨g1, hF⟩ := gdS hF
    refine w_acmp_ne hB 124 g1 (by decide) dX7_tellBoard_89 (by decide) (fun hc => ?_) (fun hc => ?_)
    · replace hF := ifF hc hF
      exact Wt.sub (L' := [(0, vr 208)]) [0] rfl (b_X7_tellBoard_b124 hp hB hF)
    · replace hF := ifT hc hF
      refine w_iload_n hB 2 dX7_tellBoard_92 rfl rfl ?_
      refine w_bipush hB 7 (by decide) dX7_tellBoard_93 ?_
      refine w_icmp_ne hB 104 dX7_tellBoard_95 (by decide) (fun hc => ?_) (fun hc => ?_)
      · replace hF := ifF hc hF
        refine w_aload_n hB 0 dX7_tellBoard_104 rfl rfl ?_
        obtain ⟨M2m, hc_M2m, hF⟩ := clvS hF
        refine w_callV hB (ci := 6) (As := []) (st := []) cw_X7_63 q_907 q_908 rfl (soM hp.1 sh_208 (by decide)) (c_X7_advance hp hc_M2m) ⟨rfl, rfl⟩ (by decide) (by decide) rfl (Nat.le_of_ble_eq_true rfl) dX7_tellBoard_105 rfl ?_
        refine w_aload_n hB 0 dX7_tellBoard_108 rfl rfl ?_
        refine w_aload_n hB 1 dX7_tellBoard_109 rfl rfl ?_
        obtain ⟨r2, M3m, hc_M3m, hF⟩ := clS hF
        refine w_callV hB (ci := 6) (As := [vr n1]) (st := []) cw_X7_291 q_1061 q_1062 rfl (soM hp.1 sh_208 (by decide)) (c_X7_tellMember hp hc_M3m) ⟨rfl, rfl⟩ (by decide) (by decide) rfl (Nat.le_of_ble_eq_true rfl) dX7_tellBoard_110 rfl ?_
        refine w_if_ne hB 118 dX7_tellBoard_113 (by decide) (fun hc => ?_) (fun hc => ?_)
        · replace hF := ifF hc hF
          obtain ⟨a1, e_a1, hF⟩ := bndS hF
          refine w_iinc hB 2 (v := 1) (L' := [(2, vi a1), (0, vr 208), (1, vr n1)]) dX7_tellBoard_118 rfl (by decide) (by decide) e_a1 rfl ?_
          refine w_goto hB 76 dX7_tellBoard_121 (by decide) ?_
          exact Wt.sub (L' := [(0, vr 208), (1, vr n1), (2, vi a1)]) [1, 2, 0] rfl (h76 _ _ M3m hF)
        · replace hF := ifT hc hF
          refine w_iconst hB 0 (by decide) dX7_tellBoard_116 ?_
          obtain ⟨e1, e2⟩ := retS hF
          subst e2
          exact w_zret hB (by decide) dX7_tellBoard_117 e1
      · replace hF := ifT hc hF
        refine w_aload_n hB 0 dX7_tellBoard_98 rfl rfl ?_
        refine w_iconst hB 5 (by decide) dX7_tellBoard_99 ?_
        obtain ⟨r1, M1m, hc_M1m, hF⟩ := clS hF
        refine w_callV hB (ci := 6) (As := [vi 5]) (st := []) cw_X7_104 q_978 q_979 rfl (soM hp.1 sh_208 (by decide)) (c_X7_fail hp hc_M1m) ⟨rfl, rfl⟩ (by decide) (by decide) rfl (Nat.le_of_ble_eq_true rfl) dX7_tellBoard_100 rfl ?_
        obtain ⟨g2, hF⟩ := gdS hF
        obtain ⟨e1, e2⟩ := retS hF
        subst e2
        exact w_zret hB g2 dX7_tellBoard_103 e1
theorem b_X7_tellBoard_b76 {K : Kt} {X : Xt} (hp : St K) (hB : Bx K X { frames := 5, cells := 0, slots := 0, locals := 108 } cX7_tellBoard 3 RX7 (some .boolean)) {r : Int32} {M1 : Mem} (k : Nat) : ∀ (n1 : Nat) (x2 : Int32) M, f_X7_tellBoard_b76 k n1 x2 M = some (r, M1) → Wt K X (QM K X (some (vi r)) M1 0 0) 0 0 M 76 [(0, vr 208), (1, vr n1), (2, vi x2)] [] := by
  refine lpN_ind (P := fun (f : Nat → Int32 → Mem → Option (Int32 × Mem)) => ∀ (n1 : Nat) (x2 : Int32) M, f n1 x2 M = some (r, M1) → Wt K X (QM K X (some (vi r)) M1 0 0) 0 0 M 76 [(0, vr 208), (1, vr n1), (2, vi x2)] []) (fun _ _ _ h => by cases h) (fun f hf n1 x2 M hF => ?_) k
  exact b_X7_tellBoard_b76_s hp hB hf hF
set_option maxRecDepth 100000 in
set_option maxHeartbeats 4000000 in
theorem b_X7_tellBoard {K : Kt} {X : Xt} (hp : St K) (hB : Bx K X { frames := 5, cells := 0, slots := 0, locals := 108 } cX7_tellBoard 3 RX7 (some .boolean)) {r : Int32} {M1 : Mem} {M : Mem} (hF : f_X7_tellBoard M = some (r, M1)) : Wt K X (QM K X (some (vi r)) M1 0 0) 0 0 M 0 [(0, vr 208)] [] := by
  unfold f_X7_tellBoard at hF
  refine w_aload_n hB 0 dX7_tellBoard_0 rfl rfl ?_
  refine w_getR hB ff_X7_1 (soM hp.1 sh_208 (by decide)) q_280 dX7_tellBoard_1 ?_
  obtain ⟨g1, hF⟩ := gdS hF
  refine w_getC hB (v := cr (M.2.2.1 208 1) 10) ff_X9_10 (soM hp.1 g1 (by decide)) hp.1 rfl (shc_ne (crc_8_10 g1).1) q_230 dX7_tellBoard_4 ?_
  refine w_aload_n hB 0 dX7_tellBoard_7 rfl rfl ?_
  refine w_getR hB ff_X7_1 (soM hp.1 sh_208 (by decide)) q_280 dX7_tellBoard_8 ?_
  refine w_getI hB ff_X9_9 (soM hp.1 g1 (by decide)) q_227 dX7_tellBoard_11 ?_
  obtain ⟨g2, hF⟩ := gdS hF
  refine w_aaldC hB (c := 5) (v := cr (cr (M.2.2.1 208 1) 10) (M.1 (M.2.2.1 208 1) 9).toNatClampNeg) (soM hp.1 (crc_8_10 g1).1 (by decide)) rfl (by decide) hp.1 (sl_s (crc_8_10 g1).1 (by decide) (crc_8_10 g1).2) g2 rfl (shc_ne (cre_25 (crc_8_10 g1).1 (by rw [(crc_8_10 g1).2]; exact inb_lt g2))) dX7_tellBoard_14 ?_
  obtain ⟨o1, e_o1, hF⟩ := bndS hF
  rw [← e_o1]
  refine w_astore_n hB (L' := [(1, vr o1), (0, vr 208)]) dX7_tellBoard_15 rfl (by decide) rfl ?_
  refine w_aload_n hB 1 dX7_tellBoard_16 rfl rfl ?_
  refine w_gettok hB hp 14 ⟨by decide, by decide⟩ q_1057 dX7_tellBoard_17 ?_
  refine w_aload_n hB 1 dX7_tellBoard_20 rfl rfl ?_
  refine w_getR hB ff_X7_1 (soM hp.1 sh_208 (by decide)) q_280 dX7_tellBoard_21 ?_
  refine w_getI hB ff_X9_9 (soM hp.1 g1 (by decide)) q_227 dX7_tellBoard_24 ?_
  obtain ⟨r1, M1m, hc_M1m, hF⟩ := clS hF
  refine w_callV hB (ci := 6) (As := [vr 14, vi (M.1 (M.2.2.1 208 1) 9)]) (st := []) cw_X7_188 q_988 q_989 rfl (soM hp.1 sh_208 (by decide)) (c_X7_giveName hp hc_M1m) ⟨rfl, rfl⟩ (by decide) (by decide) rfl (Nat.le_of_ble_eq_true rfl) dX7_tellBoard_27 rfl ?_
  refine w_if_eq hB 43 dX7_tellBoard_30 (by decide) (fun hc => ?_) (fun hc => ?_)
  · replace hF := ifT hc hF
    refine w_iconst hB 0 (by decide) dX7_tellBoard_43 ?_
    obtain ⟨e1, e2⟩ := retS hF
    subst e2
    exact w_zret hB (by decide) dX7_tellBoard_44 e1
  · replace hF := ifF hc hF
    refine w_aload_n hB 1 dX7_tellBoard_33 rfl rfl ?_
    refine w_iconst hB 1 (by decide) dX7_tellBoard_34 ?_
    refine w_bipush hB 9 (by decide) dX7_tellBoard_35 ?_
    obtain ⟨r2, M2m, hc_M2m, hF⟩ := clS hF
    refine w_callV hB (ci := 6) (As := [vi 1, vi 9]) (st := []) cw_X7_179 q_993 q_994 rfl (soM hp.1 sh_208 (by decide)) (c_X7_takeNumber hp hc_M2m) ⟨rfl, rfl⟩ (by decide) (by decide) rfl (Nat.le_of_ble_eq_true rfl) dX7_tellBoard_37 rfl ?_
    refine w_if_ne hB 45 dX7_tellBoard_40 (by decide) (fun hc => ?_) (fun hc => ?_)
    · replace hF := ifF hc hF
      refine w_aload_n hB 0 dX7_tellBoard_45 rfl rfl ?_
      refine w_aload_n hB 1 dX7_tellBoard_46 rfl rfl ?_
      refine w_getI hB ff_X7_7 (soM hp.1 sh_208 (by decide)) q_287 dX7_tellBoard_47 ?_
      obtain ⟨M3m, e_M3m, hF⟩ := bndS hF
      refine w_putI hB ff_X1_0 (soM hp.1 (by rw [e_o1]; exact (cre_25 (crc_8_10 g1).1 (by rw [(crc_8_10 g1).2]; exact inb_lt g2))) (by decide)) q_108 e_M3m dX7_tellBoard_50 ?_
      refine w_aload_n hB 0 dX7_tellBoard_53 rfl rfl ?_
      refine w_iconst hB 0 (by decide) dX7_tellBoard_54 ?_
      obtain ⟨M4m, e_M4m, hF⟩ := bndS hF
      refine w_putI hB ff_X1_1 (soM hp.1 (by rw [e_o1]; exact (cre_25 (crc_8_10 g1).1 (by rw [(crc_8_10 g1).2]; exact inb_lt g2))) (by decide)) q_109 e_M4m dX7_tellBoard_55 ?_
      refine w_aload_n hB 1 dX7_tellBoard_58 rfl rfl ?_
      refine w_getR hB ff_X7_4 (soM hp.1 sh_208 (by decide)) q_283 dX7_tellBoard_59 ?_
      refine w_gettok hB hp 6 ⟨by decide, by decide⟩ q_1059 dX7_tellBoard_62 ?_
      obtain ⟨g3, hF⟩ := gdS hF
      refine w_acmp_eq hB 74 g3 (by decide) dX7_tellBoard_65 (by decide) (fun hc => ?_) (fun hc => ?_)
      · replace hF := ifT hc hF
        refine w_iconst hB 0 (by decide) dX7_tellBoard_74 ?_
        refine w_istore_n hB (L' := [(2, vi 0), (1, vr o1), (0, vr 208)]) dX7_tellBoard_75 rfl (by decide) rfl rfl ?_
        exact Wt.sub (L' := [(0, vr 208), (1, vr o1), (2, vi 0)]) [2, 1, 0] rfl (b_X7_tellBoard_b76 hp hB fuel _ _ M4m hF)
      · replace hF := ifF hc hF
        refine w_aload_n hB 1 dX7_tellBoard_68 rfl rfl ?_
        refine w_iconst hB 1 (by decide) dX7_tellBoard_69 ?_
        obtain ⟨r3, M5m, hc_M5m, hF⟩ := clS hF
        refine w_callV hB (ci := 6) (As := [vi 1]) (st := []) cw_X7_104 q_978 q_979 rfl (soM hp.1 sh_208 (by decide)) (c_X7_fail hp hc_M5m) ⟨rfl, rfl⟩ (by decide) (by decide) rfl (Nat.le_of_ble_eq_true rfl) dX7_tellBoard_70 rfl ?_
        obtain ⟨g4, hF⟩ := gdS hF
        obtain ⟨e1, e2⟩ := retS hF
        subst e2
        exact w_zret hB g4 dX7_tellBoard_73 e1
    · replace hF := ifT hc hF
      refine w_iconst hB 0 (by decide) dX7_tellBoard_43 ?_
      obtain ⟨e1, e2⟩ := retS hF
      subst e2
      exact w_zret hB (by decide) dX7_tellBoard_44 e1
theorem c_X7_tellBoard {K : Kt} {l : Launch} (hp : St K) {r : Int32} {M1 : Mem} {M : Mem} (hF : f_X7_tellBoard M = some (r, M1)) : MT K l yX7_tellBoard cX7_tellBoard 3 (some .boolean) { frames := 5, cells := 0, slots := 0, locals := 108 } [vr 208] M (some (vi r)) M1 0 0 :=
  MT_of (by decide) rfl (Nat.le_of_ble_eq_true rfl) (fun X _ hB _ => b_X7_tellBoard hp hB hF)
set_option maxRecDepth 100000 in
set_option maxHeartbeats 4000000 in
theorem b_X7_tellCamera {K : Kt} {X : Xt} (hp : St K) (hB : Bx K X { frames := 4, cells := 0, slots := 0, locals := 84 } cX7_tellCamera 2 RX7 (some .boolean)) {r : Int32} {M1 : Mem} {M : Mem} (hF : f_X7_tellCamera M = some (r, M1)) : Wt K X (QM K X (some (vi r)) M1 0 0) 0 0 M 0 [(0, vr 208)] [] := by
  unfold f_X7_tellCamera at hF
  refine w_aload_n hB 0 dX7_tellCamera_0 rfl rfl ?_
  refine w_getR hB ff_X7_1 (soM hp.1 sh_208 (by decide)) q_280 dX7_tellCamera_1 ?_
  obtain ⟨g1, hF⟩ := gdS hF
  refine w_getI hB ff_X9_0 (soM hp.1 g1 (by decide)) q_199 dX7_tellCamera_4 ?_
  obtain ⟨a1, e_a1, hF⟩ := bndS hF
  refine w_istore_n hB (L' := [(1, vi a1), (0, vr 208)]) dX7_tellCamera_7 rfl (by decide) e_a1 rfl ?_
  refine w_aload_n hB 1 dX7_tellCamera_8 rfl rfl ?_
  refine w_gettok hB hp 10 ⟨by decide, by decide⟩ q_985 dX7_tellCamera_9 ?_
  refine w_iload_n hB 0 dX7_tellCamera_12 rfl rfl ?_
  obtain ⟨r1, M1m, hc_M1m, hF⟩ := clS hF
  refine w_callV hB (ci := 6) (As := [vr 10, vi a1]) (st := []) cw_X7_188 q_988 q_989 rfl (soM hp.1 sh_208 (by decide)) (c_X7_giveName hp hc_M1m) ⟨rfl, rfl⟩ (by decide) (by decide) rfl (Nat.le_of_ble_eq_true rfl) dX7_tellCamera_13 rfl ?_
  refine w_if_eq hB 30 dX7_tellCamera_16 (by decide) (fun hc => ?_) (fun hc => ?_)
  · replace hF := ifT hc hF
    refine w_iconst hB 0 (by decide) dX7_tellCamera_30 ?_
    obtain ⟨e1, e2⟩ := retS hF
    subst e2
    exact w_zret hB (by decide) dX7_tellCamera_31 e1
  · replace hF := ifF hc hF
    refine w_aload_n hB 1 dX7_tellCamera_19 rfl rfl ?_
    refine w_iconst hB 0 (by decide) dX7_tellCamera_20 ?_
    refine w_sipush hB 999 (by decide) dX7_tellCamera_21 ?_
    obtain ⟨r2, M2m, hc_M2m, hF⟩ := clS hF
    refine w_callV hB (ci := 6) (As := [vi 0, vi 999]) (st := []) cw_X7_179 q_993 q_994 rfl (soM hp.1 sh_208 (by decide)) (c_X7_takeNumber hp hc_M2m) ⟨rfl, rfl⟩ (by decide) (by decide) rfl (Nat.le_of_ble_eq_true rfl) dX7_tellCamera_24 rfl ?_
    refine w_if_ne hB 32 dX7_tellCamera_27 (by decide) (fun hc => ?_) (fun hc => ?_)
    · replace hF := ifF hc hF
      refine w_aload_n hB 1 dX7_tellCamera_32 rfl rfl ?_
      refine w_getR hB ff_X7_1 (soM hp.1 sh_208 (by decide)) q_280 dX7_tellCamera_33 ?_
      obtain ⟨g2, hF⟩ := gdS hF
      refine w_getC hB (v := cr (M2m.2.2.1 208 1) 1) ff_X9_1 (soM hp.1 g2 (by decide)) hp.1 rfl (shc_ne (crc_8_1 g2).1) q_202 dX7_tellCamera_36 ?_
      refine w_iload_n hB 0 dX7_tellCamera_39 rfl rfl ?_
      refine w_aload_n hB 1 dX7_tellCamera_40 rfl rfl ?_
      refine w_getI hB ff_X7_7 (soM hp.1 sh_208 (by decide)) q_287 dX7_tellCamera_41 ?_
      obtain ⟨g3, hF⟩ := gdS hF
      obtain ⟨M3m, e_M3m, hF⟩ := bndS hF
      refine w_iast hB (soM hp.1 (crc_8_1 g2).1 (by decide)) (sl_s (crc_8_1 g2).1 (by decide) (crc_8_1 g2).2) g3 e_M3m dX7_tellCamera_44 ?_
      refine w_aload_n hB 1 dX7_tellCamera_45 rfl rfl ?_
      refine w_aload_n hB 1 dX7_tellCamera_46 rfl rfl ?_
      refine w_getI hB ff_X7_7 (soM hp.1 sh_208 (by decide)) q_287 dX7_tellCamera_47 ?_
      refine w_sipush hB 999 (by decide) dX7_tellCamera_50 ?_
      obtain ⟨r3, M4m, hc_M4m, hF⟩ := clS hF
      refine w_callV hB (ci := 6) (As := [vi (M3m.1 208 7), vi 999]) (st := []) cw_X7_179 q_993 q_994 rfl (soM hp.1 sh_208 (by decide)) (c_X7_takeNumber hp hc_M4m) ⟨rfl, rfl⟩ (by decide) (by decide) rfl (Nat.le_of_ble_eq_true rfl) dX7_tellCamera_53 rfl ?_
      refine w_if_ne hB 61 dX7_tellCamera_56 (by decide) (fun hc => ?_) (fun hc => ?_)
      · replace hF := ifF hc hF
        refine w_aload_n hB 1 dX7_tellCamera_61 rfl rfl ?_
        refine w_getR hB ff_X7_1 (soM hp.1 sh_208 (by decide)) q_280 dX7_tellCamera_62 ?_
        obtain ⟨g4, hF⟩ := gdS hF
        refine w_getC hB (v := cr (M4m.2.2.1 208 1) 2) ff_X9_2 (soM hp.1 g4 (by decide)) hp.1 rfl (shc_ne (crc_8_2 g4).1) q_205 dX7_tellCamera_65 ?_
        refine w_iload_n hB 0 dX7_tellCamera_68 rfl rfl ?_
        refine w_aload_n hB 1 dX7_tellCamera_69 rfl rfl ?_
        refine w_getI hB ff_X7_7 (soM hp.1 sh_208 (by decide)) q_287 dX7_tellCamera_70 ?_
        obtain ⟨M5m, e_M5m, hF⟩ := bndS hF
        refine w_iast hB (soM hp.1 (crc_8_2 g4).1 (by decide)) (sl_s (crc_8_2 g4).1 (by decide) (crc_8_2 g4).2) g3 e_M5m dX7_tellCamera_73 ?_
        refine w_aload_n hB 1 dX7_tellCamera_74 rfl rfl ?_
        refine w_getR hB ff_X7_1 (soM hp.1 sh_208 (by decide)) q_280 dX7_tellCamera_75 ?_
        obtain ⟨g5, hF⟩ := gdS hF
        refine w_getC hB (v := cr (M5m.2.2.1 208 1) 4) ff_X9_4 (soM hp.1 g5 (by decide)) hp.1 rfl (shc_ne (crc_8_4 g5).1) q_212 dX7_tellCamera_78 ?_
        refine w_iload_n hB 0 dX7_tellCamera_81 rfl rfl ?_
        refine w_aload_n hB 1 dX7_tellCamera_82 rfl rfl ?_
        refine w_getR hB ff_X7_1 (soM hp.1 sh_208 (by decide)) q_280 dX7_tellCamera_83 ?_
        refine w_getC hB (v := cr (M5m.2.2.1 208 1) 1) ff_X9_1 (soM hp.1 g5 (by decide)) hp.1 rfl (shc_ne (crc_8_1 g5).1) q_202 dX7_tellCamera_86 ?_
        refine w_iload_n hB 0 dX7_tellCamera_89 rfl rfl ?_
        refine w_iald hB (soM hp.1 (crc_8_1 g5).1 (by decide)) (sl_s (crc_8_1 g5).1 (by decide) (crc_8_1 g5).2) g3 dX7_tellCamera_90 ?_
        refine w_aload_n hB 1 dX7_tellCamera_91 rfl rfl ?_
        refine w_getI hB ff_X7_7 (soM hp.1 sh_208 (by decide)) q_287 dX7_tellCamera_92 ?_
        obtain ⟨M6m, hc_M6m, hF⟩ := clvS hF
        refine w_callV hB (ci := 1) (As := [vi a1, vi (M5m.1 (cr (M5m.2.2.1 208 1) 1) a1.toNatClampNeg), vi (M5m.1 208 7)]) (st := []) cw_X7_202 q_997 q_998 rfl (soM hp.1 (crc_8_4 g5).1 (by decide)) (c_X2_tellLate hp hc_M6m) ⟨rfl, rfl⟩ (by decide) (by decide) rfl (Nat.le_of_ble_eq_true rfl) dX7_tellCamera_95 rfl ?_
        refine w_aload_n hB 1 dX7_tellCamera_98 rfl rfl ?_
        refine w_getR hB ff_X7_1 (soM hp.1 sh_208 (by decide)) q_280 dX7_tellCamera_99 ?_
        refine w_dup hB rfl dX7_tellCamera_102 ?_
        obtain ⟨g6, hF⟩ := gdS hF
        refine w_getI hB ff_X9_0 (soM hp.1 g6 (by decide)) q_199 dX7_tellCamera_103 ?_
        refine w_iconst hB 1 (by decide) dX7_tellCamera_106 ?_
        refine w_iadd hB dX7_tellCamera_107 ?_
        obtain ⟨M7m, e_M7m, hF⟩ := bndS hF
        refine w_putI hB ff_X9_0 (soM hp.1 g6 (by decide)) q_199 e_M7m dX7_tellCamera_108 ?_
        refine w_iconst hB 1 (by decide) dX7_tellCamera_111 ?_
        obtain ⟨e1, e2⟩ := retS hF
        subst e2
        exact w_zret hB (by decide) dX7_tellCamera_112 e1
      · replace hF := ifT hc hF
        refine w_iconst hB 0 (by decide) dX7_tellCamera_59 ?_
        obtain ⟨e1, e2⟩ := retS hF
        subst e2
        exact w_zret hB (by decide) dX7_tellCamera_60 e1
    · replace hF := ifT hc hF
      refine w_iconst hB 0 (by decide) dX7_tellCamera_30 ?_
      obtain ⟨e1, e2⟩ := retS hF
      subst e2
      exact w_zret hB (by decide) dX7_tellCamera_31 e1
theorem c_X7_tellCamera {K : Kt} {l : Launch} (hp : St K) {r : Int32} {M1 : Mem} {M : Mem} (hF : f_X7_tellCamera M = some (r, M1)) : MT K l yX7_tellCamera cX7_tellCamera 2 (some .boolean) { frames := 4, cells := 0, slots := 0, locals := 84 } [vr 208] M (some (vi r)) M1 0 0 :=
  MT_of (by decide) rfl (Nat.le_of_ble_eq_true rfl) (fun X _ hB _ => b_X7_tellCamera hp hB hF)
set_option maxRecDepth 100000 in
set_option maxHeartbeats 4000000 in
theorem b_X7_tellFlash {K : Kt} {X : Xt} (hp : St K) (hB : Bx K X { frames := 4, cells := 0, slots := 0, locals := 84 } cX7_tellFlash 4 RX7 (some .boolean)) {r : Int32} {M1 : Mem} {M : Mem} (hF : f_X7_tellFlash M = some (r, M1)) : Wt K X (QM K X (some (vi r)) M1 0 0) 0 0 M 0 [(0, vr 208)] [] := by
  unfold f_X7_tellFlash at hF
  refine w_aload_n hB 0 dX7_tellFlash_0 rfl rfl ?_
  refine w_gettok hB hp 10 ⟨by decide, by decide⟩ q_985 dX7_tellFlash_1 ?_
  refine w_iconst hB (-1) (by decide) dX7_tellFlash_4 ?_
  obtain ⟨r1, M1m, hc_M1m, hF⟩ := clS hF
  refine w_callV hB (ci := 6) (As := [vr 10, vi (-1)]) (st := []) cw_X7_208 q_1006 q_1007 rfl (soM hp.1 sh_208 (by decide)) (c_X7_takeName hp hc_M1m) ⟨rfl, rfl⟩ (by decide) (by decide) rfl (Nat.le_of_ble_eq_true rfl) dX7_tellFlash_5 rfl ?_
  refine w_istore_n hB (L' := [(1, vi r1), (0, vr 208)]) dX7_tellFlash_8 rfl (by decide) rfl rfl ?_
  refine w_iload_n hB 0 dX7_tellFlash_9 rfl rfl ?_
  refine w_iconst hB (-1) (by decide) dX7_tellFlash_10 ?_
  refine w_icmp_eq hB 25 dX7_tellFlash_11 (by decide) (fun hc => ?_) (fun hc => ?_)
  · replace hF := ifT hc hF
    refine w_iconst hB 0 (by decide) dX7_tellFlash_25 ?_
    obtain ⟨e1, e2⟩ := retS hF
    subst e2
    exact w_zret hB (by decide) dX7_tellFlash_26 e1
  · replace hF := ifF hc hF
    refine w_aload_n hB 1 dX7_tellFlash_14 rfl rfl ?_
    refine w_iconst hB 0 (by decide) dX7_tellFlash_15 ?_
    refine w_sipush hB 999 (by decide) dX7_tellFlash_16 ?_
    obtain ⟨r2, M2m, hc_M2m, hF⟩ := clS hF
    refine w_callV hB (ci := 6) (As := [vi 0, vi 999]) (st := []) cw_X7_179 q_993 q_994 rfl (soM hp.1 sh_208 (by decide)) (c_X7_takeNumber hp hc_M2m) ⟨rfl, rfl⟩ (by decide) (by decide) rfl (Nat.le_of_ble_eq_true rfl) dX7_tellFlash_19 rfl ?_
    refine w_if_ne hB 27 dX7_tellFlash_22 (by decide) (fun hc => ?_) (fun hc => ?_)
    · replace hF := ifF hc hF
      refine w_aload_n hB 1 dX7_tellFlash_27 rfl rfl ?_
      refine w_getI hB ff_X7_7 (soM hp.1 sh_208 (by decide)) q_287 dX7_tellFlash_28 ?_
      obtain ⟨a1, e_a1, hF⟩ := bndS hF
      refine w_istore_n hB (L' := [(2, vi a1), (1, vi r1), (0, vr 208)]) dX7_tellFlash_31 rfl (by decide) e_a1 rfl ?_
      refine w_aload_n hB 2 dX7_tellFlash_32 rfl rfl ?_
      refine w_gettok hB hp 10 ⟨by decide, by decide⟩ q_985 dX7_tellFlash_33 ?_
      refine w_iload_n hB 1 dX7_tellFlash_36 rfl rfl ?_
      obtain ⟨r3, M3m, hc_M3m, hF⟩ := clS hF
      refine w_callV hB (ci := 6) (As := [vr 10, vi r1]) (st := []) cw_X7_208 q_1006 q_1007 rfl (soM hp.1 sh_208 (by decide)) (c_X7_takeName hp hc_M3m) ⟨rfl, rfl⟩ (by decide) (by decide) rfl (Nat.le_of_ble_eq_true rfl) dX7_tellFlash_37 rfl ?_
      refine w_istore_n hB (L' := [(3, vi r3), (2, vi a1), (1, vi r1), (0, vr 208)]) dX7_tellFlash_40 rfl (by decide) rfl rfl ?_
      refine w_iload_n hB 0 dX7_tellFlash_41 rfl rfl ?_
      refine w_iconst hB (-1) (by decide) dX7_tellFlash_42 ?_
      refine w_icmp_eq hB 57 dX7_tellFlash_43 (by decide) (fun hc => ?_) (fun hc => ?_)
      · replace hF := ifT hc hF
        refine w_iconst hB 0 (by decide) dX7_tellFlash_57 ?_
        obtain ⟨e1, e2⟩ := retS hF
        subst e2
        exact w_zret hB (by decide) dX7_tellFlash_58 e1
      · replace hF := ifF hc hF
        refine w_aload_n hB 3 dX7_tellFlash_46 rfl rfl ?_
        refine w_iconst hB 0 (by decide) dX7_tellFlash_47 ?_
        refine w_sipush hB 999 (by decide) dX7_tellFlash_48 ?_
        obtain ⟨r4, M4m, hc_M4m, hF⟩ := clS hF
        refine w_callV hB (ci := 6) (As := [vi 0, vi 999]) (st := []) cw_X7_179 q_993 q_994 rfl (soM hp.1 sh_208 (by decide)) (c_X7_takeNumber hp hc_M4m) ⟨rfl, rfl⟩ (by decide) (by decide) rfl (Nat.le_of_ble_eq_true rfl) dX7_tellFlash_51 rfl ?_
        refine w_if_ne hB 59 dX7_tellFlash_54 (by decide) (fun hc => ?_) (fun hc => ?_)
        · replace hF := ifF hc hF
          refine w_aload_n hB 3 dX7_tellFlash_59 rfl rfl ?_
          refine w_getR hB ff_X7_1 (soM hp.1 sh_208 (by decide)) q_280 dX7_tellFlash_60 ?_
          obtain ⟨g1, hF⟩ := gdS hF
          refine w_getC hB (v := cr (M4m.2.2.1 208 1) 4) ff_X9_4 (soM hp.1 g1 (by decide)) hp.1 rfl (shc_ne (crc_8_4 g1).1) q_212 dX7_tellFlash_63 ?_
          refine w_iload_n hB 2 dX7_tellFlash_66 rfl rfl ?_
          refine w_iload_n hB 1 dX7_tellFlash_67 rfl rfl ?_
          refine w_iload_n hB 0 dX7_tellFlash_68 rfl rfl ?_
          refine w_aload_n hB 3 dX7_tellFlash_69 rfl rfl ?_
          refine w_getI hB ff_X7_7 (soM hp.1 sh_208 (by decide)) q_287 dX7_tellFlash_70 ?_
          obtain ⟨M5m, hc_M5m, hF⟩ := clvS hF
          refine w_callV hB (ci := 1) (As := [vi r1, vi a1, vi r3, vi (M4m.1 208 7)]) (st := []) cw_X7_211 q_1014 q_1015 rfl (soM hp.1 (crc_8_4 g1).1 (by decide)) (c_X2_tellFlash hp hc_M5m) ⟨rfl, rfl⟩ (by decide) (by decide) rfl (Nat.le_of_ble_eq_true rfl) dX7_tellFlash_73 rfl ?_
          refine w_aload_n hB 3 dX7_tellFlash_76 rfl rfl ?_
          refine w_getR hB ff_X7_1 (soM hp.1 sh_208 (by decide)) q_280 dX7_tellFlash_77 ?_
          refine w_dup hB rfl dX7_tellFlash_80 ?_
          obtain ⟨g2, hF⟩ := gdS hF
          refine w_getI hB ff_X9_3 (soM hp.1 g2 (by decide)) q_207 dX7_tellFlash_81 ?_
          refine w_iconst hB 1 (by decide) dX7_tellFlash_84 ?_
          refine w_iadd hB dX7_tellFlash_85 ?_
          obtain ⟨M6m, e_M6m, hF⟩ := bndS hF
          refine w_putI hB ff_X9_3 (soM hp.1 g2 (by decide)) q_207 e_M6m dX7_tellFlash_86 ?_
          refine w_iconst hB 1 (by decide) dX7_tellFlash_89 ?_
          obtain ⟨e1, e2⟩ := retS hF
          subst e2
          exact w_zret hB (by decide) dX7_tellFlash_90 e1
        · replace hF := ifT hc hF
          refine w_iconst hB 0 (by decide) dX7_tellFlash_57 ?_
          obtain ⟨e1, e2⟩ := retS hF
          subst e2
          exact w_zret hB (by decide) dX7_tellFlash_58 e1
    · replace hF := ifT hc hF
      refine w_iconst hB 0 (by decide) dX7_tellFlash_25 ?_
      obtain ⟨e1, e2⟩ := retS hF
      subst e2
      exact w_zret hB (by decide) dX7_tellFlash_26 e1
theorem c_X7_tellFlash {K : Kt} {l : Launch} (hp : St K) {r : Int32} {M1 : Mem} {M : Mem} (hF : f_X7_tellFlash M = some (r, M1)) : MT K l yX7_tellFlash cX7_tellFlash 4 (some .boolean) { frames := 4, cells := 0, slots := 0, locals := 84 } [vr 208] M (some (vi r)) M1 0 0 :=
  MT_of (by decide) rfl (Nat.le_of_ble_eq_true rfl) (fun X _ hB _ => b_X7_tellFlash hp hB hF)
set_option maxRecDepth 100000 in
set_option maxHeartbeats 4000000 in
theorem b_X7_tellPair {K : Kt} {X : Xt} (hp : St K) (hB : Bx K X { frames := 4, cells := 0, slots := 0, locals := 82 } cX7_tellPair 3 RX7 (some .boolean)) {r : Int32} {M1 : Mem} {n1 : Nat} {M : Mem} (hF : f_X7_tellPair n1 M = some (r, M1)) : Wt K X (QM K X (some (vi r)) M1 0 0) 0 0 M 0 [(0, vr 208), (1, vr n1)] [] := by
  unfold f_X7_tellPair at hF
  refine w_aload_n hB 0 dX7_tellPair_0 rfl rfl ?_
  refine w_iconst hB 0 (by decide) dX7_tellPair_1 ?_
  obtain ⟨r1, M1m, hc_M1m, hF⟩ := clS hF
  refine w_callV hB (ci := 6) (As := [vi 0]) (st := []) cw_X7_258 q_1042 q_1043 rfl (soM hp.1 sh_208 (by decide)) (c_X7_takeMark hp hc_M1m) ⟨rfl, rfl⟩ (by decide) (by decide) rfl (Nat.le_of_ble_eq_true rfl) dX7_tellPair_2 rfl ?_
  refine w_if_ne hB 10 dX7_tellPair_5 (by decide) (fun hc => ?_) (fun hc => ?_)
  · replace hF := ifF hc hF
    refine w_aload_n hB 0 dX7_tellPair_10 rfl rfl ?_
    refine w_getI hB ff_X7_7 (soM hp.1 sh_208 (by decide)) q_287 dX7_tellPair_11 ?_
    obtain ⟨a1, e_a1, hF⟩ := bndS hF
    refine w_istore_n hB (L' := [(2, vi a1), (0, vr 208), (1, vr n1)]) dX7_tellPair_14 rfl (by decide) e_a1 rfl ?_
    refine w_aload_n hB 1 dX7_tellPair_15 rfl rfl ?_
    refine w_gettok hB hp 22 ⟨by decide, by decide⟩ q_1045 dX7_tellPair_16 ?_
    obtain ⟨r2, M2m, hc_M2m, hF⟩ := clS hF
    refine w_callV hB (ci := 6) (As := [vr 22]) (st := []) cw_X7_264 q_1048 q_1049 rfl (soM hp.1 sh_208 (by decide)) (c_X7_take hp hc_M2m) ⟨rfl, rfl⟩ (by decide) (by decide) rfl (Nat.le_of_ble_eq_true rfl) dX7_tellPair_19 rfl ?_
    refine w_if_eq hB 35 dX7_tellPair_22 (by decide) (fun hc => ?_) (fun hc => ?_)
    · replace hF := ifT hc hF
      refine w_iconst hB 0 (by decide) dX7_tellPair_35 ?_
      obtain ⟨e1, e2⟩ := retS hF
      subst e2
      exact w_zret hB (by decide) dX7_tellPair_36 e1
    · replace hF := ifF hc hF
      refine w_aload_n hB 1 dX7_tellPair_25 rfl rfl ?_
      refine w_iconst hB 1 (by decide) dX7_tellPair_26 ?_
      refine w_iload_n hB 0 dX7_tellPair_27 rfl rfl ?_
      refine w_ishl hB dX7_tellPair_28 ?_
      obtain ⟨r3, M3m, hc_M3m, hF⟩ := clS hF
      refine w_callV hB (ci := 6) (As := [vi ((1 : Int32) <<< (a1 &&& 31))]) (st := []) cw_X7_258 q_1042 q_1043 rfl (soM hp.1 sh_208 (by decide)) (c_X7_takeMark hp hc_M3m) ⟨rfl, rfl⟩ (by decide) (by decide) rfl (Nat.le_of_ble_eq_true rfl) dX7_tellPair_29 rfl ?_
      refine w_if_ne hB 37 dX7_tellPair_32 (by decide) (fun hc => ?_) (fun hc => ?_)
      · replace hF := ifF hc hF
        refine w_aload_n hB 2 dX7_tellPair_37 rfl rfl ?_
        obtain ⟨g1, hF⟩ := gdS hF
        refine w_getC hB (v := cr n1 4) ff_X5_4 (soM hp.1 g1 (by decide)) hp.1 rfl (shc_ne (crc_5_4 g1).1) q_86 dX7_tellPair_38 ?_
        refine w_aload_n hB 2 dX7_tellPair_41 rfl rfl ?_
        refine w_getI hB ff_X5_3 (soM hp.1 g1 (by decide)) q_83 dX7_tellPair_42 ?_
        refine w_iload_n hB 0 dX7_tellPair_45 rfl rfl ?_
        obtain ⟨g2, hF⟩ := gdS hF
        obtain ⟨M4m, e_M4m, hF⟩ := bndS hF
        refine w_iast hB (soM hp.1 (crc_5_4 g1).1 (by decide)) (sl_s (crc_5_4 g1).1 (by decide) (crc_5_4 g1).2) g2 e_M4m dX7_tellPair_46 ?_
        refine w_aload_n hB 2 dX7_tellPair_47 rfl rfl ?_
        refine w_getC hB (v := cr n1 5) ff_X5_5 (soM hp.1 g1 (by decide)) hp.1 rfl (shc_ne (crc_5_5 g1).1) q_89 dX7_tellPair_48 ?_
        refine w_aload_n hB 2 dX7_tellPair_51 rfl rfl ?_
        refine w_getI hB ff_X5_3 (soM hp.1 g1 (by decide)) q_83 dX7_tellPair_52 ?_
        refine w_aload_n hB 1 dX7_tellPair_55 rfl rfl ?_
        refine w_getI hB ff_X7_7 (soM hp.1 sh_208 (by decide)) q_287 dX7_tellPair_56 ?_
        obtain ⟨g3, hF⟩ := gdS hF
        obtain ⟨M5m, e_M5m, hF⟩ := bndS hF
        refine w_iast hB (soM hp.1 (crc_5_5 g1).1 (by decide)) (sl_s (crc_5_5 g1).1 (by decide) (crc_5_5 g1).2) g3 e_M5m dX7_tellPair_59 ?_
        refine w_aload_n hB 2 dX7_tellPair_60 rfl rfl ?_
        refine w_dup hB rfl dX7_tellPair_61 ?_
        refine w_getI hB ff_X5_3 (soM hp.1 g1 (by decide)) q_83 dX7_tellPair_62 ?_
        refine w_iconst hB 1 (by decide) dX7_tellPair_65 ?_
        refine w_iadd hB dX7_tellPair_66 ?_
        obtain ⟨M6m, e_M6m, hF⟩ := bndS hF
        refine w_putI hB ff_X5_3 (soM hp.1 g1 (by decide)) q_83 e_M6m dX7_tellPair_67 ?_
        refine w_iconst hB 1 (by decide) dX7_tellPair_70 ?_
        obtain ⟨e1, e2⟩ := retS hF
        subst e2
        exact w_zret hB (by decide) dX7_tellPair_71 e1
      · replace hF := ifT hc hF
        refine w_iconst hB 0 (by decide) dX7_tellPair_35 ?_
        obtain ⟨e1, e2⟩ := retS hF
        subst e2
        exact w_zret hB (by decide) dX7_tellPair_36 e1
  · replace hF := ifT hc hF
    refine w_iconst hB 0 (by decide) dX7_tellPair_8 ?_
    obtain ⟨e1, e2⟩ := retS hF
    subst e2
    exact w_zret hB (by decide) dX7_tellPair_9 e1
theorem c_X7_tellPair {K : Kt} {l : Launch} (hp : St K) {r : Int32} {M1 : Mem} {n1 : Nat} {M : Mem} (hF : f_X7_tellPair n1 M = some (r, M1)) : MT K l yX7_tellPair cX7_tellPair 3 (some .boolean) { frames := 4, cells := 0, slots := 0, locals := 82 } [vr 208, vr n1] M (some (vi r)) M1 0 0 :=
  MT_of (by decide) rfl (Nat.le_of_ble_eq_true rfl) (fun X _ hB _ => b_X7_tellPair hp hB hF)
set_option maxRecDepth 100000 in
set_option maxHeartbeats 4000000 in
theorem b_X7_tellKind_b141 {K : Kt} {X : Xt} (hp : St K) (hB : Bx K X { frames := 5, cells := 0, slots := 0, locals := 104 } cX7_tellKind 3 RX7 (some .boolean)) {r : Int32} {M1 : Mem} {M : Mem} (hF : f_X7_tellKind_b141 M = some (r, M1)) : Wt K X (QM K X (some (vi r)) M1 0 0) 0 0 M 141 [(0, vr 208)] [] := by
  unfold f_X7_tellKind_b141 at hF
  refine w_aload_n hB 0 dX7_tellKind_141 rfl rfl ?_
  refine w_getR hB ff_X7_1 (soM hp.1 sh_208 (by decide)) q_280 dX7_tellKind_142 ?_
  refine w_dup hB rfl dX7_tellKind_145 ?_
  obtain ⟨g1, hF⟩ := gdS hF
  refine w_getI hB ff_X9_7 (soM hp.1 g1 (by decide)) q_221 dX7_tellKind_146 ?_
  refine w_iconst hB 1 (by decide) dX7_tellKind_149 ?_
  refine w_iadd hB dX7_tellKind_150 ?_
  obtain ⟨M1m, e_M1m, hF⟩ := bndS hF
  refine w_putI hB ff_X9_7 (soM hp.1 g1 (by decide)) q_221 e_M1m dX7_tellKind_151 ?_
  refine w_iconst hB 1 (by decide) dX7_tellKind_154 ?_
  obtain ⟨e1, e2⟩ := retS hF
  subst e2
  exact w_zret hB (by decide) dX7_tellKind_155 e1
set_option maxRecDepth 100000 in
set_option maxHeartbeats 4000000 in
theorem b_X7_tellKind_b92_s {K : Kt} {X : Xt} (hp : St K) (hB : Bx K X { frames := 5, cells := 0, slots := 0, locals := 104 } cX7_tellKind 3 RX7 (some .boolean)) {r : Int32} {M1 : Mem} {rec92 : Nat → Int32 → Mem → Option (Int32 × Mem)}
    (h92 : ∀ n1 x2 M, rec92 n1 x2 M = some (r, M1) → Wt K X (QM K X (some (vi r)) M1 0 0) 0 0 M 92 [(0, vr 208), (1, vr n1), (2, vi x2)] []) {n1 : Nat} {x2 : Int32} {M : Mem} (hF : f_X7_tellKind_b92_s rec92 n1 x2 M = some (r, M1)) : Wt K X (QM K X (some (vi r)) M1 0 0) 0 0 M 92 [(0, vr 208), (1, vr n1), (2, vi x2)] [] := by
  unfold f_X7_tellKind_b92_s at hF
  refine w_iload_n hB 2 dX7_tellKind_92 rfl rfl ?_
  refine w_iconst hB 3 (by decide) dX7_tellKind_93 ?_
  refine w_icmp_ge hB 141 dX7_tellKind_94 (by decide) (fun hc => ?_) (fun hc => ?_)
  · replace hF := ifT hc hF
    exact Wt.sub (L' := [(0, vr 208)]) [0] rfl (b_X7_tellKind_b141 hp hB hF)
  · replace hF := ifF hc hF
    refine w_aload_n hB 0 dX7_tellKind_97 rfl rfl ?_
    refine w_getR hB ff_X7_4 (soM hp.1 sh_208 (by decide)) q_283 dX7_tellKind_98 ?_
    refine w_gettok hB hp 23 ⟨by decide, by decide⟩ q_1051 dX7_tellKind_101 ?_
    obtain ⟨g1, hF⟩ := gdS hF
    refine w_acmp_ne hB 141 g1 (by decide) dX7_tellKind_104 (by decide) (fun hc => ?_) (fun hc => ?_)
    · replace hF := ifF hc hF
      exact Wt.sub (L' := [(0, vr 208)]) [0] rfl (b_X7_tellKind_b141 hp hB hF)
    · replace hF := ifT hc hF
      refine w_aload_n hB 1 dX7_tellKind_107 rfl rfl ?_
      obtain ⟨g2, hF⟩ := gdS hF
      refine w_getI hB ff_X5_3 (soM hp.1 g2 (by decide)) q_83 dX7_tellKind_108 ?_
      refine w_iconst hB 3 (by decide) dX7_tellKind_111 ?_
      refine w_icmp_ne hB 121 dX7_tellKind_112 (by decide) (fun hc => ?_) (fun hc => ?_)
      · replace hF := ifF hc hF
        refine w_aload_n hB 0 dX7_tellKind_121 rfl rfl ?_
        obtain ⟨M2m, hc_M2m, hF⟩ := clvS hF
        refine w_callV hB (ci := 6) (As := []) (st := []) cw_X7_63 q_907 q_908 rfl (soM hp.1 sh_208 (by decide)) (c_X7_advance hp hc_M2m) ⟨rfl, rfl⟩ (by decide) (by decide) rfl (Nat.le_of_ble_eq_true rfl) dX7_tellKind_122 rfl ?_
        refine w_aload_n hB 0 dX7_tellKind_125 rfl rfl ?_
        refine w_aload_n hB 1 dX7_tellKind_126 rfl rfl ?_
        obtain ⟨r2, M3m, hc_M3m, hF⟩ := clS hF
        refine w_callV hB (ci := 6) (As := [vr n1]) (st := []) cw_X7_251 q_1038 q_1039 rfl (soM hp.1 sh_208 (by decide)) (c_X7_tellPair hp hc_M3m) ⟨rfl, rfl⟩ (by decide) (by decide) rfl (Nat.le_of_ble_eq_true rfl) dX7_tellKind_127 rfl ?_
        refine w_if_ne hB 135 dX7_tellKind_130 (by decide) (fun hc => ?_) (fun hc => ?_)
        · replace hF := ifF hc hF
          obtain ⟨a1, e_a1, hF⟩ := bndS hF
          refine w_iinc hB 2 (v := 1) (L' := [(2, vi a1), (0, vr 208), (1, vr n1)]) dX7_tellKind_135 rfl (by decide) (by decide) e_a1 rfl ?_
          refine w_goto hB 92 dX7_tellKind_138 (by decide) ?_
          exact Wt.sub (L' := [(0, vr 208), (1, vr n1), (2, vi a1)]) [1, 2, 0] rfl (h92 _ _ M3m hF)
        · replace hF := ifT hc hF
          refine w_iconst hB 0 (by decide) dX7_tellKind_133 ?_
          obtain ⟨e1, e2⟩ := retS hF
          subst e2
          exact w_zret hB (by decide) dX7_tellKind_134 e1
      · replace hF := ifT hc hF
        refine w_aload_n hB 0 dX7_tellKind_115 rfl rfl ?_
        refine w_iconst hB 5 (by decide) dX7_tellKind_116 ?_
        obtain ⟨r1, M1m, hc_M1m, hF⟩ := clS hF
        refine w_callV hB (ci := 6) (As := [vi 5]) (st := []) cw_X7_104 q_978 q_979 rfl (soM hp.1 sh_208 (by decide)) (c_X7_fail hp hc_M1m) ⟨rfl, rfl⟩ (by decide) (by decide) rfl (Nat.le_of_ble_eq_true rfl) dX7_tellKind_117 rfl ?_
        obtain ⟨g3, hF⟩ := gdS hF
        obtain ⟨e1, e2⟩ := retS hF
        subst e2
        exact w_zret hB g3 dX7_tellKind_120 e1
theorem b_X7_tellKind_b92 {K : Kt} {X : Xt} (hp : St K) (hB : Bx K X { frames := 5, cells := 0, slots := 0, locals := 104 } cX7_tellKind 3 RX7 (some .boolean)) {r : Int32} {M1 : Mem} (k : Nat) : ∀ (n1 : Nat) (x2 : Int32) M, f_X7_tellKind_b92 k n1 x2 M = some (r, M1) → Wt K X (QM K X (some (vi r)) M1 0 0) 0 0 M 92 [(0, vr 208), (1, vr n1), (2, vi x2)] [] := by
  refine lpN_ind (P := fun (f : Nat → Int32 → Mem → Option (Int32 × Mem)) => ∀ (n1 : Nat) (x2 : Int32) M, f n1 x2 M = some (r, M1) → Wt K X (QM K X (some (vi r)) M1 0 0) 0 0 M 92 [(0, vr 208), (1, vr n1), (2, vi x2)] []) (fun _ _ _ h => by cases h) (fun f hf n1 x2 M hF => ?_) k
  exact b_X7_tellKind_b92_s hp hB hf hF
set_option maxRecDepth 100000 in
set_option maxHeartbeats 4000000 in
theorem b_X7_tellKind {K : Kt} {X : Xt} (hp : St K) (hB : Bx K X { frames := 5, cells := 0, slots := 0, locals := 104 } cX7_tellKind 3 RX7 (some .boolean)) {r : Int32} {M1 : Mem} {M : Mem} (hF : f_X7_tellKind M = some (r, M1)) : Wt K X (QM K X (some (vi r)) M1 0 0) 0 0 M 0 [(0, vr 208)] [] := by
  unfold f_X7_tellKind at hF
  refine w_aload_n hB 0 dX7_tellKind_0 rfl rfl ?_
  refine w_getR hB ff_X7_1 (soM hp.1 sh_208 (by decide)) q_280 dX7_tellKind_1 ?_
  obtain ⟨g1, hF⟩ := gdS hF
  refine w_getC hB (v := cr (M.2.2.1 208 1) 8) ff_X9_8 (soM hp.1 g1 (by decide)) hp.1 rfl (shc_ne (crc_8_8 g1).1) q_225 dX7_tellKind_4 ?_
  refine w_aload_n hB 0 dX7_tellKind_7 rfl rfl ?_
  refine w_getR hB ff_X7_1 (soM hp.1 sh_208 (by decide)) q_280 dX7_tellKind_8 ?_
  refine w_getI hB ff_X9_7 (soM hp.1 g1 (by decide)) q_221 dX7_tellKind_11 ?_
  obtain ⟨g2, hF⟩ := gdS hF
  refine w_aaldC hB (c := 4) (v := cr (cr (M.2.2.1 208 1) 8) (M.1 (M.2.2.1 208 1) 7).toNatClampNeg) (soM hp.1 (crc_8_8 g1).1 (by decide)) rfl (by decide) hp.1 (sl_s (crc_8_8 g1).1 (by decide) (crc_8_8 g1).2) g2 rfl (shc_ne (cre_24 (crc_8_8 g1).1 (by rw [(crc_8_8 g1).2]; exact inb_lt g2))) dX7_tellKind_14 ?_
  obtain ⟨o1, e_o1, hF⟩ := bndS hF
  rw [← e_o1]
  refine w_astore_n hB (L' := [(1, vr o1), (0, vr 208)]) dX7_tellKind_15 rfl (by decide) rfl ?_
  refine w_aload_n hB 1 dX7_tellKind_16 rfl rfl ?_
  refine w_gettok hB hp 13 ⟨by decide, by decide⟩ q_1027 dX7_tellKind_17 ?_
  refine w_aload_n hB 1 dX7_tellKind_20 rfl rfl ?_
  refine w_getR hB ff_X7_1 (soM hp.1 sh_208 (by decide)) q_280 dX7_tellKind_21 ?_
  refine w_getI hB ff_X9_7 (soM hp.1 g1 (by decide)) q_221 dX7_tellKind_24 ?_
  obtain ⟨r1, M1m, hc_M1m, hF⟩ := clS hF
  refine w_callV hB (ci := 6) (As := [vr 13, vi (M.1 (M.2.2.1 208 1) 7)]) (st := []) cw_X7_188 q_988 q_989 rfl (soM hp.1 sh_208 (by decide)) (c_X7_giveName hp hc_M1m) ⟨rfl, rfl⟩ (by decide) (by decide) rfl (Nat.le_of_ble_eq_true rfl) dX7_tellKind_27 rfl ?_
  refine w_if_eq hB 43 dX7_tellKind_30 (by decide) (fun hc => ?_) (fun hc => ?_)
  · replace hF := ifT hc hF
    refine w_iconst hB 0 (by decide) dX7_tellKind_43 ?_
    obtain ⟨e1, e2⟩ := retS hF
    subst e2
    exact w_zret hB (by decide) dX7_tellKind_44 e1
  · replace hF := ifF hc hF
    refine w_aload_n hB 1 dX7_tellKind_33 rfl rfl ?_
    refine w_iconst hB 1 (by decide) dX7_tellKind_34 ?_
    refine w_bipush hB 60 (by decide) dX7_tellKind_35 ?_
    obtain ⟨r2, M2m, hc_M2m, hF⟩ := clS hF
    refine w_callV hB (ci := 6) (As := [vi 1, vi 60]) (st := []) cw_X7_179 q_993 q_994 rfl (soM hp.1 sh_208 (by decide)) (c_X7_takeNumber hp hc_M2m) ⟨rfl, rfl⟩ (by decide) (by decide) rfl (Nat.le_of_ble_eq_true rfl) dX7_tellKind_37 rfl ?_
    refine w_if_ne hB 45 dX7_tellKind_40 (by decide) (fun hc => ?_) (fun hc => ?_)
    · replace hF := ifF hc hF
      refine w_aload_n hB 0 dX7_tellKind_45 rfl rfl ?_
      refine w_aload_n hB 1 dX7_tellKind_46 rfl rfl ?_
      refine w_getI hB ff_X7_7 (soM hp.1 sh_208 (by decide)) q_287 dX7_tellKind_47 ?_
      obtain ⟨M3m, e_M3m, hF⟩ := bndS hF
      refine w_putI hB ff_X5_0 (soM hp.1 (by rw [e_o1]; exact (cre_24 (crc_8_8 g1).1 (by rw [(crc_8_8 g1).2]; exact inb_lt g2))) (by decide)) q_79 e_M3m dX7_tellKind_50 ?_
      refine w_aload_n hB 0 dX7_tellKind_53 rfl rfl ?_
      refine w_aload_n hB 1 dX7_tellKind_54 rfl rfl ?_
      refine w_gettok hB hp 20 ⟨by decide, by decide⟩ q_1029 dX7_tellKind_55 ?_
      obtain ⟨r3, M4m, hc_M4m, hF⟩ := clS hF
      refine w_callV hB (ci := 6) (As := [vr 20]) (st := [vr o1]) cw_X7_235 q_1032 q_1033 rfl (soM hp.1 sh_208 (by decide)) (c_X7_skip hp hc_M4m) ⟨rfl, rfl⟩ (by decide) (by decide) rfl (Nat.le_of_ble_eq_true rfl) dX7_tellKind_58 rfl ?_
      obtain ⟨g3, hF⟩ := gdS hF
      obtain ⟨M5m, e_M5m, hF⟩ := bndS hF
      refine w_putZ hB ff_X5_1 (soM hp.1 (by rw [e_o1]; exact (cre_24 (crc_8_8 g1).1 (by rw [(crc_8_8 g1).2]; exact inb_lt g2))) (by decide)) q_80 g3 e_M5m dX7_tellKind_61 ?_
      refine w_aload_n hB 0 dX7_tellKind_64 rfl rfl ?_
      refine w_aload_n hB 1 dX7_tellKind_65 rfl rfl ?_
      refine w_gettok hB hp 21 ⟨by decide, by decide⟩ q_1035 dX7_tellKind_66 ?_
      obtain ⟨r4, M6m, hc_M6m, hF⟩ := clS hF
      refine w_callV hB (ci := 6) (As := [vr 21]) (st := [vr o1]) cw_X7_235 q_1032 q_1033 rfl (soM hp.1 sh_208 (by decide)) (c_X7_skip hp hc_M6m) ⟨rfl, rfl⟩ (by decide) (by decide) rfl (Nat.le_of_ble_eq_true rfl) dX7_tellKind_69 rfl ?_
      obtain ⟨g4, hF⟩ := gdS hF
      obtain ⟨M7m, e_M7m, hF⟩ := bndS hF
      refine w_putZ hB ff_X5_2 (soM hp.1 (by rw [e_o1]; exact (cre_24 (crc_8_8 g1).1 (by rw [(crc_8_8 g1).2]; exact inb_lt g2))) (by decide)) q_81 g4 e_M7m dX7_tellKind_72 ?_
      refine w_aload_n hB 0 dX7_tellKind_75 rfl rfl ?_
      refine w_iconst hB 0 (by decide) dX7_tellKind_76 ?_
      obtain ⟨M8m, e_M8m, hF⟩ := bndS hF
      refine w_putI hB ff_X5_3 (soM hp.1 (by rw [e_o1]; exact (cre_24 (crc_8_8 g1).1 (by rw [(crc_8_8 g1).2]; exact inb_lt g2))) (by decide)) q_83 e_M8m dX7_tellKind_77 ?_
      refine w_aload_n hB 1 dX7_tellKind_80 rfl rfl ?_
      refine w_aload_n hB 0 dX7_tellKind_81 rfl rfl ?_
      obtain ⟨r5, M9m, hc_M9m, hF⟩ := clS hF
      refine w_callV hB (ci := 6) (As := [vr o1]) (st := []) cw_X7_251 q_1038 q_1039 rfl (soM hp.1 sh_208 (by decide)) (c_X7_tellPair hp hc_M9m) ⟨rfl, rfl⟩ (by decide) (by decide) rfl (Nat.le_of_ble_eq_true rfl) dX7_tellKind_82 rfl ?_
      refine w_if_ne hB 90 dX7_tellKind_85 (by decide) (fun hc => ?_) (fun hc => ?_)
      · replace hF := ifF hc hF
        refine w_iconst hB 0 (by decide) dX7_tellKind_90 ?_
        refine w_istore_n hB (L' := [(2, vi 0), (1, vr o1), (0, vr 208)]) dX7_tellKind_91 rfl (by decide) rfl rfl ?_
        exact Wt.sub (L' := [(0, vr 208), (1, vr o1), (2, vi 0)]) [2, 1, 0] rfl (b_X7_tellKind_b92 hp hB fuel _ _ M9m hF)
      · replace hF := ifT hc hF
        refine w_iconst hB 0 (by decide) dX7_tellKind_88 ?_
        obtain ⟨e1, e2⟩ := retS hF
        subst e2
        exact w_zret hB (by decide) dX7_tellKind_89 e1
    · replace hF := ifT hc hF
      refine w_iconst hB 0 (by decide) dX7_tellKind_43 ?_
      obtain ⟨e1, e2⟩ := retS hF
      subst e2
      exact w_zret hB (by decide) dX7_tellKind_44 e1
theorem c_X7_tellKind {K : Kt} {l : Launch} (hp : St K) {r : Int32} {M1 : Mem} {M : Mem} (hF : f_X7_tellKind M = some (r, M1)) : MT K l yX7_tellKind cX7_tellKind 3 (some .boolean) { frames := 5, cells := 0, slots := 0, locals := 104 } [vr 208] M (some (vi r)) M1 0 0 :=
  MT_of (by decide) rfl (Nat.le_of_ble_eq_true rfl) (fun X _ hB _ => b_X7_tellKind hp hB hF)
set_option maxRecDepth 100000 in
set_option maxHeartbeats 4000000 in
theorem b_X7_tellFrame_b212 {K : Kt} {X : Xt} (hp : St K) (hB : Bx K X { frames := 4, cells := 0, slots := 0, locals := 83 } cX7_tellFrame 6 RX7 (some .boolean)) {r : Int32} {M1 : Mem} {rec97 : Nat → Int32 → Int32 → Mem → Option (Int32 × Mem)}
    (h97 : ∀ n1 x3 x4 M, rec97 n1 x3 x4 M = some (r, M1) → Wt K X (QM K X (some (vi r)) M1 0 0) 0 0 M 97 [(0, vr 208), (1, vr n1), (3, vi x3), (4, vi x4)] []) {n1 : Nat} {x3 : Int32} {x4 : Int32} {ns0 : Nat} {xs1 : Int32} {xs2 : Int32} {xs3 : Int32} {M : Mem} (hF : f_X7_tellFrame_b212 rec97 n1 x3 x4 ns0 xs1 xs2 xs3 M = some (r, M1)) : Wt K X (QM K X (some (vi r)) M1 0 0) 0 0 M 212 [(0, vr 208), (1, vr n1), (3, vi x3), (4, vi x4)] [vi xs3, vi xs2, vi xs1, vr ns0] := by
  unfold f_X7_tellFrame_b212 at hF
  refine w_ior hB dX7_tellFrame_212 ?_
  obtain ⟨g1, hF⟩ := gdS hF
  obtain ⟨g2, hF⟩ := gdS hF
  obtain ⟨M1m, e_M1m, hF⟩ := bndS hF
  refine w_iast hB (soM hp.1 g1 (by decide)) (sl_s g1 (by decide) rfl) g2 e_M1m dX7_tellFrame_213 ?_
  obtain ⟨a1, e_a1, hF⟩ := bndS hF
  refine w_iinc hB 3 (v := 1) (L' := [(4, vi a1), (0, vr 208), (1, vr n1), (3, vi x3)]) dX7_tellFrame_214 rfl (by decide) (by decide) e_a1 rfl ?_
  refine w_goto hB 97 dX7_tellFrame_217 (by decide) ?_
  exact Wt.sub (L' := [(0, vr 208), (1, vr n1), (3, vi x3), (4, vi a1)]) [1, 2, 3, 0] rfl (h97 _ _ _ M1m hF)
set_option maxRecDepth 100000 in
set_option maxHeartbeats 4000000 in
theorem b_X7_tellFrame_b188 {K : Kt} {X : Xt} (hp : St K) (hB : Bx K X { frames := 4, cells := 0, slots := 0, locals := 83 } cX7_tellFrame 6 RX7 (some .boolean)) {r : Int32} {M1 : Mem} {rec97 : Nat → Int32 → Int32 → Mem → Option (Int32 × Mem)}
    (h97 : ∀ n1 x3 x4 M, rec97 n1 x3 x4 M = some (r, M1) → Wt K X (QM K X (some (vi r)) M1 0 0) 0 0 M 97 [(0, vr 208), (1, vr n1), (3, vi x3), (4, vi x4)] []) {n1 : Nat} {x3 : Int32} {x4 : Int32} {x5 : Int32} {ns0 : Nat} {xs1 : Int32} {xs2 : Int32} {xs3 : Int32} {M : Mem} (hF : f_X7_tellFrame_b188 rec97 n1 x3 x4 x5 ns0 xs1 xs2 xs3 M = some (r, M1)) : Wt K X (QM K X (some (vi r)) M1 0 0) 0 0 M 188 [(0, vr 208), (1, vr n1), (3, vi x3), (4, vi x4), (5, vi x5)] [vi xs3, vi xs2, vi xs1, vr ns0] := by
  unfold f_X7_tellFrame_b188 at hF
  refine w_ior hB dX7_tellFrame_188 ?_
  obtain ⟨g1, hF⟩ := gdS hF
  obtain ⟨g2, hF⟩ := gdS hF
  obtain ⟨M1m, e_M1m, hF⟩ := bndS hF
  refine w_iast hB (soM hp.1 g1 (by decide)) (sl_s g1 (by decide) rfl) g2 e_M1m dX7_tellFrame_189 ?_
  refine w_aload_n hB 1 dX7_tellFrame_190 rfl rfl ?_
  obtain ⟨g3, hF⟩ := gdS hF
  refine w_getC hB (v := cr n1 9) ff_X6_9 (soM hp.1 g3 (by decide)) hp.1 rfl (shc_ne (crc_6_9 g3).1) q_154 dX7_tellFrame_191 ?_
  refine w_iload_n hB 2 dX7_tellFrame_194 rfl rfl ?_
  refine w_dup2 hB rfl rfl dX7_tellFrame_195 ?_
  obtain ⟨g4, hF⟩ := gdS hF
  refine w_iald hB (soM hp.1 (crc_6_9 g3).1 (by decide)) (sl_s (crc_6_9 g3).1 (by decide) (crc_6_9 g3).2) g4 dX7_tellFrame_196 ?_
  refine w_iload hB 4 dX7_tellFrame_197 rfl ?_
  refine w_if_eq hB 206 dX7_tellFrame_199 (by decide) (fun hc => ?_) (fun hc => ?_)
  · replace hF := ifT hc hF
    refine w_iconst hB 1 (by decide) dX7_tellFrame_206 ?_
    refine w_aload_n hB 0 dX7_tellFrame_207 rfl rfl ?_
    refine w_getI hB ff_X7_7 (soM hp.1 sh_208 (by decide)) q_287 dX7_tellFrame_208 ?_
    refine w_ishl hB dX7_tellFrame_211 ?_
    exact Wt.sub (L' := [(0, vr 208), (1, vr n1), (3, vi x3), (4, vi x4)]) [0, 1, 2, 3] rfl (b_X7_tellFrame_b212 hp hB h97 hF)
  · replace hF := ifF hc hF
    refine w_iconst hB 0 (by decide) dX7_tellFrame_202 ?_
    refine w_goto hB 212 dX7_tellFrame_203 (by decide) ?_
    exact Wt.sub (L' := [(0, vr 208), (1, vr n1), (3, vi x3), (4, vi x4)]) [0, 1, 2, 3] rfl (b_X7_tellFrame_b212 hp hB h97 hF)
set_option maxRecDepth 100000 in
set_option maxHeartbeats 4000000 in
theorem b_X7_tellFrame_b138 {K : Kt} {X : Xt} (hp : St K) (hB : Bx K X { frames := 4, cells := 0, slots := 0, locals := 83 } cX7_tellFrame 6 RX7 (some .boolean)) {r : Int32} {M1 : Mem} {rec97 : Nat → Int32 → Int32 → Mem → Option (Int32 × Mem)}
    (h97 : ∀ n1 x3 x4 M, rec97 n1 x3 x4 M = some (r, M1) → Wt K X (QM K X (some (vi r)) M1 0 0) 0 0 M 97 [(0, vr 208), (1, vr n1), (3, vi x3), (4, vi x4)] []) {n1 : Nat} {x3 : Int32} {x4 : Int32} {xs0 : Int32} {M : Mem} (hF : f_X7_tellFrame_b138 rec97 n1 x3 x4 xs0 M = some (r, M1)) : Wt K X (QM K X (some (vi r)) M1 0 0) 0 0 M 138 [(0, vr 208), (1, vr n1), (3, vi x3), (4, vi x4)] [vi xs0] := by
  unfold f_X7_tellFrame_b138 at hF
  refine w_istore hB (L' := [(5, vi xs0), (0, vr 208), (1, vr n1), (3, vi x3), (4, vi x4)]) dX7_tellFrame_138 (by decide) rfl rfl ?_
  refine w_aload_n hB 1 dX7_tellFrame_140 rfl rfl ?_
  obtain ⟨M1m, hc_M1m, hF⟩ := clvS hF
  refine w_callV hB (ci := 6) (As := []) (st := []) cw_X7_63 q_907 q_908 rfl (soM hp.1 sh_208 (by decide)) (c_X7_advance hp hc_M1m) ⟨rfl, rfl⟩ (by decide) (by decide) rfl (Nat.le_of_ble_eq_true rfl) dX7_tellFrame_141 rfl ?_
  refine w_aload_n hB 1 dX7_tellFrame_144 rfl rfl ?_
  refine w_aload_n hB 2 dX7_tellFrame_145 rfl rfl ?_
  obtain ⟨g1, hF⟩ := gdS hF
  refine w_getC hB (v := cr n1 8) ff_X6_8 (soM hp.1 g1 (by decide)) hp.1 rfl (shc_ne (crc_6_8 g1).1) q_150 dX7_tellFrame_146 ?_
  refine w_iload_n hB 3 dX7_tellFrame_149 rfl rfl ?_
  obtain ⟨g2, hF⟩ := gdS hF
  refine w_iald hB (soM hp.1 (crc_6_8 g1).1 (by decide)) (sl_s (crc_6_8 g1).1 (by decide) (crc_6_8 g1).2) g2 dX7_tellFrame_150 ?_
  refine w_aload_n hB 2 dX7_tellFrame_151 rfl rfl ?_
  refine w_getC hB (v := cr n1 9) ff_X6_9 (soM hp.1 g1 (by decide)) hp.1 rfl (shc_ne (crc_6_9 g1).1) q_154 dX7_tellFrame_152 ?_
  refine w_iload_n hB 3 dX7_tellFrame_155 rfl rfl ?_
  refine w_iald hB (soM hp.1 (crc_6_9 g1).1 (by decide)) (sl_s (crc_6_9 g1).1 (by decide) (crc_6_9 g1).2) g2 dX7_tellFrame_156 ?_
  refine w_ior hB dX7_tellFrame_157 ?_
  obtain ⟨r1, M2m, hc_M2m, hF⟩ := clS hF
  refine w_callV hB (ci := 6) (As := [vi ((M1m.1 (cr n1 8) x3.toNatClampNeg) ||| (M1m.1 (cr n1 9) x3.toNatClampNeg))]) (st := []) cw_X7_258 q_1042 q_1043 rfl (soM hp.1 sh_208 (by decide)) (c_X7_takeMark hp hc_M2m) ⟨rfl, rfl⟩ (by decide) (by decide) rfl (Nat.le_of_ble_eq_true rfl) dX7_tellFrame_158 rfl ?_
  refine w_if_ne hB 166 dX7_tellFrame_161 (by decide) (fun hc => ?_) (fun hc => ?_)
  · replace hF := ifF hc hF
    refine w_aload_n hB 2 dX7_tellFrame_166 rfl rfl ?_
    refine w_getC hB (v := cr n1 8) ff_X6_8 (soM hp.1 g1 (by decide)) hp.1 rfl (shc_ne (crc_6_8 g1).1) q_150 dX7_tellFrame_167 ?_
    refine w_iload_n hB 3 dX7_tellFrame_170 rfl rfl ?_
    refine w_dup2 hB rfl rfl dX7_tellFrame_171 ?_
    refine w_iald hB (soM hp.1 (crc_6_8 g1).1 (by decide)) (sl_s (crc_6_8 g1).1 (by decide) (crc_6_8 g1).2) g2 dX7_tellFrame_172 ?_
    refine w_iload hB 0 dX7_tellFrame_173 rfl ?_
    refine w_if_eq hB 187 dX7_tellFrame_175 (by decide) (fun hc => ?_) (fun hc => ?_)
    · replace hF := ifT hc hF
      refine w_iconst hB 0 (by decide) dX7_tellFrame_187 ?_
      exact Wt.sub (L' := [(0, vr 208), (1, vr n1), (3, vi x3), (4, vi x4), (5, vi xs0)]) [1, 2, 3, 4, 0] rfl (b_X7_tellFrame_b188 hp hB h97 hF)
    · replace hF := ifF hc hF
      refine w_iconst hB 1 (by decide) dX7_tellFrame_178 ?_
      refine w_aload_n hB 1 dX7_tellFrame_179 rfl rfl ?_
      refine w_getI hB ff_X7_7 (soM hp.1 sh_208 (by decide)) q_287 dX7_tellFrame_180 ?_
      refine w_ishl hB dX7_tellFrame_183 ?_
      refine w_goto hB 188 dX7_tellFrame_184 (by decide) ?_
      exact Wt.sub (L' := [(0, vr 208), (1, vr n1), (3, vi x3), (4, vi x4), (5, vi xs0)]) [1, 2, 3, 4, 0] rfl (b_X7_tellFrame_b188 hp hB h97 hF)
  · replace hF := ifT hc hF
    refine w_iconst hB 0 (by decide) dX7_tellFrame_164 ?_
    obtain ⟨e1, e2⟩ := retS hF
    subst e2
    exact w_zret hB (by decide) dX7_tellFrame_165 e1
set_option maxRecDepth 100000 in
set_option maxHeartbeats 4000000 in
theorem b_X7_tellFrame_b123 {K : Kt} {X : Xt} (hp : St K) (hB : Bx K X { frames := 4, cells := 0, slots := 0, locals := 83 } cX7_tellFrame 6 RX7 (some .boolean)) {r : Int32} {M1 : Mem} {rec97 : Nat → Int32 → Int32 → Mem → Option (Int32 × Mem)}
    (h97 : ∀ n1 x3 x4 M, rec97 n1 x3 x4 M = some (r, M1) → Wt K X (QM K X (some (vi r)) M1 0 0) 0 0 M 97 [(0, vr 208), (1, vr n1), (3, vi x3), (4, vi x4)] []) {n1 : Nat} {x3 : Int32} {x4 : Int32} {M : Mem} (hF : f_X7_tellFrame_b123 rec97 n1 x3 x4 M = some (r, M1)) : Wt K X (QM K X (some (vi r)) M1 0 0) 0 0 M 123 [(0, vr 208), (1, vr n1), (3, vi x3), (4, vi x4)] [] := by
  unfold f_X7_tellFrame_b123 at hF
  refine w_aload_n hB 0 dX7_tellFrame_123 rfl rfl ?_
  refine w_getR hB ff_X7_4 (soM hp.1 sh_208 (by decide)) q_283 dX7_tellFrame_124 ?_
  refine w_gettok hB hp 8 ⟨by decide, by decide⟩ q_1084 dX7_tellFrame_127 ?_
  obtain ⟨g1, hF⟩ := gdS hF
  refine w_acmp_ne hB 137 g1 (by decide) dX7_tellFrame_130 (by decide) (fun hc => ?_) (fun hc => ?_)
  · replace hF := ifF hc hF
    refine w_iconst hB 0 (by decide) dX7_tellFrame_137 ?_
    exact Wt.sub (L' := [(0, vr 208), (1, vr n1), (3, vi x3), (4, vi x4)]) [0, 1, 2, 3] rfl (b_X7_tellFrame_b138 hp hB h97 hF)
  · replace hF := ifT hc hF
    refine w_iconst hB 1 (by decide) dX7_tellFrame_133 ?_
    refine w_goto hB 138 dX7_tellFrame_134 (by decide) ?_
    exact Wt.sub (L' := [(0, vr 208), (1, vr n1), (3, vi x3), (4, vi x4)]) [0, 1, 2, 3] rfl (b_X7_tellFrame_b138 hp hB h97 hF)
set_option maxRecDepth 100000 in
set_option maxHeartbeats 4000000 in
theorem b_X7_tellFrame_b97_s {K : Kt} {X : Xt} (hp : St K) (hB : Bx K X { frames := 4, cells := 0, slots := 0, locals := 83 } cX7_tellFrame 6 RX7 (some .boolean)) {r : Int32} {M1 : Mem} {rec97 : Nat → Int32 → Int32 → Mem → Option (Int32 × Mem)}
    (h97 : ∀ n1 x3 x4 M, rec97 n1 x3 x4 M = some (r, M1) → Wt K X (QM K X (some (vi r)) M1 0 0) 0 0 M 97 [(0, vr 208), (1, vr n1), (3, vi x3), (4, vi x4)] []) {n1 : Nat} {x3 : Int32} {x4 : Int32} {M : Mem} (hF : f_X7_tellFrame_b97_s rec97 n1 x3 x4 M = some (r, M1)) : Wt K X (QM K X (some (vi r)) M1 0 0) 0 0 M 97 [(0, vr 208), (1, vr n1), (3, vi x3), (4, vi x4)] [] := by
  unfold f_X7_tellFrame_b97_s at hF
  refine w_iload hB 3 dX7_tellFrame_97 rfl ?_
  refine w_iconst hB 4 (by decide) dX7_tellFrame_99 ?_
  refine w_icmp_gt hB 220 dX7_tellFrame_100 (by decide) (fun hc => ?_) (fun hc => ?_)
  · replace hF := ifT hc hF
    refine w_iconst hB 1 (by decide) dX7_tellFrame_220 ?_
    obtain ⟨e1, e2⟩ := retS hF
    subst e2
    exact w_zret hB (by decide) dX7_tellFrame_221 e1
  · replace hF := ifF hc hF
    refine w_aload_n hB 0 dX7_tellFrame_103 rfl rfl ?_
    refine w_getR hB ff_X7_4 (soM hp.1 sh_208 (by decide)) q_283 dX7_tellFrame_104 ?_
    refine w_gettok hB hp 8 ⟨by decide, by decide⟩ q_1084 dX7_tellFrame_107 ?_
    obtain ⟨g1, hF⟩ := gdS hF
    refine w_acmp_eq hB 123 g1 (by decide) dX7_tellFrame_110 (by decide) (fun hc => ?_) (fun hc => ?_)
    · replace hF := ifT hc hF
      exact Wt.sub (L' := [(0, vr 208), (1, vr n1), (3, vi x3), (4, vi x4)]) [0, 1, 2, 3] rfl (b_X7_tellFrame_b123 hp hB h97 hF)
    · replace hF := ifF hc hF
      refine w_aload_n hB 0 dX7_tellFrame_113 rfl rfl ?_
      refine w_getR hB ff_X7_4 (soM hp.1 sh_208 (by decide)) q_283 dX7_tellFrame_114 ?_
      refine w_gettok hB hp 9 ⟨by decide, by decide⟩ q_1085 dX7_tellFrame_117 ?_
      refine w_acmp_ne hB 220 g1 (by decide) dX7_tellFrame_120 (by decide) (fun hc => ?_) (fun hc => ?_)
      · replace hF := ifF hc hF
        refine w_iconst hB 1 (by decide) dX7_tellFrame_220 ?_
        obtain ⟨e1, e2⟩ := retS hF
        subst e2
        exact w_zret hB (by decide) dX7_tellFrame_221 e1
      · replace hF := ifT hc hF
        exact Wt.sub (L' := [(0, vr 208), (1, vr n1), (3, vi x3), (4, vi x4)]) [0, 1, 2, 3] rfl (b_X7_tellFrame_b123 hp hB h97 hF)
theorem b_X7_tellFrame_b97 {K : Kt} {X : Xt} (hp : St K) (hB : Bx K X { frames := 4, cells := 0, slots := 0, locals := 83 } cX7_tellFrame 6 RX7 (some .boolean)) {r : Int32} {M1 : Mem} (k : Nat) : ∀ (n1 : Nat) (x3 : Int32) (x4 : Int32) M, f_X7_tellFrame_b97 k n1 x3 x4 M = some (r, M1) → Wt K X (QM K X (some (vi r)) M1 0 0) 0 0 M 97 [(0, vr 208), (1, vr n1), (3, vi x3), (4, vi x4)] [] := by
  refine lpN_ind (P := fun (f : Nat → Int32 → Int32 → Mem → Option (Int32 × Mem)) => ∀ (n1 : Nat) (x3 : Int32) (x4 : Int32) M, f n1 x3 x4 M = some (r, M1) → Wt K X (QM K X (some (vi r)) M1 0 0) 0 0 M 97 [(0, vr 208), (1, vr n1), (3, vi x3), (4, vi x4)] []) (fun _ _ _ _ h => by cases h) (fun f hf n1 x3 x4 M hF => ?_) k
  exact b_X7_tellFrame_b97_s hp hB hf hF
set_option maxRecDepth 100000 in
set_option maxHeartbeats 4000000 in
theorem b_X7_tellFrame {K : Kt} {X : Xt} (hp : St K) (hB : Bx K X { frames := 4, cells := 0, slots := 0, locals := 83 } cX7_tellFrame 6 RX7 (some .boolean)) {r : Int32} {M1 : Mem} {n1 : Nat} {M : Mem} (hF : f_X7_tellFrame n1 M = some (r, M1)) : Wt K X (QM K X (some (vi r)) M1 0 0) 0 0 M 0 [(0, vr 208), (1, vr n1)] [] := by
  unfold f_X7_tellFrame at hF
  refine w_aload_n hB 0 dX7_tellFrame_0 rfl rfl ?_
  refine w_gettok hB hp 10 ⟨by decide, by decide⟩ q_985 dX7_tellFrame_1 ?_
  refine w_iconst hB (-1) (by decide) dX7_tellFrame_4 ?_
  obtain ⟨r1, M1m, hc_M1m, hF⟩ := clS hF
  refine w_callV hB (ci := 6) (As := [vr 10, vi (-1)]) (st := []) cw_X7_113 q_1010 q_1011 rfl (soM hp.1 sh_208 (by decide)) (c_X7_findName hp hc_M1m) ⟨rfl, rfl⟩ (by decide) (by decide) rfl (Nat.le_of_ble_eq_true rfl) dX7_tellFrame_5 rfl ?_
  refine w_istore_n hB (L' := [(2, vi r1), (0, vr 208), (1, vr n1)]) dX7_tellFrame_8 rfl (by decide) rfl rfl ?_
  refine w_iload_n hB 0 dX7_tellFrame_9 rfl rfl ?_
  refine w_iconst hB (-1) (by decide) dX7_tellFrame_10 ?_
  refine w_icmp_ne hB 16 dX7_tellFrame_11 (by decide) (fun hc => ?_) (fun hc => ?_)
  · replace hF := ifF hc hF
    refine w_aload_n hB 2 dX7_tellFrame_16 rfl rfl ?_
    obtain ⟨g1, hF⟩ := gdS hF
    refine w_getI hB ff_X6_5 (soM hp.1 g1 (by decide)) q_138 dX7_tellFrame_17 ?_
    refine w_bipush hB 10 (by decide) dX7_tellFrame_20 ?_
    refine w_icmp_ne hB 31 dX7_tellFrame_22 (by decide) (fun hc => ?_) (fun hc => ?_)
    · replace hF := ifF hc hF
      refine w_aload_n hB 1 dX7_tellFrame_31 rfl rfl ?_
      obtain ⟨M3m, hc_M3m, hF⟩ := clvS hF
      refine w_callV hB (ci := 6) (As := []) (st := []) cw_X7_63 q_907 q_908 rfl (soM hp.1 sh_208 (by decide)) (c_X7_advance hp hc_M3m) ⟨rfl, rfl⟩ (by decide) (by decide) rfl (Nat.le_of_ble_eq_true rfl) dX7_tellFrame_32 rfl ?_
      refine w_aload_n hB 1 dX7_tellFrame_35 rfl rfl ?_
      refine w_iconst hB 0 (by decide) dX7_tellFrame_36 ?_
      refine w_sipush hB 999 (by decide) dX7_tellFrame_37 ?_
      obtain ⟨r3, M4m, hc_M4m, hF⟩ := clS hF
      refine w_callV hB (ci := 6) (As := [vi 0, vi 999]) (st := []) cw_X7_179 q_993 q_994 rfl (soM hp.1 sh_208 (by decide)) (c_X7_takeNumber hp hc_M4m) ⟨rfl, rfl⟩ (by decide) (by decide) rfl (Nat.le_of_ble_eq_true rfl) dX7_tellFrame_40 rfl ?_
      refine w_if_ne hB 48 dX7_tellFrame_43 (by decide) (fun hc => ?_) (fun hc => ?_)
      · replace hF := ifF hc hF
        refine w_aload_n hB 2 dX7_tellFrame_48 rfl rfl ?_
        refine w_getI hB ff_X6_5 (soM hp.1 g1 (by decide)) q_138 dX7_tellFrame_49 ?_
        obtain ⟨a1, e_a1, hF⟩ := bndS hF
        refine w_istore_n hB (L' := [(3, vi a1), (2, vi r1), (0, vr 208), (1, vr n1)]) dX7_tellFrame_52 rfl (by decide) e_a1 rfl ?_
        refine w_aload_n hB 3 dX7_tellFrame_53 rfl rfl ?_
        refine w_getC hB (v := cr n1 6) ff_X6_6 (soM hp.1 g1 (by decide)) hp.1 rfl (shc_ne (crc_6_6 g1).1) q_142 dX7_tellFrame_54 ?_
        refine w_iload_n hB 0 dX7_tellFrame_57 rfl rfl ?_
        refine w_iload_n hB 1 dX7_tellFrame_58 rfl rfl ?_
        obtain ⟨g3, hF⟩ := gdS hF
        obtain ⟨M5m, e_M5m, hF⟩ := bndS hF
        refine w_iast hB (soM hp.1 (crc_6_6 g1).1 (by decide)) (sl_s (crc_6_6 g1).1 (by decide) (crc_6_6 g1).2) g3 e_M5m dX7_tellFrame_59 ?_
        refine w_aload_n hB 3 dX7_tellFrame_60 rfl rfl ?_
        refine w_getC hB (v := cr n1 7) ff_X6_7 (soM hp.1 g1 (by decide)) hp.1 rfl (shc_ne (crc_6_7 g1).1) q_146 dX7_tellFrame_61 ?_
        refine w_iload_n hB 0 dX7_tellFrame_64 rfl rfl ?_
        refine w_aload_n hB 2 dX7_tellFrame_65 rfl rfl ?_
        refine w_getI hB ff_X7_7 (soM hp.1 sh_208 (by decide)) q_287 dX7_tellFrame_66 ?_
        obtain ⟨M6m, e_M6m, hF⟩ := bndS hF
        refine w_iast hB (soM hp.1 (crc_6_7 g1).1 (by decide)) (sl_s (crc_6_7 g1).1 (by decide) (crc_6_7 g1).2) g3 e_M6m dX7_tellFrame_69 ?_
        refine w_aload_n hB 3 dX7_tellFrame_70 rfl rfl ?_
        refine w_getC hB (v := cr n1 8) ff_X6_8 (soM hp.1 g1 (by decide)) hp.1 rfl (shc_ne (crc_6_8 g1).1) q_150 dX7_tellFrame_71 ?_
        refine w_iload_n hB 0 dX7_tellFrame_74 rfl rfl ?_
        refine w_iconst hB 0 (by decide) dX7_tellFrame_75 ?_
        obtain ⟨M7m, e_M7m, hF⟩ := bndS hF
        refine w_iast hB (soM hp.1 (crc_6_8 g1).1 (by decide)) (sl_s (crc_6_8 g1).1 (by decide) (crc_6_8 g1).2) g3 e_M7m dX7_tellFrame_76 ?_
        refine w_aload_n hB 3 dX7_tellFrame_77 rfl rfl ?_
        refine w_getC hB (v := cr n1 9) ff_X6_9 (soM hp.1 g1 (by decide)) hp.1 rfl (shc_ne (crc_6_9 g1).1) q_154 dX7_tellFrame_78 ?_
        refine w_iload_n hB 0 dX7_tellFrame_81 rfl rfl ?_
        refine w_iconst hB 0 (by decide) dX7_tellFrame_82 ?_
        obtain ⟨M8m, e_M8m, hF⟩ := bndS hF
        refine w_iast hB (soM hp.1 (crc_6_9 g1).1 (by decide)) (sl_s (crc_6_9 g1).1 (by decide) (crc_6_9 g1).2) g3 e_M8m dX7_tellFrame_83 ?_
        refine w_aload_n hB 3 dX7_tellFrame_84 rfl rfl ?_
        refine w_dup hB rfl dX7_tellFrame_85 ?_
        refine w_getI hB ff_X6_5 (soM hp.1 g1 (by decide)) q_138 dX7_tellFrame_86 ?_
        refine w_iconst hB 1 (by decide) dX7_tellFrame_89 ?_
        refine w_iadd hB dX7_tellFrame_90 ?_
        obtain ⟨M9m, e_M9m, hF⟩ := bndS hF
        refine w_putI hB ff_X6_5 (soM hp.1 g1 (by decide)) q_138 e_M9m dX7_tellFrame_91 ?_
        refine w_iconst hB 0 (by decide) dX7_tellFrame_94 ?_
        refine w_istore hB (L' := [(4, vi 0), (3, vi a1), (2, vi r1), (0, vr 208), (1, vr n1)]) dX7_tellFrame_95 (by decide) rfl rfl ?_
        exact Wt.sub (L' := [(0, vr 208), (1, vr n1), (3, vi a1), (4, vi 0)]) [3, 4, 1, 0] rfl (b_X7_tellFrame_b97 hp hB fuel _ _ _ M9m hF)
      · replace hF := ifT hc hF
        refine w_iconst hB 0 (by decide) dX7_tellFrame_46 ?_
        obtain ⟨e1, e2⟩ := retS hF
        subst e2
        exact w_zret hB (by decide) dX7_tellFrame_47 e1
    · replace hF := ifT hc hF
      refine w_aload_n hB 1 dX7_tellFrame_25 rfl rfl ?_
      refine w_iconst hB 5 (by decide) dX7_tellFrame_26 ?_
      obtain ⟨r2, M2m, hc_M2m, hF⟩ := clS hF
      refine w_callV hB (ci := 6) (As := [vi 5]) (st := []) cw_X7_104 q_978 q_979 rfl (soM hp.1 sh_208 (by decide)) (c_X7_fail hp hc_M2m) ⟨rfl, rfl⟩ (by decide) (by decide) rfl (Nat.le_of_ble_eq_true rfl) dX7_tellFrame_27 rfl ?_
      obtain ⟨g2, hF⟩ := gdS hF
      obtain ⟨e1, e2⟩ := retS hF
      subst e2
      exact w_zret hB g2 dX7_tellFrame_30 e1
  · replace hF := ifT hc hF
    refine w_iconst hB 0 (by decide) dX7_tellFrame_14 ?_
    obtain ⟨e1, e2⟩ := retS hF
    subst e2
    exact w_zret hB (by decide) dX7_tellFrame_15 e1
theorem c_X7_tellFrame {K : Kt} {l : Launch} (hp : St K) {r : Int32} {M1 : Mem} {n1 : Nat} {M : Mem} (hF : f_X7_tellFrame n1 M = some (r, M1)) : MT K l yX7_tellFrame cX7_tellFrame 6 (some .boolean) { frames := 4, cells := 0, slots := 0, locals := 83 } [vr 208, vr n1] M (some (vi r)) M1 0 0 :=
  MT_of (by decide) rfl (Nat.le_of_ble_eq_true rfl) (fun X _ hB _ => b_X7_tellFrame hp hB hF)
