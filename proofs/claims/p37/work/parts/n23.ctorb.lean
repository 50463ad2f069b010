set_option maxRecDepth 100000 in
set_option maxHeartbeats 4000000 in
theorem k1 {K : Kt} {l : Launch} (hb : kP K = true) (hg : KBd K) : MT K l yX2_init cX2_init 1 none { frames := 1, cells := 1, slots := 100, locals := 20 } [vr 69] mm9 none mm11 1 100 := by
  refine MT_of (by decide) rfl (Nat.le_of_ble_eq_true rfl) (fun X _ hB hi => ?_)
  refine w_aload_n hB 0 dX2_init_0 rfl rfl ?_
  refine w_objinit hB (Or.inl (by decide)) q_56 q_43 q_oc (by decide) dX2_init_1 ?_
  refine w_aload_n hB 0 dX2_init_4 rfl rfl ?_
  refine w_bipush hB 100 (by decide) dX2_init_5 ?_
  refine w_newI hB hb (n := 70) sh_70 sl_70 sgm9.2 (by rw [mc9]) (by decide) (by decide) ⟨Nat.le_of_ble_eq_true rfl, Nat.le_of_ble_eq_true rfl⟩ dX2_init_7 ?_
  refine Wt.mem (M1 := mm10) rfl ?_
  refine w_putRF (M1 := mm11) (ty := .array .int) hB hb ff_X2_0 (hi rfl) sh_69 (by rw [mc10]; decide) q_57 (by decide +kernel) (nar_arr _ _) (fit_arr _ _) rfl dX2_init_9 ?_
  exact w_vret hB dX2_init_12
set_option maxRecDepth 100000 in
set_option maxHeartbeats 4000000 in
theorem k2 {K : Kt} {l : Launch} (hb : kP K = true) (hg : KBd K) : MT K l yX5_init cX5_init 1 none { frames := 1, cells := 2, slots := 6, locals := 20 } [vr 76] mm23 none mm27 2 6 := by
  refine MT_of (by decide) rfl (Nat.le_of_ble_eq_true rfl) (fun X _ hB hi => ?_)
  refine w_aload_n hB 0 dX5_init_0 rfl rfl ?_
  refine w_objinit hB (Or.inl (by decide)) q_78 q_43 q_oc (by decide) dX5_init_1 ?_
  refine w_aload_n hB 0 dX5_init_4 rfl rfl ?_
  refine w_iconst hB 3 (by decide) dX5_init_5 ?_
  refine w_newI hB hb (n := 77) sh_77 sl_77 sgm23.2 (by rw [mc23]) (by decide) (by decide) ⟨Nat.le_of_ble_eq_true rfl, Nat.le_of_ble_eq_true rfl⟩ dX5_init_6 ?_
  refine Wt.mem (M1 := mm24) rfl ?_
  refine w_putRF (M1 := mm25) (ty := .array .int) hB hb ff_X5_4 (hi rfl) sh_76 (by rw [mc24]; decide) q_84 (by decide +kernel) (nar_arr _ _) (fit_arr _ _) rfl dX5_init_8 ?_
  refine w_aload_n hB 0 dX5_init_11 rfl rfl ?_
  refine w_iconst hB 3 (by decide) dX5_init_12 ?_
  refine w_newI hB hb (n := 78) sh_78 sl_78 sgm25.2 (by rw [mc25]) (by decide) (by decide) ⟨Nat.le_of_ble_eq_true rfl, Nat.le_of_ble_eq_true rfl⟩ dX5_init_13 ?_
  refine Wt.mem (M1 := mm26) rfl ?_
  refine w_putRF (M1 := mm27) (ty := .array .int) hB hb ff_X5_5 (hi rfl) sh_76 (by rw [mc26]; decide) q_87 (by decide +kernel) (nar_arr _ _) (fit_arr _ _) rfl dX5_init_15 ?_
  exact w_vret hB dX5_init_18
set_option maxRecDepth 100000 in
set_option maxHeartbeats 4000000 in
theorem k3 {K : Kt} {l : Launch} (hb : kP K = true) (hg : KBd K) : MT K l yX5_init cX5_init 1 none { frames := 1, cells := 2, slots := 6, locals := 20 } [vr 79] mm29 none mm33 2 6 := by
  refine MT_of (by decide) rfl (Nat.le_of_ble_eq_true rfl) (fun X _ hB hi => ?_)
  refine w_aload_n hB 0 dX5_init_0 rfl rfl ?_
  refine w_objinit hB (Or.inl (by decide)) q_78 q_43 q_oc (by decide) dX5_init_1 ?_
  refine w_aload_n hB 0 dX5_init_4 rfl rfl ?_
  refine w_iconst hB 3 (by decide) dX5_init_5 ?_
  refine w_newI hB hb (n := 80) sh_80 sl_80 sgm29.2 (by rw [mc29]) (by decide) (by decide) ⟨Nat.le_of_ble_eq_true rfl, Nat.le_of_ble_eq_true rfl⟩ dX5_init_6 ?_
  refine Wt.mem (M1 := mm30) rfl ?_
  refine w_putRF (M1 := mm31) (ty := .array .int) hB hb ff_X5_4 (hi rfl) sh_79 (by rw [mc30]; decide) q_84 (by decide +kernel) (nar_arr _ _) (fit_arr _ _) rfl dX5_init_8 ?_
  refine w_aload_n hB 0 dX5_init_11 rfl rfl ?_
  refine w_iconst hB 3 (by decide) dX5_init_12 ?_
  refine w_newI hB hb (n := 81) sh_81 sl_81 sgm31.2 (by rw [mc31]) (by decide) (by decide) ⟨Nat.le_of_ble_eq_true rfl, Nat.le_of_ble_eq_true rfl⟩ dX5_init_13 ?_
  refine Wt.mem (M1 := mm32) rfl ?_
  refine w_putRF (M1 := mm33) (ty := .array .int) hB hb ff_X5_5 (hi rfl) sh_79 (by rw [mc32]; decide) q_87 (by decide +kernel) (nar_arr _ _) (fit_arr _ _) rfl dX5_init_15 ?_
  exact w_vret hB dX5_init_18
set_option maxRecDepth 100000 in
set_option maxHeartbeats 4000000 in
theorem k4 {K : Kt} {l : Launch} (hb : kP K = true) (hg : KBd K) : MT K l yX5_init cX5_init 1 none { frames := 1, cells := 2, slots := 6, locals := 20 } [vr 82] mm35 none mm39 2 6 := by
  refine MT_of (by decide) rfl (Nat.le_of_ble_eq_true rfl) (fun X _ hB hi => ?_)
  refine w_aload_n hB 0 dX5_init_0 rfl rfl ?_
  refine w_objinit hB (Or.inl (by decide)) q_78 q_43 q_oc (by decide) dX5_init_1 ?_
  refine w_aload_n hB 0 dX5_init_4 rfl rfl ?_
  refine w_iconst hB 3 (by decide) dX5_init_5 ?_
  refine w_newI hB hb (n := 83) sh_83 sl_83 sgm35.2 (by rw [mc35]) (by decide) (by decide) ⟨Nat.le_of_ble_eq_true rfl, Nat.le_of_ble_eq_true rfl⟩ dX5_init_6 ?_
  refine Wt.mem (M1 := mm36) rfl ?_
  refine w_putRF (M1 := mm37) (ty := .array .int) hB hb ff_X5_4 (hi rfl) sh_82 (by rw [mc36]; decide) q_84 (by decide +kernel) (nar_arr _ _) (fit_arr _ _) rfl dX5_init_8 ?_
  refine w_aload_n hB 0 dX5_init_11 rfl rfl ?_
  refine w_iconst hB 3 (by decide) dX5_init_12 ?_
  refine w_newI hB hb (n := 84) sh_84 sl_84 sgm37.2 (by rw [mc37]) (by decide) (by decide) ⟨Nat.le_of_ble_eq_true rfl, Nat.le_of_ble_eq_true rfl⟩ dX5_init_13 ?_
  refine Wt.mem (M1 := mm38) rfl ?_
  refine w_putRF (M1 := mm39) (ty := .array .int) hB hb ff_X5_5 (hi rfl) sh_82 (by rw [mc38]; decide) q_87 (by decide +kernel) (nar_arr _ _) (fit_arr _ _) rfl dX5_init_15 ?_
  exact w_vret hB dX5_init_18
set_option maxRecDepth 100000 in
set_option maxHeartbeats 4000000 in
theorem k5 {K : Kt} {l : Launch} (hb : kP K = true) (hg : KBd K) : MT K l yX5_init cX5_init 1 none { frames := 1, cells := 2, slots := 6, locals := 20 } [vr 85] mm41 none mm45 2 6 := by
  refine MT_of (by decide) rfl (Nat.le_of_ble_eq_true rfl) (fun X _ hB hi => ?_)
  refine w_aload_n hB 0 dX5_init_0 rfl rfl ?_
  refine w_objinit hB (Or.inl (by decide)) q_78 q_43 q_oc (by decide) dX5_init_1 ?_
  refine w_aload_n hB 0 dX5_init_4 rfl rfl ?_
  refine w_iconst hB 3 (by decide) dX5_init_5 ?_
  refine w_newI hB hb (n := 86) sh_86 sl_86 sgm41.2 (by rw [mc41]) (by decide) (by decide) ⟨Nat.le_of_ble_eq_true rfl, Nat.le_of_ble_eq_true rfl⟩ dX5_init_6 ?_
  refine Wt.mem (M1 := mm42) rfl ?_
  refine w_putRF (M1 := mm43) (ty := .array .int) hB hb ff_X5_4 (hi rfl) sh_85 (by rw [mc42]; decide) q_84 (by decide +kernel) (nar_arr _ _) (fit_arr _ _) rfl dX5_init_8 ?_
  refine w_aload_n hB 0 dX5_init_11 rfl rfl ?_
  refine w_iconst hB 3 (by decide) dX5_init_12 ?_
  refine w_newI hB hb (n := 87) sh_87 sl_87 sgm43.2 (by rw [mc43]) (by decide) (by decide) ⟨Nat.le_of_ble_eq_true rfl, Nat.le_of_ble_eq_true rfl⟩ dX5_init_13 ?_
  refine Wt.mem (M1 := mm44) rfl ?_
  refine w_putRF (M1 := mm45) (ty := .array .int) hB hb ff_X5_5 (hi rfl) sh_85 (by rw [mc44]; decide) q_87 (by decide +kernel) (nar_arr _ _) (fit_arr _ _) rfl dX5_init_15 ?_
  exact w_vret hB dX5_init_18
set_option maxRecDepth 100000 in
set_option maxHeartbeats 4000000 in
theorem k6 {K : Kt} {l : Launch} (hb : kP K = true) (hg : KBd K) : MT K l yX5_init cX5_init 1 none { frames := 1, cells := 2, slots := 6, locals := 20 } [vr 88] mm47 none mm51 2 6 := by
  refine MT_of (by decide) rfl (Nat.le_of_ble_eq_true rfl) (fun X _ hB hi => ?_)
  refine w_aload_n hB 0 dX5_init_0 rfl rfl ?_
  refine w_objinit hB (Or.inl (by decide)) q_78 q_43 q_oc (by decide) dX5_init_1 ?_
  refine w_aload_n hB 0 dX5_init_4 rfl rfl ?_
  refine w_iconst hB 3 (by decide) dX5_init_5 ?_
  refine w_newI hB hb (n := 89) sh_89 sl_89 sgm47.2 (by rw [mc47]) (by decide) (by decide) ⟨Nat.le_of_ble_eq_true rfl, Nat.le_of_ble_eq_true rfl⟩ dX5_init_6 ?_
  refine Wt.mem (M1 := mm48) rfl ?_
  refine w_putRF (M1 := mm49) (ty := .array .int) hB hb ff_X5_4 (hi rfl) sh_88 (by rw [mc48]; decide) q_84 (by decide +kernel) (nar_arr _ _) (fit_arr _ _) rfl dX5_init_8 ?_
  refine w_aload_n hB 0 dX5_init_11 rfl rfl ?_
  refine w_iconst hB 3 (by decide) dX5_init_12 ?_
  refine w_newI hB hb (n := 90) sh_90 sl_90 sgm49.2 (by rw [mc49]) (by decide) (by decide) ⟨Nat.le_of_ble_eq_true rfl, Nat.le_of_ble_eq_true rfl⟩ dX5_init_13 ?_
  refine Wt.mem (M1 := mm50) rfl ?_
  refine w_putRF (M1 := mm51) (ty := .array .int) hB hb ff_X5_5 (hi rfl) sh_88 (by rw [mc50]; decide) q_87 (by decide +kernel) (nar_arr _ _) (fit_arr _ _) rfl dX5_init_15 ?_
  exact w_vret hB dX5_init_18
set_option maxRecDepth 100000 in
set_option maxHeartbeats 4000000 in
theorem k7 {K : Kt} {l : Launch} (hb : kP K = true) (hg : KBd K) : MT K l yX1_init cX1_init 1 none { frames := 1, cells := 1, slots := 7, locals := 20 } [vr 91] mm53 none mm55 1 7 := by
  refine MT_of (by decide) rfl (Nat.le_of_ble_eq_true rfl) (fun X _ hB hi => ?_)
  refine w_aload_n hB 0 dX1_init_0 rfl rfl ?_
  refine w_objinit hB (Or.inl (by decide)) q_107 q_43 q_oc (by decide) dX1_init_1 ?_
  refine w_aload_n hB 0 dX1_init_4 rfl rfl ?_
  refine w_bipush hB 7 (by decide) dX1_init_5 ?_
  refine w_newI hB hb (n := 92) sh_92 sl_92 sgm53.2 (by rw [mc53]) (by decide) (by decide) ⟨Nat.le_of_ble_eq_true rfl, Nat.le_of_ble_eq_true rfl⟩ dX1_init_7 ?_
  refine Wt.mem (M1 := mm54) rfl ?_
  refine w_putRF (M1 := mm55) (ty := .array .int) hB hb ff_X1_2 (hi rfl) sh_91 (by rw [mc54]; decide) q_110 (by decide +kernel) (nar_arr _ _) (fit_arr _ _) rfl dX1_init_9 ?_
  exact w_vret hB dX1_init_12
set_option maxRecDepth 100000 in
set_option maxHeartbeats 4000000 in
theorem k8 {K : Kt} {l : Launch} (hb : kP K = true) (hg : KBd K) : MT K l yX1_init cX1_init 1 none { frames := 1, cells := 1, slots := 7, locals := 20 } [vr 93] mm57 none mm59 1 7 := by
  refine MT_of (by decide) rfl (Nat.le_of_ble_eq_true rfl) (fun X _ hB hi => ?_)
  refine w_aload_n hB 0 dX1_init_0 rfl rfl ?_
  refine w_objinit hB (Or.inl (by decide)) q_107 q_43 q_oc (by decide) dX1_init_1 ?_
  refine w_aload_n hB 0 dX1_init_4 rfl rfl ?_
  refine w_bipush hB 7 (by decide) dX1_init_5 ?_
  refine w_newI hB hb (n := 94) sh_94 sl_94 sgm57.2 (by rw [mc57]) (by decide) (by decide) ⟨Nat.le_of_ble_eq_true rfl, Nat.le_of_ble_eq_true rfl⟩ dX1_init_7 ?_
  refine Wt.mem (M1 := mm58) rfl ?_
  refine w_putRF (M1 := mm59) (ty := .array .int) hB hb ff_X1_2 (hi rfl) sh_93 (by rw [mc58]; decide) q_110 (by decide +kernel) (nar_arr _ _) (fit_arr _ _) rfl dX1_init_9 ?_
  exact w_vret hB dX1_init_12
set_option maxRecDepth 100000 in
set_option maxHeartbeats 4000000 in
theorem k9 {K : Kt} {l : Launch} (hb : kP K = true) (hg : KBd K) : MT K l yX1_init cX1_init 1 none { frames := 1, cells := 1, slots := 7, locals := 20 } [vr 95] mm61 none mm63 1 7 := by
  refine MT_of (by decide) rfl (Nat.le_of_ble_eq_true rfl) (fun X _ hB hi => ?_)
  refine w_aload_n hB 0 dX1_init_0 rfl rfl ?_
  refine w_objinit hB (Or.inl (by decide)) q_107 q_43 q_oc (by decide) dX1_init_1 ?_
  refine w_aload_n hB 0 dX1_init_4 rfl rfl ?_
  refine w_bipush hB 7 (by decide) dX1_init_5 ?_
  refine w_newI hB hb (n := 96) sh_96 sl_96 sgm61.2 (by rw [mc61]) (by decide) (by decide) ⟨Nat.le_of_ble_eq_true rfl, Nat.le_of_ble_eq_true rfl⟩ dX1_init_7 ?_
  refine Wt.mem (M1 := mm62) rfl ?_
  refine w_putRF (M1 := mm63) (ty := .array .int) hB hb ff_X1_2 (hi rfl) sh_95 (by rw [mc62]; decide) q_110 (by decide +kernel) (nar_arr _ _) (fit_arr _ _) rfl dX1_init_9 ?_
  exact w_vret hB dX1_init_12
set_option maxRecDepth 100000 in
set_option maxHeartbeats 4000000 in
theorem k10 {K : Kt} {l : Launch} (hb : kP K = true) (hg : KBd K) : MT K l yX6_init cX6_init 1 none { frames := 1, cells := 4, slots := 40, locals := 20 } [vr 97] mm65 none mm73 4 40 := by
  refine MT_of (by decide) rfl (Nat.le_of_ble_eq_true rfl) (fun X _ hB hi => ?_)
  refine w_aload_n hB 0 dX6_init_0 rfl rfl ?_
  refine w_objinit hB (Or.inl (by decide)) q_123 q_43 q_oc (by decide) dX6_init_1 ?_
  refine w_aload_n hB 0 dX6_init_4 rfl rfl ?_
  refine w_bipush hB 10 (by decide) dX6_init_5 ?_
  refine w_newI hB hb (n := 98) sh_98 sl_98 sgm65.2 (by rw [mc65]) (by decide) (by decide) ⟨Nat.le_of_ble_eq_true rfl, Nat.le_of_ble_eq_true rfl⟩ dX6_init_7 ?_
  refine Wt.mem (M1 := mm66) rfl ?_
  refine w_putRF (M1 := mm67) (ty := .array .int) hB hb ff_X6_6 (hi rfl) sh_97 (by rw [mc66]; decide) q_139 (by decide +kernel) (nar_arr _ _) (fit_arr _ _) rfl dX6_init_9 ?_
  refine w_aload_n hB 0 dX6_init_12 rfl rfl ?_
  refine w_bipush hB 10 (by decide) dX6_init_13 ?_
  refine w_newI hB hb (n := 99) sh_99 sl_99 sgm67.2 (by rw [mc67]) (by decide) (by decide) ⟨Nat.le_of_ble_eq_true rfl, Nat.le_of_ble_eq_true rfl⟩ dX6_init_15 ?_
  refine Wt.mem (M1 := mm68) rfl ?_
  refine w_putRF (M1 := mm69) (ty := .array .int) hB hb ff_X6_7 (hi rfl) sh_97 (by rw [mc68]; decide) q_143 (by decide +kernel) (nar_arr _ _) (fit_arr _ _) rfl dX6_init_17 ?_
  refine w_aload_n hB 0 dX6_init_20 rfl rfl ?_
  refine w_bipush hB 10 (by decide) dX6_init_21 ?_
  refine w_newI hB hb (n := 100) sh_100 sl_100 sgm69.2 (by rw [mc69]) (by decide) (by decide) ⟨Nat.le_of_ble_eq_true rfl, Nat.le_of_ble_eq_true rfl⟩ dX6_init_23 ?_
  refine Wt.mem (M1 := mm70) rfl ?_
  refine w_putRF (M1 := mm71) (ty := .array .int) hB hb ff_X6_8 (hi rfl) sh_97 (by rw [mc70]; decide) q_147 (by decide +kernel) (nar_arr _ _) (fit_arr _ _) rfl dX6_init_25 ?_
  refine w_aload_n hB 0 dX6_init_28 rfl rfl ?_
  refine w_bipush hB 10 (by decide) dX6_init_29 ?_
  refine w_newI hB hb (n := 101) sh_101 sl_101 sgm71.2 (by rw [mc71]) (by decide) (by decide) ⟨Nat.le_of_ble_eq_true rfl, Nat.le_of_ble_eq_true rfl⟩ dX6_init_31 ?_
  refine Wt.mem (M1 := mm72) rfl ?_
  refine w_putRF (M1 := mm73) (ty := .array .int) hB hb ff_X6_9 (hi rfl) sh_97 (by rw [mc72]; decide) q_151 (by decide +kernel) (nar_arr _ _) (fit_arr _ _) rfl dX6_init_33 ?_
  exact w_vret hB dX6_init_36
set_option maxRecDepth 100000 in
set_option maxHeartbeats 4000000 in
theorem k11 {K : Kt} {l : Launch} (hb : kP K = true) (hg : KBd K) : MT K l yX6_init cX6_init 1 none { frames := 1, cells := 4, slots := 40, locals := 20 } [vr 102] mm75 none mm83 4 40 := by
  refine MT_of (by decide) rfl (Nat.le_of_ble_eq_true rfl) (fun X _ hB hi => ?_)
  refine w_aload_n hB 0 dX6_init_0 rfl rfl ?_
  refine w_objinit hB (Or.inl (by decide)) q_123 q_43 q_oc (by decide) dX6_init_1 ?_
  refine w_aload_n hB 0 dX6_init_4 rfl rfl ?_
  refine w_bipush hB 10 (by decide) dX6_init_5 ?_
  refine w_newI hB hb (n := 103) sh_103 sl_103 sgm75.2 (by rw [mc75]) (by decide) (by decide) ⟨Nat.le_of_ble_eq_true rfl, Nat.le_of_ble_eq_true rfl⟩ dX6_init_7 ?_
  refine Wt.mem (M1 := mm76) rfl ?_
  refine w_putRF (M1 := mm77) (ty := .array .int) hB hb ff_X6_6 (hi rfl) sh_102 (by rw [mc76]; decide) q_139 (by decide +kernel) (nar_arr _ _) (fit_arr _ _) rfl dX6_init_9 ?_
  refine w_aload_n hB 0 dX6_init_12 rfl rfl ?_
  refine w_bipush hB 10 (by decide) dX6_init_13 ?_
  refine w_newI hB hb (n := 104) sh_104 sl_104 sgm77.2 (by rw [mc77]) (by decide) (by decide) ⟨Nat.le_of_ble_eq_true rfl, Nat.le_of_ble_eq_true rfl⟩ dX6_init_15 ?_
  refine Wt.mem (M1 := mm78) rfl ?_
  refine w_putRF (M1 := mm79) (ty := .array .int) hB hb ff_X6_7 (hi rfl) sh_102 (by rw [mc78]; decide) q_143 (by decide +kernel) (nar_arr _ _) (fit_arr _ _) rfl dX6_init_17 ?_
  refine w_aload_n hB 0 dX6_init_20 rfl rfl ?_
  refine w_bipush hB 10 (by decide) dX6_init_21 ?_
  refine w_newI hB hb (n := 105) sh_105 sl_105 sgm79.2 (by rw [mc79]) (by decide) (by decide) ⟨Nat.le_of_ble_eq_true rfl, Nat.le_of_ble_eq_true rfl⟩ dX6_init_23 ?_
  refine Wt.mem (M1 := mm80) rfl ?_
  refine w_putRF (M1 := mm81) (ty := .array .int) hB hb ff_X6_8 (hi rfl) sh_102 (by rw [mc80]; decide) q_147 (by decide +kernel) (nar_arr _ _) (fit_arr _ _) rfl dX6_init_25 ?_
  refine w_aload_n hB 0 dX6_init_28 rfl rfl ?_
  refine w_bipush hB 10 (by decide) dX6_init_29 ?_
  refine w_newI hB hb (n := 106) sh_106 sl_106 sgm81.2 (by rw [mc81]) (by decide) (by decide) ⟨Nat.le_of_ble_eq_true rfl, Nat.le_of_ble_eq_true rfl⟩ dX6_init_31 ?_
  refine Wt.mem (M1 := mm82) rfl ?_
  refine w_putRF (M1 := mm83) (ty := .array .int) hB hb ff_X6_9 (hi rfl) sh_102 (by rw [mc82]; decide) q_151 (by decide +kernel) (nar_arr _ _) (fit_arr _ _) rfl dX6_init_33 ?_
  exact w_vret hB dX6_init_36
set_option maxRecDepth 100000 in
set_option maxHeartbeats 4000000 in
theorem k12 {K : Kt} {l : Launch} (hb : kP K = true) (hg : KBd K) : MT K l yX6_init cX6_init 1 none { frames := 1, cells := 4, slots := 40, locals := 20 } [vr 107] mm85 none mm93 4 40 := by
  refine MT_of (by decide) rfl (Nat.le_of_ble_eq_true rfl) (fun X _ hB hi => ?_)
  refine w_aload_n hB 0 dX6_init_0 rfl rfl ?_
  refine w_objinit hB (Or.inl (by decide)) q_123 q_43 q_oc (by decide) dX6_init_1 ?_
  refine w_aload_n hB 0 dX6_init_4 rfl rfl ?_
  refine w_bipush hB 10 (by decide) dX6_init_5 ?_
  refine w_newI hB hb (n := 108) sh_108 sl_108 sgm85.2 (by rw [mc85]) (by decide) (by decide) ⟨Nat.le_of_ble_eq_true rfl, Nat.le_of_ble_eq_true rfl⟩ dX6_init_7 ?_
  refine Wt.mem (M1 := mm86) rfl ?_
  refine w_putRF (M1 := mm87) (ty := .array .int) hB hb ff_X6_6 (hi rfl) sh_107 (by rw [mc86]; decide) q_139 (by decide +kernel) (nar_arr _ _) (fit_arr _ _) rfl dX6_init_9 ?_
  refine w_aload_n hB 0 dX6_init_12 rfl rfl ?_
  refine w_bipush hB 10 (by decide) dX6_init_13 ?_
  refine w_newI hB hb (n := 109) sh_109 sl_109 sgm87.2 (by rw [mc87]) (by decide) (by decide) ⟨Nat.le_of_ble_eq_true rfl, Nat.le_of_ble_eq_true rfl⟩ dX6_init_15 ?_
  refine Wt.mem (M1 := mm88) rfl ?_
  refine w_putRF (M1 := mm89) (ty := .array .int) hB hb ff_X6_7 (hi rfl) sh_107 (by rw [mc88]; decide) q_143 (by decide +kernel) (nar_arr _ _) (fit_arr _ _) rfl dX6_init_17 ?_
  refine w_aload_n hB 0 dX6_init_20 rfl rfl ?_
  refine w_bipush hB 10 (by decide) dX6_init_21 ?_
  refine w_newI hB hb (n := 110) sh_110 sl_110 sgm89.2 (by rw [mc89]) (by decide) (by decide) ⟨Nat.le_of_ble_eq_true rfl, Nat.le_of_ble_eq_true rfl⟩ dX6_init_23 ?_
  refine Wt.mem (M1 := mm90) rfl ?_
  refine w_putRF (M1 := mm91) (ty := .array .int) hB hb ff_X6_8 (hi rfl) sh_107 (by rw [mc90]; decide) q_147 (by decide +kernel) (nar_arr _ _) (fit_arr _ _) rfl dX6_init_25 ?_
  refine w_aload_n hB 0 dX6_init_28 rfl rfl ?_
  refine w_bipush hB 10 (by decide) dX6_init_29 ?_
  refine w_newI hB hb (n := 111) sh_111 sl_111 sgm91.2 (by rw [mc91]) (by decide) (by decide) ⟨Nat.le_of_ble_eq_true rfl, Nat.le_of_ble_eq_true rfl⟩ dX6_init_31 ?_
  refine Wt.mem (M1 := mm92) rfl ?_
  refine w_putRF (M1 := mm93) (ty := .array .int) hB hb ff_X6_9 (hi rfl) sh_107 (by rw [mc92]; decide) q_151 (by decide +kernel) (nar_arr _ _) (fit_arr _ _) rfl dX6_init_33 ?_
  exact w_vret hB dX6_init_36
set_option maxRecDepth 100000 in
set_option maxHeartbeats 4000000 in
theorem k13 {K : Kt} {l : Launch} (hb : kP K = true) (hg : KBd K) : MT K l yX6_init cX6_init 1 none { frames := 1, cells := 4, slots := 40, locals := 20 } [vr 112] mm95 none mm103 4 40 := by
  refine MT_of (by decide) rfl (Nat.le_of_ble_eq_true rfl) (fun X _ hB hi => ?_)
  refine w_aload_n hB 0 dX6_init_0 rfl rfl ?_
  refine w_objinit hB (Or.inl (by decide)) q_123 q_43 q_oc (by decide) dX6_init_1 ?_
  refine w_aload_n hB 0 dX6_init_4 rfl rfl ?_
  refine w_bipush hB 10 (by decide) dX6_init_5 ?_
  refine w_newI hB hb (n := 113) sh_113 sl_113 sgm95.2 (by rw [mc95]) (by decide) (by decide) ⟨Nat.le_of_ble_eq_true rfl, Nat.le_of_ble_eq_true rfl⟩ dX6_init_7 ?_
  refine Wt.mem (M1 := mm96) rfl ?_
  refine w_putRF (M1 := mm97) (ty := .array .int) hB hb ff_X6_6 (hi rfl) sh_112 (by rw [mc96]; decide) q_139 (by decide +kernel) (nar_arr _ _) (fit_arr _ _) rfl dX6_init_9 ?_
  refine w_aload_n hB 0 dX6_init_12 rfl rfl ?_
  refine w_bipush hB 10 (by decide) dX6_init_13 ?_
  refine w_newI hB hb (n := 114) sh_114 sl_114 sgm97.2 (by rw [mc97]) (by decide) (by decide) ⟨Nat.le_of_ble_eq_true rfl, Nat.le_of_ble_eq_true rfl⟩ dX6_init_15 ?_
  refine Wt.mem (M1 := mm98) rfl ?_
  refine w_putRF (M1 := mm99) (ty := .array .int) hB hb ff_X6_7 (hi rfl) sh_112 (by rw [mc98]; decide) q_143 (by decide +kernel) (nar_arr _ _) (fit_arr _ _) rfl dX6_init_17 ?_
  refine w_aload_n hB 0 dX6_init_20 rfl rfl ?_
  refine w_bipush hB 10 (by decide) dX6_init_21 ?_
  refine w_newI hB hb (n := 115) sh_115 sl_115 sgm99.2 (by rw [mc99]) (by decide) (by decide) ⟨Nat.le_of_ble_eq_true rfl, Nat.le_of_ble_eq_true rfl⟩ dX6_init_23 ?_
  refine Wt.mem (M1 := mm100) rfl ?_
  refine w_putRF (M1 := mm101) (ty := .array .int) hB hb ff_X6_8 (hi rfl) sh_112 (by rw [mc100]; decide) q_147 (by decide +kernel) (nar_arr _ _) (fit_arr _ _) rfl dX6_init_25 ?_
  refine w_aload_n hB 0 dX6_init_28 rfl rfl ?_
  refine w_bipush hB 10 (by decide) dX6_init_29 ?_
  refine w_newI hB hb (n := 116) sh_116 sl_116 sgm101.2 (by rw [mc101]) (by decide) (by decide) ⟨Nat.le_of_ble_eq_true rfl, Nat.le_of_ble_eq_true rfl⟩ dX6_init_31 ?_
  refine Wt.mem (M1 := mm102) rfl ?_
  refine w_putRF (M1 := mm103) (ty := .array .int) hB hb ff_X6_9 (hi rfl) sh_112 (by rw [mc102]; decide) q_151 (by decide +kernel) (nar_arr _ _) (fit_arr _ _) rfl dX6_init_33 ?_
  exact w_vret hB dX6_init_36
set_option maxRecDepth 100000 in
set_option maxHeartbeats 4000000 in
theorem k14 {K : Kt} {l : Launch} (hb : kP K = true) (hg : KBd K) : MT K l yX6_init cX6_init 1 none { frames := 1, cells := 4, slots := 40, locals := 20 } [vr 117] mm105 none mm113 4 40 := by
  refine MT_of (by decide) rfl (Nat.le_of_ble_eq_true rfl) (fun X _ hB hi => ?_)
  refine w_aload_n hB 0 dX6_init_0 rfl rfl ?_
  refine w_objinit hB (Or.inl (by decide)) q_123 q_43 q_oc (by decide) dX6_init_1 ?_
  refine w_aload_n hB 0 dX6_init_4 rfl rfl ?_
  refine w_bipush hB 10 (by decide) dX6_init_5 ?_
  refine w_newI hB hb (n := 118) sh_118 sl_118 sgm105.2 (by rw [mc105]) (by decide) (by decide) ⟨Nat.le_of_ble_eq_true rfl, Nat.le_of_ble_eq_true rfl⟩ dX6_init_7 ?_
  refine Wt.mem (M1 := mm106) rfl ?_
  refine w_putRF (M1 := mm107) (ty := .array .int) hB hb ff_X6_6 (hi rfl) sh_117 (by rw [mc106]; decide) q_139 (by decide +kernel) (nar_arr _ _) (fit_arr _ _) rfl dX6_init_9 ?_
  refine w_aload_n hB 0 dX6_init_12 rfl rfl ?_
  refine w_bipush hB 10 (by decide) dX6_init_13 ?_
  refine w_newI hB hb (n := 119) sh_119 sl_119 sgm107.2 (by rw [mc107]) (by decide) (by decide) ⟨Nat.le_of_ble_eq_true rfl, Nat.le_of_ble_eq_true rfl⟩ dX6_init_15 ?_
  refine Wt.mem (M1 := mm108) rfl ?_
  refine w_putRF (M1 := mm109) (ty := .array .int) hB hb ff_X6_7 (hi rfl) sh_117 (by rw [mc108]; decide) q_143 (by decide +kernel) (nar_arr _ _) (fit_arr _ _) rfl dX6_init_17 ?_
  refine w_aload_n hB 0 dX6_init_20 rfl rfl ?_
  refine w_bipush hB 10 (by decide) dX6_init_21 ?_
  refine w_newI hB hb (n := 120) sh_120 sl_120 sgm109.2 (by rw [mc109]) (by decide) (by decide) ⟨Nat.le_of_ble_eq_true rfl, Nat.le_of_ble_eq_true rfl⟩ dX6_init_23 ?_
  refine Wt.mem (M1 := mm110) rfl ?_
  refine w_putRF (M1 := mm111) (ty := .array .int) hB hb ff_X6_8 (hi rfl) sh_117 (by rw [mc110]; decide) q_147 (by decide +kernel) (nar_arr _ _) (fit_arr _ _) rfl dX6_init_25 ?_
  refine w_aload_n hB 0 dX6_init_28 rfl rfl ?_
  refine w_bipush hB 10 (by decide) dX6_init_29 ?_
  refine w_newI hB hb (n := 121) sh_121 sl_121 sgm111.2 (by rw [mc111]) (by decide) (by decide) ⟨Nat.le_of_ble_eq_true rfl, Nat.le_of_ble_eq_true rfl⟩ dX6_init_31 ?_
  refine Wt.mem (M1 := mm112) rfl ?_
  refine w_putRF (M1 := mm113) (ty := .array .int) hB hb ff_X6_9 (hi rfl) sh_117 (by rw [mc112]; decide) q_151 (by decide +kernel) (nar_arr _ _) (fit_arr _ _) rfl dX6_init_33 ?_
  exact w_vret hB dX6_init_36
set_option maxRecDepth 100000 in
set_option maxHeartbeats 4000000 in
theorem k15 {K : Kt} {l : Launch} (hb : kP K = true) (hg : KBd K) : MT K l yX6_init cX6_init 1 none { frames := 1, cells := 4, slots := 40, locals := 20 } [vr 122] mm115 none mm123 4 40 := by
  refine MT_of (by decide) rfl (Nat.le_of_ble_eq_true rfl) (fun X _ hB hi => ?_)
  refine w_aload_n hB 0 dX6_init_0 rfl rfl ?_
  refine w_objinit hB (Or.inl (by decide)) q_123 q_43 q_oc (by decide) dX6_init_1 ?_
  refine w_aload_n hB 0 dX6_init_4 rfl rfl ?_
  refine w_bipush hB 10 (by decide) dX6_init_5 ?_
  refine w_newI hB hb (n := 123) sh_123 sl_123 sgm115.2 (by rw [mc115]) (by decide) (by decide) ⟨Nat.le_of_ble_eq_true rfl, Nat.le_of_ble_eq_true rfl⟩ dX6_init_7 ?_
  refine Wt.mem (M1 := mm116) rfl ?_
  refine w_putRF (M1 := mm117) (ty := .array .int) hB hb ff_X6_6 (hi rfl) sh_122 (by rw [mc116]; decide) q_139 (by decide +kernel) (nar_arr _ _) (fit_arr _ _) rfl dX6_init_9 ?_
  refine w_aload_n hB 0 dX6_init_12 rfl rfl ?_
  refine w_bipush hB 10 (by decide) dX6_init_13 ?_
  refine w_newI hB hb (n := 124) sh_124 sl_124 sgm117.2 (by rw [mc117]) (by decide) (by decide) ⟨Nat.le_of_ble_eq_true rfl, Nat.le_of_ble_eq_true rfl⟩ dX6_init_15 ?_
  refine Wt.mem (M1 := mm118) rfl ?_
  refine w_putRF (M1 := mm119) (ty := .array .int) hB hb ff_X6_7 (hi rfl) sh_122 (by rw [mc118]; decide) q_143 (by decide +kernel) (nar_arr _ _) (fit_arr _ _) rfl dX6_init_17 ?_
  refine w_aload_n hB 0 dX6_init_20 rfl rfl ?_
  refine w_bipush hB 10 (by decide) dX6_init_21 ?_
  refine w_newI hB hb (n := 125) sh_125 sl_125 sgm119.2 (by rw [mc119]) (by decide) (by decide) ⟨Nat.le_of_ble_eq_true rfl, Nat.le_of_ble_eq_true rfl⟩ dX6_init_23 ?_
  refine Wt.mem (M1 := mm120) rfl ?_
  refine w_putRF (M1 := mm121) (ty := .array .int) hB hb ff_X6_8 (hi rfl) sh_122 (by rw [mc120]; decide) q_147 (by decide +kernel) (nar_arr _ _) (fit_arr _ _) rfl dX6_init_25 ?_
  refine w_aload_n hB 0 dX6_init_28 rfl rfl ?_
  refine w_bipush hB 10 (by decide) dX6_init_29 ?_
  refine w_newI hB hb (n := 126) sh_126 sl_126 sgm121.2 (by rw [mc121]) (by decide) (by decide) ⟨Nat.le_of_ble_eq_true rfl, Nat.le_of_ble_eq_true rfl⟩ dX6_init_31 ?_
  refine Wt.mem (M1 := mm122) rfl ?_
  refine w_putRF (M1 := mm123) (ty := .array .int) hB hb ff_X6_9 (hi rfl) sh_122 (by rw [mc122]; decide) q_151 (by decide +kernel) (nar_arr _ _) (fit_arr _ _) rfl dX6_init_33 ?_
  exact w_vret hB dX6_init_36
set_option maxRecDepth 100000 in
set_option maxHeartbeats 4000000 in
theorem k16 {K : Kt} {l : Launch} (hb : kP K = true) (hg : KBd K) : MT K l yX6_init cX6_init 1 none { frames := 1, cells := 4, slots := 40, locals := 20 } [vr 127] mm125 none mm133 4 40 := by
  refine MT_of (by decide) rfl (Nat.le_of_ble_eq_true rfl) (fun X _ hB hi => ?_)
  refine w_aload_n hB 0 dX6_init_0 rfl rfl ?_
  refine w_objinit hB (Or.inl (by decide)) q_123 q_43 q_oc (by decide) dX6_init_1 ?_
  refine w_aload_n hB 0 dX6_init_4 rfl rfl ?_
  refine w_bipush hB 10 (by decide) dX6_init_5 ?_
  refine w_newI hB hb (n := 128) sh_128 sl_128 sgm125.2 (by rw [mc125]) (by decide) (by decide) ⟨Nat.le_of_ble_eq_true rfl, Nat.le_of_ble_eq_true rfl⟩ dX6_init_7 ?_
  refine Wt.mem (M1 := mm126) rfl ?_
  refine w_putRF (M1 := mm127) (ty := .array .int) hB hb ff_X6_6 (hi rfl) sh_127 (by rw [mc126]; decide) q_139 (by decide +kernel) (nar_arr _ _) (fit_arr _ _) rfl dX6_init_9 ?_
  refine w_aload_n hB 0 dX6_init_12 rfl rfl ?_
  refine w_bipush hB 10 (by decide) dX6_init_13 ?_
  refine w_newI hB hb (n := 129) sh_129 sl_129 sgm127.2 (by rw [mc127]) (by decide) (by decide) ⟨Nat.le_of_ble_eq_true rfl, Nat.le_of_ble_eq_true rfl⟩ dX6_init_15 ?_
  refine Wt.mem (M1 := mm128) rfl ?_
  refine w_putRF (M1 := mm129) (ty := .array .int) hB hb ff_X6_7 (hi rfl) sh_127 (by rw [mc128]; decide) q_143 (by decide +kernel) (nar_arr _ _) (fit_arr _ _) rfl dX6_init_17 ?_
  refine w_aload_n hB 0 dX6_init_20 rfl rfl ?_
  refine w_bipush hB 10 (by decide) dX6_init_21 ?_
  refine w_newI hB hb (n := 130) sh_130 sl_130 sgm129.2 (by rw [mc129]) (by decide) (by decide) ⟨Nat.le_of_ble_eq_true rfl, Nat.le_of_ble_eq_true rfl⟩ dX6_init_23 ?_
  refine Wt.mem (M1 := mm130) rfl ?_
  refine w_putRF (M1 := mm131) (ty := .array .int) hB hb ff_X6_8 (hi rfl) sh_127 (by rw [mc130]; decide) q_147 (by decide +kernel) (nar_arr _ _) (fit_arr _ _) rfl dX6_init_25 ?_
  refine w_aload_n hB 0 dX6_init_28 rfl rfl ?_
  refine w_bipush hB 10 (by decide) dX6_init_29 ?_
  refine w_newI hB hb (n := 131) sh_131 sl_131 sgm131.2 (by rw [mc131]) (by decide) (by decide) ⟨Nat.le_of_ble_eq_true rfl, Nat.le_of_ble_eq_true rfl⟩ dX6_init_31 ?_
  refine Wt.mem (M1 := mm132) rfl ?_
  refine w_putRF (M1 := mm133) (ty := .array .int) hB hb ff_X6_9 (hi rfl) sh_127 (by rw [mc132]; decide) q_151 (by decide +kernel) (nar_arr _ _) (fit_arr _ _) rfl dX6_init_33 ?_
  exact w_vret hB dX6_init_36
set_option maxRecDepth 100000 in
set_option maxHeartbeats 4000000 in
theorem k17 {K : Kt} {l : Launch} (hb : kP K = true) (hg : KBd K) : MT K l yX6_init cX6_init 1 none { frames := 1, cells := 4, slots := 40, locals := 20 } [vr 132] mm135 none mm143 4 40 := by
  refine MT_of (by decide) rfl (Nat.le_of_ble_eq_true rfl) (fun X _ hB hi => ?_)
  refine w_aload_n hB 0 dX6_init_0 rfl rfl ?_
  refine w_objinit hB (Or.inl (by decide)) q_123 q_43 q_oc (by decide) dX6_init_1 ?_
  refine w_aload_n hB 0 dX6_init_4 rfl rfl ?_
  refine w_bipush hB 10 (by decide) dX6_init_5 ?_
  refine w_newI hB hb (n := 133) sh_133 sl_133 sgm135.2 (by rw [mc135]) (by decide) (by decide) ⟨Nat.le_of_ble_eq_true rfl, Nat.le_of_ble_eq_true rfl⟩ dX6_init_7 ?_
  refine Wt.mem (M1 := mm136) rfl ?_
  refine w_putRF (M1 := mm137) (ty := .array .int) hB hb ff_X6_6 (hi rfl) sh_132 (by rw [mc136]; decide) q_139 (by decide +kernel) (nar_arr _ _) (fit_arr _ _) rfl dX6_init_9 ?_
  refine w_aload_n hB 0 dX6_init_12 rfl rfl ?_
  refine w_bipush hB 10 (by decide) dX6_init_13 ?_
  refine w_newI hB hb (n := 134) sh_134 sl_134 sgm137.2 (by rw [mc137]) (by decide) (by decide) ⟨Nat.le_of_ble_eq_true rfl, Nat.le_of_ble_eq_true rfl⟩ dX6_init_15 ?_
  refine Wt.mem (M1 := mm138) rfl ?_
  refine w_putRF (M1 := mm139) (ty := .array .int) hB hb ff_X6_7 (hi rfl) sh_132 (by rw [mc138]; decide) q_143 (by decide +kernel) (nar_arr _ _) (fit_arr _ _) rfl dX6_init_17 ?_
  refine w_aload_n hB 0 dX6_init_20 rfl rfl ?_
  refine w_bipush hB 10 (by decide) dX6_init_21 ?_
  refine w_newI hB hb (n := 135) sh_135 sl_135 sgm139.2 (by rw [mc139]) (by decide) (by decide) ⟨Nat.le_of_ble_eq_true rfl, Nat.le_of_ble_eq_true rfl⟩ dX6_init_23 ?_
  refine Wt.mem (M1 := mm140) rfl ?_
  refine w_putRF (M1 := mm141) (ty := .array .int) hB hb ff_X6_8 (hi rfl) sh_132 (by rw [mc140]; decide) q_147 (by decide +kernel) (nar_arr _ _) (fit_arr _ _) rfl dX6_init_25 ?_
  refine w_aload_n hB 0 dX6_init_28 rfl rfl ?_
  refine w_bipush hB 10 (by decide) dX6_init_29 ?_
  refine w_newI hB hb (n := 136) sh_136 sl_136 sgm141.2 (by rw [mc141]) (by decide) (by decide) ⟨Nat.le_of_ble_eq_true rfl, Nat.le_of_ble_eq_true rfl⟩ dX6_init_31 ?_
  refine Wt.mem (M1 := mm142) rfl ?_
  refine w_putRF (M1 := mm143) (ty := .array .int) hB hb ff_X6_9 (hi rfl) sh_132 (by rw [mc142]; decide) q_151 (by decide +kernel) (nar_arr _ _) (fit_arr _ _) rfl dX6_init_33 ?_
  exact w_vret hB dX6_init_36
set_option maxRecDepth 100000 in
set_option maxHeartbeats 4000000 in
theorem k18 {K : Kt} {l : Launch} (hb : kP K = true) (hg : KBd K) : MT K l yX2_clear cX2_clear 2 none { frames := 1, cells := 0, slots := 0, locals := 23 } [vr 69] mm146 none mm158 0 0 := by
  refine MT_of (by decide) rfl (Nat.le_of_ble_eq_true rfl) (fun X _ hB hi => ?_)
  refine w_aload_n hB 0 dX2_clear_0 rfl rfl ?_
  refine w_getRB (v := 70) hB ff_X2_0 sh_69 (by rw [mc146]; decide) (by decide +kernel) q_57 dX2_clear_1 ?_
  refine w_ldc hB (v := 268435456) q_192 dX2_clear_4 ?_
  refine w_callS (M1 := mm147) hB (As := [vr 70, vi 268435456]) (st := []) cw_X2_16 q_194 (k_fill sh_70 sl_70 rfl (by decide) (by rw [mc146]; decide)) ⟨rfl, rfl⟩ (by decide) (by decide) rfl (Nat.le_of_ble_eq_true rfl) dX2_clear_6 rfl ?_
  refine w_iconst hB 0 (by decide) dX2_clear_9 ?_
  refine w_istore_n hB (L' := [(1, vi 0), (0, vr 69)]) dX2_clear_10 rfl (by decide) rfl rfl ?_
  refine w_iload_n hB 0 dX2_clear_11 rfl rfl ?_
  refine w_bipush hB 10 (by decide) dX2_clear_12 ?_
  refine w_icmp_ge hB 35 dX2_clear_14 (by decide) (fun hc => absurd hc (by decide)) (fun _ => ?_)
  refine w_aload_n hB 1 dX2_clear_17 rfl rfl ?_
  refine w_getRB (v := 70) hB ff_X2_0 sh_69 (by rw [mc147]; decide) (by decide +kernel) q_57 dX2_clear_18 ?_
  refine w_iload_n hB 0 dX2_clear_21 rfl rfl ?_
  refine w_bipush hB 10 (by decide) dX2_clear_22 ?_
  refine w_imul hB dX2_clear_24 ?_
  rw [show (0 : Int32) * 10 = 0 by decide]
  refine w_iload_n hB 0 dX2_clear_25 rfl rfl ?_
  refine w_iadd hB dX2_clear_26 ?_
  rw [show (0 : Int32) + 0 = 0 by decide]
  refine w_iconst hB 0 (by decide) dX2_clear_27 ?_
  refine w_iast (M1 := mm148) hB (smM sh_70 (by decide) (by rw [mc147]; decide)) (sl_s sh_70 (by decide) sl_70) (by decide) (by rw [show (0 : Int32).toNatClampNeg = 0 by decide]; rfl) dX2_clear_28 ?_
  refine w_iinc hB 0 (v := 1) (L' := [(1, vi 1), (0, vr 69)]) dX2_clear_29 rfl (by decide) (by decide) (by decide) rfl ?_
  refine w_goto hB 11 dX2_clear_32 (by decide) ?_
  refine w_iload_n hB 0 dX2_clear_11 rfl rfl ?_
  refine w_bipush hB 10 (by decide) dX2_clear_12 ?_
  refine w_icmp_ge hB 35 dX2_clear_14 (by decide) (fun hc => absurd hc (by decide)) (fun _ => ?_)
  refine w_aload_n hB 1 dX2_clear_17 rfl rfl ?_
  refine w_getRB (v := 70) hB ff_X2_0 sh_69 (by rw [mc148]; decide) (by decide +kernel) q_57 dX2_clear_18 ?_
  refine w_iload_n hB 0 dX2_clear_21 rfl rfl ?_
  refine w_bipush hB 10 (by decide) dX2_clear_22 ?_
  refine w_imul hB dX2_clear_24 ?_
  rw [show (1 : Int32) * 10 = 10 by decide]
  refine w_iload_n hB 0 dX2_clear_25 rfl rfl ?_
  refine w_iadd hB dX2_clear_26 ?_
  rw [show (10 : Int32) + 1 = 11 by decide]
  refine w_iconst hB 0 (by decide) dX2_clear_27 ?_
  refine w_iast (M1 := mm149) hB (smM sh_70 (by decide) (by rw [mc148]; decide)) (sl_s sh_70 (by decide) sl_70) (by decide) (by rw [show (11 : Int32).toNatClampNeg = 11 by decide]; rfl) dX2_clear_28 ?_
  refine w_iinc hB 0 (v := 1) (L' := [(1, vi 2), (0, vr 69)]) dX2_clear_29 rfl (by decide) (by decide) (by decide) rfl ?_
  refine w_goto hB 11 dX2_clear_32 (by decide) ?_
  refine w_iload_n hB 0 dX2_clear_11 rfl rfl ?_
  refine w_bipush hB 10 (by decide) dX2_clear_12 ?_
  refine w_icmp_ge hB 35 dX2_clear_14 (by decide) (fun hc => absurd hc (by decide)) (fun _ => ?_)
  refine w_aload_n hB 1 dX2_clear_17 rfl rfl ?_
  refine w_getRB (v := 70) hB ff_X2_0 sh_69 (by rw [mc149]; decide) (by decide +kernel) q_57 dX2_clear_18 ?_
  refine w_iload_n hB 0 dX2_clear_21 rfl rfl ?_
  refine w_bipush hB 10 (by decide) dX2_clear_22 ?_
  refine w_imul hB dX2_clear_24 ?_
  rw [show (2 : Int32) * 10 = 20 by decide]
  refine w_iload_n hB 0 dX2_clear_25 rfl rfl ?_
  refine w_iadd hB dX2_clear_26 ?_
  rw [show (20 : Int32) + 2 = 22 by decide]
  refine w_iconst hB 0 (by decide) dX2_clear_27 ?_
  refine w_iast (M1 := mm150) hB (smM sh_70 (by decide) (by rw [mc149]; decide)) (sl_s sh_70 (by decide) sl_70) (by decide) (by rw [show (22 : Int32).toNatClampNeg = 22 by decide]; rfl) dX2_clear_28 ?_
  refine w_iinc hB 0 (v := 1) (L' := [(1, vi 3), (0, vr 69)]) dX2_clear_29 rfl (by decide) (by decide) (by decide) rfl ?_
  refine w_goto hB 11 dX2_clear_32 (by decide) ?_
  refine w_iload_n hB 0 dX2_clear_11 rfl rfl ?_
  refine w_bipush hB 10 (by decide) dX2_clear_12 ?_
  refine w_icmp_ge hB 35 dX2_clear_14 (by decide) (fun hc => absurd hc (by decide)) (fun _ => ?_)
  refine w_aload_n hB 1 dX2_clear_17 rfl rfl ?_
  refine w_getRB (v := 70) hB ff_X2_0 sh_69 (by rw [mc150]; decide) (by decide +kernel) q_57 dX2_clear_18 ?_
  refine w_iload_n hB 0 dX2_clear_21 rfl rfl ?_
  refine w_bipush hB 10 (by decide) dX2_clear_22 ?_
  refine w_imul hB dX2_clear_24 ?_
  rw [show (3 : Int32) * 10 = 30 by decide]
  refine w_iload_n hB 0 dX2_clear_25 rfl rfl ?_
  refine w_iadd hB dX2_clear_26 ?_
  rw [show (30 : Int32) + 3 = 33 by decide]
  refine w_iconst hB 0 (by decide) dX2_clear_27 ?_
  refine w_iast (M1 := mm151) hB (smM sh_70 (by decide) (by rw [mc150]; decide)) (sl_s sh_70 (by decide) sl_70) (by decide) (by rw [show (33 : Int32).toNatClampNeg = 33 by decide]; rfl) dX2_clear_28 ?_
  refine w_iinc hB 0 (v := 1) (L' := [(1, vi 4), (0, vr 69)]) dX2_clear_29 rfl (by decide) (by decide) (by decide) rfl ?_
  refine w_goto hB 11 dX2_clear_32 (by decide) ?_
  refine w_iload_n hB 0 dX2_clear_11 rfl rfl ?_
  refine w_bipush hB 10 (by decide) dX2_clear_12 ?_
  refine w_icmp_ge hB 35 dX2_clear_14 (by decide) (fun hc => absurd hc (by decide)) (fun _ => ?_)
  refine w_aload_n hB 1 dX2_clear_17 rfl rfl ?_
  refine w_getRB (v := 70) hB ff_X2_0 sh_69 (by rw [mc151]; decide) (by decide +kernel) q_57 dX2_clear_18 ?_
  refine w_iload_n hB 0 dX2_clear_21 rfl rfl ?_
  refine w_bipush hB 10 (by decide) dX2_clear_22 ?_
  refine w_imul hB dX2_clear_24 ?_
  rw [show (4 : Int32) * 10 = 40 by decide]
  refine w_iload_n hB 0 dX2_clear_25 rfl rfl ?_
  refine w_iadd hB dX2_clear_26 ?_
  rw [show (40 : Int32) + 4 = 44 by decide]
  refine w_iconst hB 0 (by decide) dX2_clear_27 ?_
  refine w_iast (M1 := mm152) hB (smM sh_70 (by decide) (by rw [mc151]; decide)) (sl_s sh_70 (by decide) sl_70) (by decide) (by rw [show (44 : Int32).toNatClampNeg = 44 by decide]; rfl) dX2_clear_28 ?_
  refine w_iinc hB 0 (v := 1) (L' := [(1, vi 5), (0, vr 69)]) dX2_clear_29 rfl (by decide) (by decide) (by decide) rfl ?_
  refine w_goto hB 11 dX2_clear_32 (by decide) ?_
  refine w_iload_n hB 0 dX2_clear_11 rfl rfl ?_
  refine w_bipush hB 10 (by decide) dX2_clear_12 ?_
  refine w_icmp_ge hB 35 dX2_clear_14 (by decide) (fun hc => absurd hc (by decide)) (fun _ => ?_)
  refine w_aload_n hB 1 dX2_clear_17 rfl rfl ?_
  refine w_getRB (v := 70) hB ff_X2_0 sh_69 (by rw [mc152]; decide) (by decide +kernel) q_57 dX2_clear_18 ?_
  refine w_iload_n hB 0 dX2_clear_21 rfl rfl ?_
  refine w_bipush hB 10 (by decide) dX2_clear_22 ?_
  refine w_imul hB dX2_clear_24 ?_
  rw [show (5 : Int32) * 10 = 50 by decide]
  refine w_iload_n hB 0 dX2_clear_25 rfl rfl ?_
  refine w_iadd hB dX2_clear_26 ?_
  rw [show (50 : Int32) + 5 = 55 by decide]
  refine w_iconst hB 0 (by decide) dX2_clear_27 ?_
  refine w_iast (M1 := mm153) hB (smM sh_70 (by decide) (by rw [mc152]; decide)) (sl_s sh_70 (by decide) sl_70) (by decide) (by rw [show (55 : Int32).toNatClampNeg = 55 by decide]; rfl) dX2_clear_28 ?_
  refine w_iinc hB 0 (v := 1) (L' := [(1, vi 6), (0, vr 69)]) dX2_clear_29 rfl (by decide) (by decide) (by decide) rfl ?_
  refine w_goto hB 11 dX2_clear_32 (by decide) ?_
  refine w_iload_n hB 0 dX2_clear_11 rfl rfl ?_
  refine w_bipush hB 10 (by decide) dX2_clear_12 ?_
  refine w_icmp_ge hB 35 dX2_clear_14 (by decide) (fun hc => absurd hc (by decide)) (fun _ => ?_)
  refine w_aload_n hB 1 dX2_clear_17 rfl rfl ?_
  refine w_getRB (v := 70) hB ff_X2_0 sh_69 (by rw [mc153]; decide) (by decide +kernel) q_57 dX2_clear_18 ?_
  refine w_iload_n hB 0 dX2_clear_21 rfl rfl ?_
  refine w_bipush hB 10 (by decide) dX2_clear_22 ?_
  refine w_imul hB dX2_clear_24 ?_
  rw [show (6 : Int32) * 10 = 60 by decide]
  refine w_iload_n hB 0 dX2_clear_25 rfl rfl ?_
  refine w_iadd hB dX2_clear_26 ?_
  rw [show (60 : Int32) + 6 = 66 by decide]
  refine w_iconst hB 0 (by decide) dX2_clear_27 ?_
  refine w_iast (M1 := mm154) hB (smM sh_70 (by decide) (by rw [mc153]; decide)) (sl_s sh_70 (by decide) sl_70) (by decide) (by rw [show (66 : Int32).toNatClampNeg = 66 by decide]; rfl) dX2_clear_28 ?_
  refine w_iinc hB 0 (v := 1) (L' := [(1, vi 7), (0, vr 69)]) dX2_clear_29 rfl (by decide) (by decide) (by decide) rfl ?_
  refine w_goto hB 11 dX2_clear_32 (by decide) ?_
  refine w_iload_n hB 0 dX2_clear_11 rfl rfl ?_
  refine w_bipush hB 10 (by decide) dX2_clear_12 ?_
  refine w_icmp_ge hB 35 dX2_clear_14 (by decide) (fun hc => absurd hc (by decide)) (fun _ => ?_)
  refine w_aload_n hB 1 dX2_clear_17 rfl rfl ?_
  refine w_getRB (v := 70) hB ff_X2_0 sh_69 (by rw [mc154]; decide) (by decide +kernel) q_57 dX2_clear_18 ?_
  refine w_iload_n hB 0 dX2_clear_21 rfl rfl ?_
  refine w_bipush hB 10 (by decide) dX2_clear_22 ?_
  refine w_imul hB dX2_clear_24 ?_
  rw [show (7 : Int32) * 10 = 70 by decide]
  refine w_iload_n hB 0 dX2_clear_25 rfl rfl ?_
  refine w_iadd hB dX2_clear_26 ?_
  rw [show (70 : Int32) + 7 = 77 by decide]
  refine w_iconst hB 0 (by decide) dX2_clear_27 ?_
  refine w_iast (M1 := mm155) hB (smM sh_70 (by decide) (by rw [mc154]; decide)) (sl_s sh_70 (by decide) sl_70) (by decide) (by rw [show (77 : Int32).toNatClampNeg = 77 by decide]; rfl) dX2_clear_28 ?_
  refine w_iinc hB 0 (v := 1) (L' := [(1, vi 8), (0, vr 69)]) dX2_clear_29 rfl (by decide) (by decide) (by decide) rfl ?_
  refine w_goto hB 11 dX2_clear_32 (by decide) ?_
  refine w_iload_n hB 0 dX2_clear_11 rfl rfl ?_
  refine w_bipush hB 10 (by decide) dX2_clear_12 ?_
  refine w_icmp_ge hB 35 dX2_clear_14 (by decide) (fun hc => absurd hc (by decide)) (fun _ => ?_)
  refine w_aload_n hB 1 dX2_clear_17 rfl rfl ?_
  refine w_getRB (v := 70) hB ff_X2_0 sh_69 (by rw [mc155]; decide) (by decide +kernel) q_57 dX2_clear_18 ?_
  refine w_iload_n hB 0 dX2_clear_21 rfl rfl ?_
  refine w_bipush hB 10 (by decide) dX2_clear_22 ?_
  refine w_imul hB dX2_clear_24 ?_
  rw [show (8 : Int32) * 10 = 80 by decide]
  refine w_iload_n hB 0 dX2_clear_25 rfl rfl ?_
  refine w_iadd hB dX2_clear_26 ?_
  rw [show (80 : Int32) + 8 = 88 by decide]
  refine w_iconst hB 0 (by decide) dX2_clear_27 ?_
  refine w_iast (M1 := mm156) hB (smM sh_70 (by decide) (by rw [mc155]; decide)) (sl_s sh_70 (by decide) sl_70) (by decide) (by rw [show (88 : Int32).toNatClampNeg = 88 by decide]; rfl) dX2_clear_28 ?_
  refine w_iinc hB 0 (v := 1) (L' := [(1, vi 9), (0, vr 69)]) dX2_clear_29 rfl (by decide) (by decide) (by decide) rfl ?_
  refine w_goto hB 11 dX2_clear_32 (by decide) ?_
  refine w_iload_n hB 0 dX2_clear_11 rfl rfl ?_
  refine w_bipush hB 10 (by decide) dX2_clear_12 ?_
  refine w_icmp_ge hB 35 dX2_clear_14 (by decide) (fun hc => absurd hc (by decide)) (fun _ => ?_)
  refine w_aload_n hB 1 dX2_clear_17 rfl rfl ?_
  refine w_getRB (v := 70) hB ff_X2_0 sh_69 (by rw [mc156]; decide) (by decide +kernel) q_57 dX2_clear_18 ?_
  refine w_iload_n hB 0 dX2_clear_21 rfl rfl ?_
  refine w_bipush hB 10 (by decide) dX2_clear_22 ?_
  refine w_imul hB dX2_clear_24 ?_
  rw [show (9 : Int32) * 10 = 90 by decide]
  refine w_iload_n hB 0 dX2_clear_25 rfl rfl ?_
  refine w_iadd hB dX2_clear_26 ?_
  rw [show (90 : Int32) + 9 = 99 by decide]
  refine w_iconst hB 0 (by decide) dX2_clear_27 ?_
  refine w_iast (M1 := mm157) hB (smM sh_70 (by decide) (by rw [mc156]; decide)) (sl_s sh_70 (by decide) sl_70) (by decide) (by rw [show (99 : Int32).toNatClampNeg = 99 by decide]; rfl) dX2_clear_28 ?_
  refine w_iinc hB 0 (v := 1) (L' := [(1, vi 10), (0, vr 69)]) dX2_clear_29 rfl (by decide) (by decide) (by decide) rfl ?_
  refine w_goto hB 11 dX2_clear_32 (by decide) ?_
  refine w_iload_n hB 0 dX2_clear_11 rfl rfl ?_
  refine w_bipush hB 10 (by decide) dX2_clear_12 ?_
  refine w_icmp_ge hB 35 dX2_clear_14 (by decide) (fun _ => ?_) (fun hc => absurd (by decide) hc)
  refine w_aload_n hB 1 dX2_clear_35 rfl rfl ?_
  refine w_iconst hB 0 (by decide) dX2_clear_36 ?_
  refine w_putZ (M1 := mm158) hB ff_X2_1 (smM sh_69 (by decide) (by rw [mc157]; decide)) q_58 (by decide) rfl dX2_clear_37 ?_
  exact w_vret hB dX2_clear_40
set_option maxRecDepth 100000 in
set_option maxHeartbeats 4000000 in
theorem k19 {K : Kt} {l : Launch} (hb : kP K = true) (hg : KBd K) : MT K l yX9_clear cX9_clear 1 none { frames := 2, cells := 0, slots := 0, locals := 44 } [vr 66] mm144 none mm166 0 0 := by
  refine MT_of (by decide) rfl (Nat.le_of_ble_eq_true rfl) (fun X _ hB hi => ?_)
  refine w_aload_n hB 0 dX9_clear_0 rfl rfl ?_
  refine w_iconst hB 0 (by decide) dX9_clear_1 ?_
  refine w_putI (M1 := mm145) hB ff_X9_0 (smM sh_66 (by decide) (by rw [mc144]; decide)) q_196 rfl dX9_clear_2 ?_
  refine w_aload_n hB 0 dX9_clear_5 rfl rfl ?_
  refine w_iconst hB 0 (by decide) dX9_clear_6 ?_
  refine w_putI (M1 := mm146) hB ff_X9_3 (smM sh_66 (by decide) (by rw [mc145]; decide)) q_206 rfl dX9_clear_7 ?_
  refine w_aload_n hB 0 dX9_clear_10 rfl rfl ?_
  refine w_getRB (v := 69) hB ff_X9_4 sh_66 (by rw [mc146]; decide) (by decide +kernel) q_209 dX9_clear_11 ?_
  refine w_callV (M1 := mm158) hB (ci := 1) (As := []) (st := []) cw_X9_62 q_189 q_190 rfl (smM sh_69 (by decide) (by rw [mc146]; decide)) (k18 hb hg) ⟨rfl, rfl⟩ (by decide) ⟨Nat.le_of_ble_eq_true rfl, Nat.le_of_ble_eq_true rfl⟩ rfl (Nat.le_of_ble_eq_true rfl) dX9_clear_14 rfl ?_ (Or.inl rfl)
  refine w_aload_n hB 0 dX9_clear_17 rfl rfl ?_
  refine w_iconst hB 0 (by decide) dX9_clear_18 ?_
  refine w_putI (M1 := mm159) hB ff_X9_5 (smM sh_66 (by decide) (by rw [mc158]; decide)) q_213 rfl dX9_clear_19 ?_
  refine w_aload_n hB 0 dX9_clear_22 rfl rfl ?_
  refine w_iconst hB 0 (by decide) dX9_clear_23 ?_
  refine w_putI (M1 := mm160) hB ff_X9_7 (smM sh_66 (by decide) (by rw [mc159]; decide)) q_220 rfl dX9_clear_24 ?_
  refine w_aload_n hB 0 dX9_clear_27 rfl rfl ?_
  refine w_iconst hB 0 (by decide) dX9_clear_28 ?_
  refine w_putI (M1 := mm161) hB ff_X9_9 (smM sh_66 (by decide) (by rw [mc160]; decide)) q_226 rfl dX9_clear_29 ?_
  refine w_aload_n hB 0 dX9_clear_32 rfl rfl ?_
  refine w_iconst hB 0 (by decide) dX9_clear_33 ?_
  refine w_putI (M1 := mm162) hB ff_X9_11 (smM sh_66 (by decide) (by rw [mc161]; decide)) q_231 rfl dX9_clear_34 ?_
  refine w_aload_n hB 0 dX9_clear_37 rfl rfl ?_
  refine w_getRB (v := 75) hB ff_X9_13 sh_66 (by rw [mc162]; decide) (by decide +kernel) q_237 dX9_clear_38 ?_
  refine w_iconst hB 0 (by decide) dX9_clear_41 ?_
  refine w_bipush hB 60 (by decide) dX9_clear_42 ?_
  refine w_iast (M1 := mm163) hB (smM sh_75 (by decide) (by rw [mc162]; decide)) (sl_s sh_75 (by decide) sl_75) (by decide) (by rw [show (0 : Int32).toNatClampNeg = 0 by decide]; rfl) dX9_clear_44 ?_
  refine w_aload_n hB 0 dX9_clear_45 rfl rfl ?_
  refine w_getRB (v := 75) hB ff_X9_13 sh_66 (by rw [mc163]; decide) (by decide +kernel) q_237 dX9_clear_46 ?_
  refine w_iconst hB 1 (by decide) dX9_clear_49 ?_
  refine w_iconst hB 0 (by decide) dX9_clear_50 ?_
  refine w_iast (M1 := mm164) hB (smM sh_75 (by decide) (by rw [mc163]; decide)) (sl_s sh_75 (by decide) sl_75) (by decide) (by rw [show (1 : Int32).toNatClampNeg = 1 by decide]; rfl) dX9_clear_51 ?_
  refine w_aload_n hB 0 dX9_clear_52 rfl rfl ?_
  refine w_getRB (v := 75) hB ff_X9_13 sh_66 (by rw [mc164]; decide) (by decide +kernel) q_237 dX9_clear_53 ?_
  refine w_iconst hB 2 (by decide) dX9_clear_56 ?_
  refine w_sipush hB 1000 (by decide) dX9_clear_57 ?_
  refine w_iast (M1 := mm165) hB (smM sh_75 (by decide) (by rw [mc164]; decide)) (sl_s sh_75 (by decide) sl_75) (by decide) (by rw [show (2 : Int32).toNatClampNeg = 2 by decide]; rfl) dX9_clear_60 ?_
  refine w_aload_n hB 0 dX9_clear_61 rfl rfl ?_
  refine w_getRB (v := 75) hB ff_X9_13 sh_66 (by rw [mc165]; decide) (by decide +kernel) q_237 dX9_clear_62 ?_
  refine w_iconst hB 3 (by decide) dX9_clear_65 ?_
  refine w_iconst hB 1 (by decide) dX9_clear_66 ?_
  refine w_iast (M1 := mm166) hB (smM sh_75 (by decide) (by rw [mc165]; decide)) (sl_s sh_75 (by decide) sl_75) (by decide) (by rw [show (3 : Int32).toNatClampNeg = 3 by decide]; rfl) dX9_clear_67 ?_
  exact w_vret hB dX9_clear_68
set_option maxRecDepth 100000 in
set_option maxHeartbeats 4000000 in
theorem k20 {K : Kt} {l : Launch} (hb : kP K = true) (hg : KBd K) : MT K l yX9_init cX9_init 2 none { frames := 3, cells := 70, slots := 642, locals := 64 } [vr 66] mm4 none mm166 70 642 := by
  refine MT_of (by decide) rfl (Nat.le_of_ble_eq_true rfl) (fun X _ hB hi => ?_)
  refine w_aload_n hB 0 dX9_init_0 rfl rfl ?_
  refine w_objinit hB (Or.inl (by decide)) q_50 q_43 q_oc (by decide) dX9_init_1 ?_
  refine w_aload_n hB 0 dX9_init_4 rfl rfl ?_
  refine w_iconst hB 5 (by decide) dX9_init_5 ?_
  refine w_newI hB hb (n := 67) sh_67 sl_67 sgm4.2 (by rw [mc4]) (by decide) (by decide) ⟨Nat.le_of_ble_eq_true rfl, Nat.le_of_ble_eq_true rfl⟩ dX9_init_6 ?_
  refine Wt.mem (M1 := mm5) rfl ?_
  refine w_putRF (M1 := mm6) (ty := .array .int) hB hb ff_X9_1 (hi rfl) sh_66 (by rw [mc5]; decide) q_200 (by decide +kernel) (nar_arr _ _) (fit_arr _ _) rfl dX9_init_8 ?_
  refine w_aload_n hB 0 dX9_init_11 rfl rfl ?_
  refine w_iconst hB 5 (by decide) dX9_init_12 ?_
  refine w_newI hB hb (n := 68) sh_68 sl_68 sgm6.2 (by rw [mc6]) (by decide) (by decide) ⟨Nat.le_of_ble_eq_true rfl, Nat.le_of_ble_eq_true rfl⟩ dX9_init_13 ?_
  refine Wt.mem (M1 := mm7) rfl ?_
  refine w_putRF (M1 := mm8) (ty := .array .int) hB hb ff_X9_2 (hi rfl) sh_66 (by rw [mc7]; decide) q_203 (by decide +kernel) (nar_arr _ _) (fit_arr _ _) rfl dX9_init_15 ?_
  refine w_aload_n hB 0 dX9_init_18 rfl rfl ?_
  refine w_newB hB hb (ci := 1) (N := 2) (n := 69) tyX2 rfl inG_X2 tyX2_ok dz_X2 q_51 q_52 q_11 (by rw [mc8]) sh_69 (by decide) sgm8.2 ⟨Nat.le_of_ble_eq_true rfl, Nat.le_of_ble_eq_true rfl⟩ dX9_init_19 ?_
  refine Wt.mem (M1 := mm9) rfl ?_
  refine w_dup hB rfl dX9_init_22 ?_
  refine w_callIN (M1 := mm11) hB (n := 69) (As := []) (st := [vr 69, vr 66]) (na := 0) hg.2.1.1 q_11 q_55 ⟨by decide +kernel, by decide +kernel⟩ rfl q_54 (Or.inl (by decide)) (k1 hb hg) ⟨rfl, rfl⟩ (by decide) ⟨Nat.le_of_ble_eq_true rfl, Nat.le_of_ble_eq_true rfl⟩ rfl (Nat.le_of_ble_eq_true rfl) dX9_init_23 rfl ?_ (Or.inr (by rw [mc9, mc11]))
  refine w_putRF (M1 := mm12) (ty := .object "ReplayBooth$Bounds") hB hb ff_X9_4 (hi rfl) sh_66 (by rw [mc11]; decide) q_209 (by decide +kernel) (nar_obj _ _) (fit_obj _ _) rfl dX9_init_26 ?_
  refine w_aload_n hB 0 dX9_init_29 rfl rfl ?_
  refine w_iconst hB 4 (by decide) dX9_init_30 ?_
  refine w_newI hB hb (n := 71) sh_71 sl_71 sgm12.2 (by rw [mc12]) (by decide) (by decide) ⟨Nat.le_of_ble_eq_true rfl, Nat.le_of_ble_eq_true rfl⟩ dX9_init_31 ?_
  refine Wt.mem (M1 := mm13) rfl ?_
  refine w_putRF (M1 := mm14) (ty := .array .int) hB hb ff_X9_6 (hi rfl) sh_66 (by rw [mc13]; decide) q_217 (by decide +kernel) (nar_arr _ _) (fit_arr _ _) rfl dX9_init_33 ?_
  refine w_aload_n hB 0 dX9_init_36 rfl rfl ?_
  refine w_iconst hB 5 (by decide) dX9_init_37 ?_
  refine w_newqB hB hb (c := 4) (n := 72) q_68 hg.2.2.1 rfl sh_72 (by decide) sl_72 sgm14.2 (by rw [mc14]) (by decide) (by decide) ⟨Nat.le_of_ble_eq_true rfl, Nat.le_of_ble_eq_true rfl⟩ dX9_init_38 ?_
  refine Wt.mem (M1 := mm15) rfl ?_
  refine w_putRF (M1 := mm16) (ty := .array (.object "ReplayBooth$Kind")) hB hb ff_X9_8 (hi rfl) sh_66 (by rw [mc15]; decide) q_223 (by decide +kernel) (nar_arr _ _) (fit_arr _ _) rfl dX9_init_41 ?_
  refine w_aload_n hB 0 dX9_init_44 rfl rfl ?_
  refine w_iconst hB 3 (by decide) dX9_init_45 ?_
  refine w_newqB hB hb (c := 5) (n := 73) q_70 hg.2.2.2.1 rfl sh_73 (by decide) sl_73 sgm16.2 (by rw [mc16]) (by decide) (by decide) ⟨Nat.le_of_ble_eq_true rfl, Nat.le_of_ble_eq_true rfl⟩ dX9_init_46 ?_
  refine Wt.mem (M1 := mm17) rfl ?_
  refine w_putRF (M1 := mm18) (ty := .array (.object "ReplayBooth$Board")) hB hb ff_X9_10 (hi rfl) sh_66 (by rw [mc17]; decide) q_229 (by decide +kernel) (nar_arr _ _) (fit_arr _ _) rfl dX9_init_49 ?_
  refine w_aload_n hB 0 dX9_init_52 rfl rfl ?_
  refine w_bipush hB 8 (by decide) dX9_init_53 ?_
  refine w_newqB hB hb (c := 6) (n := 74) q_72 hg.2.2.2.2.1 rfl sh_74 (by decide) sl_74 sgm18.2 (by rw [mc18]) (by decide) (by decide) ⟨Nat.le_of_ble_eq_true rfl, Nat.le_of_ble_eq_true rfl⟩ dX9_init_55 ?_
  refine Wt.mem (M1 := mm19) rfl ?_
  refine w_putRF (M1 := mm20) (ty := .array (.object "ReplayBooth$Play")) hB hb ff_X9_12 (hi rfl) sh_66 (by rw [mc19]; decide) q_234 (by decide +kernel) (nar_arr _ _) (fit_arr _ _) rfl dX9_init_58 ?_
  refine w_aload_n hB 0 dX9_init_61 rfl rfl ?_
  refine w_iconst hB 4 (by decide) dX9_init_62 ?_
  refine w_newI hB hb (n := 75) sh_75 sl_75 sgm20.2 (by rw [mc20]) (by decide) (by decide) ⟨Nat.le_of_ble_eq_true rfl, Nat.le_of_ble_eq_true rfl⟩ dX9_init_63 ?_
  refine Wt.mem (M1 := mm21) rfl ?_
  refine w_putRF (M1 := mm22) (ty := .array .int) hB hb ff_X9_13 (hi rfl) sh_66 (by rw [mc21]; decide) q_237 (by decide +kernel) (nar_arr _ _) (fit_arr _ _) rfl dX9_init_65 ?_
  refine w_iconst hB 0 (by decide) dX9_init_68 ?_
  refine w_istore_n hB (L' := [(1, vi 0), (0, vr 66)]) dX9_init_69 rfl (by decide) rfl rfl ?_
  refine w_iload_n hB 0 dX9_init_70 rfl rfl ?_
  refine w_iconst hB 5 (by decide) dX9_init_71 ?_
  refine w_icmp_ge hB 94 dX9_init_72 (by decide) (fun hc => absurd hc (by decide)) (fun _ => ?_)
  refine w_aload_n hB 1 dX9_init_75 rfl rfl ?_
  refine w_getRB (v := 72) hB ff_X9_8 sh_66 (by rw [mc22]; decide) (by decide +kernel) q_223 dX9_init_76 ?_
  refine w_iload_n hB 0 dX9_init_79 rfl rfl ?_
  refine w_newB hB hb (ci := 4) (N := 6) (n := 76) tyX5 rfl inG_X5 tyX5_ok dz_X5 q_68 q_74 q_12 (by rw [mc22]) sh_76 (by decide) sgm22.2 ⟨Nat.le_of_ble_eq_true rfl, Nat.le_of_ble_eq_true rfl⟩ dX9_init_80 ?_
  refine Wt.mem (M1 := mm23) rfl ?_
  refine w_dup hB rfl dX9_init_83 ?_
  refine w_callIN (M1 := mm27) hB (n := 76) (As := []) (st := [vr 76, vi 0, vr 72]) (na := 0) hg.2.1.2.1 q_12 q_77 ⟨by decide +kernel, by decide +kernel⟩ rfl q_76 (Or.inl (by decide)) (k2 hb hg) ⟨rfl, rfl⟩ (by decide) ⟨Nat.le_of_ble_eq_true rfl, Nat.le_of_ble_eq_true rfl⟩ rfl (Nat.le_of_ble_eq_true rfl) dX9_init_84 rfl ?_ (Or.inr (by rw [mc23, mc27]))
  refine w_aastB (M1 := mm28) hB hb (c := 4) (ci := 4) sh_72 (by decide) (by rw [mc27]; decide) sh_76 (by rw [mc27]; decide) rfl (by decide) rfl sl_72 (by decide) (by rw [show (0 : Int32).toNatClampNeg = 0 by decide]; rfl) dX9_init_87 ?_
  refine w_iinc hB 0 (v := 1) (L' := [(1, vi 1), (0, vr 66)]) dX9_init_88 rfl (by decide) (by decide) (by decide) rfl ?_
  refine w_goto hB 70 dX9_init_91 (by decide) ?_
  refine w_iload_n hB 0 dX9_init_70 rfl rfl ?_
  refine w_iconst hB 5 (by decide) dX9_init_71 ?_
  refine w_icmp_ge hB 94 dX9_init_72 (by decide) (fun hc => absurd hc (by decide)) (fun _ => ?_)
  refine w_aload_n hB 1 dX9_init_75 rfl rfl ?_
  refine w_getRB (v := 72) hB ff_X9_8 sh_66 (by rw [mc28]; decide) (by decide +kernel) q_223 dX9_init_76 ?_
  refine w_iload_n hB 0 dX9_init_79 rfl rfl ?_
  refine w_newB hB hb (ci := 4) (N := 6) (n := 79) tyX5 rfl inG_X5 tyX5_ok dz_X5 q_68 q_74 q_12 (by rw [mc28]) sh_79 (by decide) sgm28.2 ⟨Nat.le_of_ble_eq_true rfl, Nat.le_of_ble_eq_true rfl⟩ dX9_init_80 ?_
  refine Wt.mem (M1 := mm29) rfl ?_
  refine w_dup hB rfl dX9_init_83 ?_
  refine w_callIN (M1 := mm33) hB (n := 79) (As := []) (st := [vr 79, vi 1, vr 72]) (na := 0) hg.2.1.2.1 q_12 q_77 ⟨by decide +kernel, by decide +kernel⟩ rfl q_76 (Or.inl (by decide)) (k3 hb hg) ⟨rfl, rfl⟩ (by decide) ⟨Nat.le_of_ble_eq_true rfl, Nat.le_of_ble_eq_true rfl⟩ rfl (Nat.le_of_ble_eq_true rfl) dX9_init_84 rfl ?_ (Or.inr (by rw [mc29, mc33]))
  refine w_aastB (M1 := mm34) hB hb (c := 4) (ci := 4) sh_72 (by decide) (by rw [mc33]; decide) sh_79 (by rw [mc33]; decide) rfl (by decide) rfl sl_72 (by decide) (by rw [show (1 : Int32).toNatClampNeg = 1 by decide]; rfl) dX9_init_87 ?_
  refine w_iinc hB 0 (v := 1) (L' := [(1, vi 2), (0, vr 66)]) dX9_init_88 rfl (by decide) (by decide) (by decide) rfl ?_
  refine w_goto hB 70 dX9_init_91 (by decide) ?_
  refine w_iload_n hB 0 dX9_init_70 rfl rfl ?_
  refine w_iconst hB 5 (by decide) dX9_init_71 ?_
  refine w_icmp_ge hB 94 dX9_init_72 (by decide) (fun hc => absurd hc (by decide)) (fun _ => ?_)
  refine w_aload_n hB 1 dX9_init_75 rfl rfl ?_
  refine w_getRB (v := 72) hB ff_X9_8 sh_66 (by rw [mc34]; decide) (by decide +kernel) q_223 dX9_init_76 ?_
  refine w_iload_n hB 0 dX9_init_79 rfl rfl ?_
  refine w_newB hB hb (ci := 4) (N := 6) (n := 82) tyX5 rfl inG_X5 tyX5_ok dz_X5 q_68 q_74 q_12 (by rw [mc34]) sh_82 (by decide) sgm34.2 ⟨Nat.le_of_ble_eq_true rfl, Nat.le_of_ble_eq_true rfl⟩ dX9_init_80 ?_
  refine Wt.mem (M1 := mm35) rfl ?_
  refine w_dup hB rfl dX9_init_83 ?_
  refine w_callIN (M1 := mm39) hB (n := 82) (As := []) (st := [vr 82, vi 2, vr 72]) (na := 0) hg.2.1.2.1 q_12 q_77 ⟨by decide +kernel, by decide +kernel⟩ rfl q_76 (Or.inl (by decide)) (k4 hb hg) ⟨rfl, rfl⟩ (by decide) ⟨Nat.le_of_ble_eq_true rfl, Nat.le_of_ble_eq_true rfl⟩ rfl (Nat.le_of_ble_eq_true rfl) dX9_init_84 rfl ?_ (Or.inr (by rw [mc35, mc39]))
  refine w_aastB (M1 := mm40) hB hb (c := 4) (ci := 4) sh_72 (by decide) (by rw [mc39]; decide) sh_82 (by rw [mc39]; decide) rfl (by decide) rfl sl_72 (by decide) (by rw [show (2 : Int32).toNatClampNeg = 2 by decide]; rfl) dX9_init_87 ?_
  refine w_iinc hB 0 (v := 1) (L' := [(1, vi 3), (0, vr 66)]) dX9_init_88 rfl (by decide) (by decide) (by decide) rfl ?_
  refine w_goto hB 70 dX9_init_91 (by decide) ?_
  refine w_iload_n hB 0 dX9_init_70 rfl rfl ?_
  refine w_iconst hB 5 (by decide) dX9_init_71 ?_
  refine w_icmp_ge hB 94 dX9_init_72 (by decide) (fun hc => absurd hc (by decide)) (fun _ => ?_)
  refine w_aload_n hB 1 dX9_init_75 rfl rfl ?_
  refine w_getRB (v := 72) hB ff_X9_8 sh_66 (by rw [mc40]; decide) (by decide +kernel) q_223 dX9_init_76 ?_
  refine w_iload_n hB 0 dX9_init_79 rfl rfl ?_
  refine w_newB hB hb (ci := 4) (N := 6) (n := 85) tyX5 rfl inG_X5 tyX5_ok dz_X5 q_68 q_74 q_12 (by rw [mc40]) sh_85 (by decide) sgm40.2 ⟨Nat.le_of_ble_eq_true rfl, Nat.le_of_ble_eq_true rfl⟩ dX9_init_80 ?_
  refine Wt.mem (M1 := mm41) rfl ?_
  refine w_dup hB rfl dX9_init_83 ?_
  refine w_callIN (M1 := mm45) hB (n := 85) (As := []) (st := [vr 85, vi 3, vr 72]) (na := 0) hg.2.1.2.1 q_12 q_77 ⟨by decide +kernel, by decide +kernel⟩ rfl q_76 (Or.inl (by decide)) (k5 hb hg) ⟨rfl, rfl⟩ (by decide) ⟨Nat.le_of_ble_eq_true rfl, Nat.le_of_ble_eq_true rfl⟩ rfl (Nat.le_of_ble_eq_true rfl) dX9_init_84 rfl ?_ (Or.inr (by rw [mc41, mc45]))
  refine w_aastB (M1 := mm46) hB hb (c := 4) (ci := 4) sh_72 (by decide) (by rw [mc45]; decide) sh_85 (by rw [mc45]; decide) rfl (by decide) rfl sl_72 (by decide) (by rw [show (3 : Int32).toNatClampNeg = 3 by decide]; rfl) dX9_init_87 ?_
  refine w_iinc hB 0 (v := 1) (L' := [(1, vi 4), (0, vr 66)]) dX9_init_88 rfl (by decide) (by decide) (by decide) rfl ?_
  refine w_goto hB 70 dX9_init_91 (by decide) ?_
  refine w_iload_n hB 0 dX9_init_70 rfl rfl ?_
  refine w_iconst hB 5 (by decide) dX9_init_71 ?_
  refine w_icmp_ge hB 94 dX9_init_72 (by decide) (fun hc => absurd hc (by decide)) (fun _ => ?_)
  refine w_aload_n hB 1 dX9_init_75 rfl rfl ?_
  refine w_getRB (v := 72) hB ff_X9_8 sh_66 (by rw [mc46]; decide) (by decide +kernel) q_223 dX9_init_76 ?_
  refine w_iload_n hB 0 dX9_init_79 rfl rfl ?_
  refine w_newB hB hb (ci := 4) (N := 6) (n := 88) tyX5 rfl inG_X5 tyX5_ok dz_X5 q_68 q_74 q_12 (by rw [mc46]) sh_88 (by decide) sgm46.2 ⟨Nat.le_of_ble_eq_true rfl, Nat.le_of_ble_eq_true rfl⟩ dX9_init_80 ?_
  refine Wt.mem (M1 := mm47) rfl ?_
  refine w_dup hB rfl dX9_init_83 ?_
  refine w_callIN (M1 := mm51) hB (n := 88) (As := []) (st := [vr 88, vi 4, vr 72]) (na := 0) hg.2.1.2.1 q_12 q_77 ⟨by decide +kernel, by decide +kernel⟩ rfl q_76 (Or.inl (by decide)) (k6 hb hg) ⟨rfl, rfl⟩ (by decide) ⟨Nat.le_of_ble_eq_true rfl, Nat.le_of_ble_eq_true rfl⟩ rfl (Nat.le_of_ble_eq_true rfl) dX9_init_84 rfl ?_ (Or.inr (by rw [mc47, mc51]))
  refine w_aastB (M1 := mm52) hB hb (c := 4) (ci := 4) sh_72 (by decide) (by rw [mc51]; decide) sh_88 (by rw [mc51]; decide) rfl (by decide) rfl sl_72 (by decide) (by rw [show (4 : Int32).toNatClampNeg = 4 by decide]; rfl) dX9_init_87 ?_
  refine w_iinc hB 0 (v := 1) (L' := [(1, vi 5), (0, vr 66)]) dX9_init_88 rfl (by decide) (by decide) (by decide) rfl ?_
  refine w_goto hB 70 dX9_init_91 (by decide) ?_
  refine w_iload_n hB 0 dX9_init_70 rfl rfl ?_
  refine w_iconst hB 5 (by decide) dX9_init_71 ?_
  refine w_icmp_ge hB 94 dX9_init_72 (by decide) (fun _ => ?_) (fun hc => absurd (by decide) hc)
  refine w_iconst hB 0 (by decide) dX9_init_94 ?_
  refine w_istore_n hB (L' := [(1, vi 0), (0, vr 66)]) dX9_init_95 rfl (by decide) rfl rfl ?_
  refine w_iload_n hB 0 dX9_init_96 rfl rfl ?_
  refine w_iconst hB 3 (by decide) dX9_init_97 ?_
  refine w_icmp_ge hB 120 dX9_init_98 (by decide) (fun hc => absurd hc (by decide)) (fun _ => ?_)
  refine w_aload_n hB 1 dX9_init_101 rfl rfl ?_
  refine w_getRB (v := 73) hB ff_X9_10 sh_66 (by rw [mc52]; decide) (by decide +kernel) q_229 dX9_init_102 ?_
  refine w_iload_n hB 0 dX9_init_105 rfl rfl ?_
  refine w_newB hB hb (ci := 0) (N := 3) (n := 91) tyX1 rfl inG_X1 tyX1_ok dz_X1 q_70 q_103 q_13 (by rw [mc52]) sh_91 (by decide) sgm52.2 ⟨Nat.le_of_ble_eq_true rfl, Nat.le_of_ble_eq_true rfl⟩ dX9_init_106 ?_
  refine Wt.mem (M1 := mm53) rfl ?_
  refine w_dup hB rfl dX9_init_109 ?_
  refine w_callIN (M1 := mm55) hB (n := 91) (As := []) (st := [vr 91, vi 0, vr 73]) (na := 0) hg.2.1.2.2.1 q_13 q_106 ⟨by decide +kernel, by decide +kernel⟩ rfl q_105 (Or.inl (by decide)) (k7 hb hg) ⟨rfl, rfl⟩ (by decide) ⟨Nat.le_of_ble_eq_true rfl, Nat.le_of_ble_eq_true rfl⟩ rfl (Nat.le_of_ble_eq_true rfl) dX9_init_110 rfl ?_ (Or.inr (by rw [mc53, mc55]))
  refine w_aastB (M1 := mm56) hB hb (c := 5) (ci := 0) sh_73 (by decide) (by rw [mc55]; decide) sh_91 (by rw [mc55]; decide) rfl (by decide) rfl sl_73 (by decide) (by rw [show (0 : Int32).toNatClampNeg = 0 by decide]; rfl) dX9_init_113 ?_
  refine w_iinc hB 0 (v := 1) (L' := [(1, vi 1), (0, vr 66)]) dX9_init_114 rfl (by decide) (by decide) (by decide) rfl ?_
  refine w_goto hB 96 dX9_init_117 (by decide) ?_
  refine w_iload_n hB 0 dX9_init_96 rfl rfl ?_
  refine w_iconst hB 3 (by decide) dX9_init_97 ?_
  refine w_icmp_ge hB 120 dX9_init_98 (by decide) (fun hc => absurd hc (by decide)) (fun _ => ?_)
  refine w_aload_n hB 1 dX9_init_101 rfl rfl ?_
  refine w_getRB (v := 73) hB ff_X9_10 sh_66 (by rw [mc56]; decide) (by decide +kernel) q_229 dX9_init_102 ?_
  refine w_iload_n hB 0 dX9_init_105 rfl rfl ?_
  refine w_newB hB hb (ci := 0) (N := 3) (n := 93) tyX1 rfl inG_X1 tyX1_ok dz_X1 q_70 q_103 q_13 (by rw [mc56]) sh_93 (by decide) sgm56.2 ⟨Nat.le_of_ble_eq_true rfl, Nat.le_of_ble_eq_true rfl⟩ dX9_init_106 ?_
  refine Wt.mem (M1 := mm57) rfl ?_
  refine w_dup hB rfl dX9_init_109 ?_
  refine w_callIN (M1 := mm59) hB (n := 93) (As := []) (st := [vr 93, vi 1, vr 73]) (na := 0) hg.2.1.2.2.1 q_13 q_106 ⟨by decide +kernel, by decide +kernel⟩ rfl q_105 (Or.inl (by decide)) (k8 hb hg) ⟨rfl, rfl⟩ (by decide) ⟨Nat.le_of_ble_eq_true rfl, Nat.le_of_ble_eq_true rfl⟩ rfl (Nat.le_of_ble_eq_true rfl) dX9_init_110 rfl ?_ (Or.inr (by rw [mc57, mc59]))
  refine w_aastB (M1 := mm60) hB hb (c := 5) (ci := 0) sh_73 (by decide) (by rw [mc59]; decide) sh_93 (by rw [mc59]; decide) rfl (by decide) rfl sl_73 (by decide) (by rw [show (1 : Int32).toNatClampNeg = 1 by decide]; rfl) dX9_init_113 ?_
  refine w_iinc hB 0 (v := 1) (L' := [(1, vi 2), (0, vr 66)]) dX9_init_114 rfl (by decide) (by decide) (by decide) rfl ?_
  refine w_goto hB 96 dX9_init_117 (by decide) ?_
  refine w_iload_n hB 0 dX9_init_96 rfl rfl ?_
  refine w_iconst hB 3 (by decide) dX9_init_97 ?_
  refine w_icmp_ge hB 120 dX9_init_98 (by decide) (fun hc => absurd hc (by decide)) (fun _ => ?_)
  refine w_aload_n hB 1 dX9_init_101 rfl rfl ?_
  refine w_getRB (v := 73) hB ff_X9_10 sh_66 (by rw [mc60]; decide) (by decide +kernel) q_229 dX9_init_102 ?_
  refine w_iload_n hB 0 dX9_init_105 rfl rfl ?_
  refine w_newB hB hb (ci := 0) (N := 3) (n := 95) tyX1 rfl inG_X1 tyX1_ok dz_X1 q_70 q_103 q_13 (by rw [mc60]) sh_95 (by decide) sgm60.2 ⟨Nat.le_of_ble_eq_true rfl, Nat.le_of_ble_eq_true rfl⟩ dX9_init_106 ?_
  refine Wt.mem (M1 := mm61) rfl ?_
  refine w_dup hB rfl dX9_init_109 ?_
  refine w_callIN (M1 := mm63) hB (n := 95) (As := []) (st := [vr 95, vi 2, vr 73]) (na := 0) hg.2.1.2.2.1 q_13 q_106 ⟨by decide +kernel, by decide +kernel⟩ rfl q_105 (Or.inl (by decide)) (k9 hb hg) ⟨rfl, rfl⟩ (by decide) ⟨Nat.le_of_ble_eq_true rfl, Nat.le_of_ble_eq_true rfl⟩ rfl (Nat.le_of_ble_eq_true rfl) dX9_init_110 rfl ?_ (Or.inr (by rw [mc61, mc63]))
  refine w_aastB (M1 := mm64) hB hb (c := 5) (ci := 0) sh_73 (by decide) (by rw [mc63]; decide) sh_95 (by rw [mc63]; decide) rfl (by decide) rfl sl_73 (by decide) (by rw [show (2 : Int32).toNatClampNeg = 2 by decide]; rfl) dX9_init_113 ?_
  refine w_iinc hB 0 (v := 1) (L' := [(1, vi 3), (0, vr 66)]) dX9_init_114 rfl (by decide) (by decide) (by decide) rfl ?_
  refine w_goto hB 96 dX9_init_117 (by decide) ?_
  refine w_iload_n hB 0 dX9_init_96 rfl rfl ?_
  refine w_iconst hB 3 (by decide) dX9_init_97 ?_
  refine w_icmp_ge hB 120 dX9_init_98 (by decide) (fun _ => ?_) (fun hc => absurd (by decide) hc)
  refine w_iconst hB 0 (by decide) dX9_init_120 ?_
  refine w_istore_n hB (L' := [(1, vi 0), (0, vr 66)]) dX9_init_121 rfl (by decide) rfl rfl ?_
  refine w_iload_n hB 0 dX9_init_122 rfl rfl ?_
  refine w_bipush hB 8 (by decide) dX9_init_123 ?_
  refine w_icmp_ge hB 147 dX9_init_125 (by decide) (fun hc => absurd hc (by decide)) (fun _ => ?_)
  refine w_aload_n hB 1 dX9_init_128 rfl rfl ?_
  refine w_getRB (v := 74) hB ff_X9_12 sh_66 (by rw [mc64]; decide) (by decide +kernel) q_234 dX9_init_129 ?_
  refine w_iload_n hB 0 dX9_init_132 rfl rfl ?_
  refine w_newB hB hb (ci := 5) (N := 12) (n := 97) tyX6 rfl inG_X6 tyX6_ok dz_X6 q_72 q_119 q_14 (by rw [mc64]) sh_97 (by decide) sgm64.2 ⟨Nat.le_of_ble_eq_true rfl, Nat.le_of_ble_eq_true rfl⟩ dX9_init_133 ?_
  refine Wt.mem (M1 := mm65) rfl ?_
  refine w_dup hB rfl dX9_init_136 ?_
  refine w_callIN (M1 := mm73) hB (n := 97) (As := []) (st := [vr 97, vi 0, vr 74]) (na := 0) hg.2.1.2.2.2.1 q_14 q_122 ⟨by decide +kernel, by decide +kernel⟩ rfl q_121 (Or.inl (by decide)) (k10 hb hg) ⟨rfl, rfl⟩ (by decide) ⟨Nat.le_of_ble_eq_true rfl, Nat.le_of_ble_eq_true rfl⟩ rfl (Nat.le_of_ble_eq_true rfl) dX9_init_137 rfl ?_ (Or.inr (by rw [mc65, mc73]))
  refine w_aastB (M1 := mm74) hB hb (c := 6) (ci := 5) sh_74 (by decide) (by rw [mc73]; decide) sh_97 (by rw [mc73]; decide) rfl (by decide) rfl sl_74 (by decide) (by rw [show (0 : Int32).toNatClampNeg = 0 by decide]; rfl) dX9_init_140 ?_
  refine w_iinc hB 0 (v := 1) (L' := [(1, vi 1), (0, vr 66)]) dX9_init_141 rfl (by decide) (by decide) (by decide) rfl ?_
  refine w_goto hB 122 dX9_init_144 (by decide) ?_
  refine w_iload_n hB 0 dX9_init_122 rfl rfl ?_
  refine w_bipush hB 8 (by decide) dX9_init_123 ?_
  refine w_icmp_ge hB 147 dX9_init_125 (by decide) (fun hc => absurd hc (by decide)) (fun _ => ?_)
  refine w_aload_n hB 1 dX9_init_128 rfl rfl ?_
  refine w_getRB (v := 74) hB ff_X9_12 sh_66 (by rw [mc74]; decide) (by decide +kernel) q_234 dX9_init_129 ?_
  refine w_iload_n hB 0 dX9_init_132 rfl rfl ?_
  refine w_newB hB hb (ci := 5) (N := 12) (n := 102) tyX6 rfl inG_X6 tyX6_ok dz_X6 q_72 q_119 q_14 (by rw [mc74]) sh_102 (by decide) sgm74.2 ⟨Nat.le_of_ble_eq_true rfl, Nat.le_of_ble_eq_true rfl⟩ dX9_init_133 ?_
  refine Wt.mem (M1 := mm75) rfl ?_
  refine w_dup hB rfl dX9_init_136 ?_
  refine w_callIN (M1 := mm83) hB (n := 102) (As := []) (st := [vr 102, vi 1, vr 74]) (na := 0) hg.2.1.2.2.2.1 q_14 q_122 ⟨by decide +kernel, by decide +kernel⟩ rfl q_121 (Or.inl (by decide)) (k11 hb hg) ⟨rfl, rfl⟩ (by decide) ⟨Nat.le_of_ble_eq_true rfl, Nat.le_of_ble_eq_true rfl⟩ rfl (Nat.le_of_ble_eq_true rfl) dX9_init_137 rfl ?_ (Or.inr (by rw [mc75, mc83]))
  refine w_aastB (M1 := mm84) hB hb (c := 6) (ci := 5) sh_74 (by decide) (by rw [mc83]; decide) sh_102 (by rw [mc83]; decide) rfl (by decide) rfl sl_74 (by decide) (by rw [show (1 : Int32).toNatClampNeg = 1 by decide]; rfl) dX9_init_140 ?_
  refine w_iinc hB 0 (v := 1) (L' := [(1, vi 2), (0, vr 66)]) dX9_init_141 rfl (by decide) (by decide) (by decide) rfl ?_
  refine w_goto hB 122 dX9_init_144 (by decide) ?_
  refine w_iload_n hB 0 dX9_init_122 rfl rfl ?_
  refine w_bipush hB 8 (by decide) dX9_init_123 ?_
  refine w_icmp_ge hB 147 dX9_init_125 (by decide) (fun hc => absurd hc (by decide)) (fun _ => ?_)
  refine w_aload_n hB 1 dX9_init_128 rfl rfl ?_
  refine w_getRB (v := 74) hB ff_X9_12 sh_66 (by rw [mc84]; decide) (by decide +kernel) q_234 dX9_init_129 ?_
  refine w_iload_n hB 0 dX9_init_132 rfl rfl ?_
  refine w_newB hB hb (ci := 5) (N := 12) (n := 107) tyX6 rfl inG_X6 tyX6_ok dz_X6 q_72 q_119 q_14 (by rw [mc84]) sh_107 (by decide) sgm84.2 ⟨Nat.le_of_ble_eq_true rfl, Nat.le_of_ble_eq_true rfl⟩ dX9_init_133 ?_
  refine Wt.mem (M1 := mm85) rfl ?_
  refine w_dup hB rfl dX9_init_136 ?_
  refine w_callIN (M1 := mm93) hB (n := 107) (As := []) (st := [vr 107, vi 2, vr 74]) (na := 0) hg.2.1.2.2.2.1 q_14 q_122 ⟨by decide +kernel, by decide +kernel⟩ rfl q_121 (Or.inl (by decide)) (k12 hb hg) ⟨rfl, rfl⟩ (by decide) ⟨Nat.le_of_ble_eq_true rfl, Nat.le_of_ble_eq_true rfl⟩ rfl (Nat.le_of_ble_eq_true rfl) dX9_init_137 rfl ?_ (Or.inr (by rw [mc85, mc93]))
  refine w_aastB (M1 := mm94) hB hb (c := 6) (ci := 5) sh_74 (by decide) (by rw [mc93]; decide) sh_107 (by rw [mc93]; decide) rfl (by decide) rfl sl_74 (by decide) (by rw [show (2 : Int32).toNatClampNeg = 2 by decide]; rfl) dX9_init_140 ?_
  refine w_iinc hB 0 (v := 1) (L' := [(1, vi 3), (0, vr 66)]) dX9_init_141 rfl (by decide) (by decide) (by decide) rfl ?_
  refine w_goto hB 122 dX9_init_144 (by decide) ?_
  refine w_iload_n hB 0 dX9_init_122 rfl rfl ?_
  refine w_bipush hB 8 (by decide) dX9_init_123 ?_
  refine w_icmp_ge hB 147 dX9_init_125 (by decide) (fun hc => absurd hc (by decide)) (fun _ => ?_)
  refine w_aload_n hB 1 dX9_init_128 rfl rfl ?_
  refine w_getRB (v := 74) hB ff_X9_12 sh_66 (by rw [mc94]; decide) (by decide +kernel) q_234 dX9_init_129 ?_
  refine w_iload_n hB 0 dX9_init_132 rfl rfl ?_
  refine w_newB hB hb (ci := 5) (N := 12) (n := 112) tyX6 rfl inG_X6 tyX6_ok dz_X6 q_72 q_119 q_14 (by rw [mc94]) sh_112 (by decide) sgm94.2 ⟨Nat.le_of_ble_eq_true rfl, Nat.le_of_ble_eq_true rfl⟩ dX9_init_133 ?_
  refine Wt.mem (M1 := mm95) rfl ?_
  refine w_dup hB rfl dX9_init_136 ?_
  refine w_callIN (M1 := mm103) hB (n := 112) (As := []) (st := [vr 112, vi 3, vr 74]) (na := 0) hg.2.1.2.2.2.1 q_14 q_122 ⟨by decide +kernel, by decide +kernel⟩ rfl q_121 (Or.inl (by decide)) (k13 hb hg) ⟨rfl, rfl⟩ (by decide) ⟨Nat.le_of_ble_eq_true rfl, Nat.le_of_ble_eq_true rfl⟩ rfl (Nat.le_of_ble_eq_true rfl) dX9_init_137 rfl ?_ (Or.inr (by rw [mc95, mc103]))
  refine w_aastB (M1 := mm104) hB hb (c := 6) (ci := 5) sh_74 (by decide) (by rw [mc103]; decide) sh_112 (by rw [mc103]; decide) rfl (by decide) rfl sl_74 (by decide) (by rw [show (3 : Int32).toNatClampNeg = 3 by decide]; rfl) dX9_init_140 ?_
  refine w_iinc hB 0 (v := 1) (L' := [(1, vi 4), (0, vr 66)]) dX9_init_141 rfl (by decide) (by decide) (by decide) rfl ?_
  refine w_goto hB 122 dX9_init_144 (by decide) ?_
  refine w_iload_n hB 0 dX9_init_122 rfl rfl ?_
  refine w_bipush hB 8 (by decide) dX9_init_123 ?_
  refine w_icmp_ge hB 147 dX9_init_125 (by decide) (fun hc => absurd hc (by decide)) (fun _ => ?_)
  refine w_aload_n hB 1 dX9_init_128 rfl rfl ?_
  refine w_getRB (v := 74) hB ff_X9_12 sh_66 (by rw [mc104]; decide) (by decide +kernel) q_234 dX9_init_129 ?_
  refine w_iload_n hB 0 dX9_init_132 rfl rfl ?_
  refine w_newB hB hb (ci := 5) (N := 12) (n := 117) tyX6 rfl inG_X6 tyX6_ok dz_X6 q_72 q_119 q_14 (by rw [mc104]) sh_117 (by decide) sgm104.2 ⟨Nat.le_of_ble_eq_true rfl, Nat.le_of_ble_eq_true rfl⟩ dX9_init_133 ?_
  refine Wt.mem (M1 := mm105) rfl ?_
  refine w_dup hB rfl dX9_init_136 ?_
  refine w_callIN (M1 := mm113) hB (n := 117) (As := []) (st := [vr 117, vi 4, vr 74]) (na := 0) hg.2.1.2.2.2.1 q_14 q_122 ⟨by decide +kernel, by decide +kernel⟩ rfl q_121 (Or.inl (by decide)) (k14 hb hg) ⟨rfl, rfl⟩ (by decide) ⟨Nat.le_of_ble_eq_true rfl, Nat.le_of_ble_eq_true rfl⟩ rfl (Nat.le_of_ble_eq_true rfl) dX9_init_137 rfl ?_ (Or.inr (by rw [mc105, mc113]))
  refine w_aastB (M1 := mm114) hB hb (c := 6) (ci := 5) sh_74 (by decide) (by rw [mc113]; decide) sh_117 (by rw [mc113]; decide) rfl (by decide) rfl sl_74 (by decide) (by rw [show (4 : Int32).toNatClampNeg = 4 by decide]; rfl) dX9_init_140 ?_
  refine w_iinc hB 0 (v := 1) (L' := [(1, vi 5), (0, vr 66)]) dX9_init_141 rfl (by decide) (by decide) (by decide) rfl ?_
  refine w_goto hB 122 dX9_init_144 (by decide) ?_
  refine w_iload_n hB 0 dX9_init_122 rfl rfl ?_
  refine w_bipush hB 8 (by decide) dX9_init_123 ?_
  refine w_icmp_ge hB 147 dX9_init_125 (by decide) (fun hc => absurd hc (by decide)) (fun _ => ?_)
  refine w_aload_n hB 1 dX9_init_128 rfl rfl ?_
  refine w_getRB (v := 74) hB ff_X9_12 sh_66 (by rw [mc114]; decide) (by decide +kernel) q_234 dX9_init_129 ?_
  refine w_iload_n hB 0 dX9_init_132 rfl rfl ?_
  refine w_newB hB hb (ci := 5) (N := 12) (n := 122) tyX6 rfl inG_X6 tyX6_ok dz_X6 q_72 q_119 q_14 (by rw [mc114]) sh_122 (by decide) sgm114.2 ⟨Nat.le_of_ble_eq_true rfl, Nat.le_of_ble_eq_true rfl⟩ dX9_init_133 ?_
  refine Wt.mem (M1 := mm115) rfl ?_
  refine w_dup hB rfl dX9_init_136 ?_
  refine w_callIN (M1 := mm123) hB (n := 122) (As := []) (st := [vr 122, vi 5, vr 74]) (na := 0) hg.2.1.2.2.2.1 q_14 q_122 ⟨by decide +kernel, by decide +kernel⟩ rfl q_121 (Or.inl (by decide)) (k15 hb hg) ⟨rfl, rfl⟩ (by decide) ⟨Nat.le_of_ble_eq_true rfl, Nat.le_of_ble_eq_true rfl⟩ rfl (Nat.le_of_ble_eq_true rfl) dX9_init_137 rfl ?_ (Or.inr (by rw [mc115, mc123]))
  refine w_aastB (M1 := mm124) hB hb (c := 6) (ci := 5) sh_74 (by decide) (by rw [mc123]; decide) sh_122 (by rw [mc123]; decide) rfl (by decide) rfl sl_74 (by decide) (by rw [show (5 : Int32).toNatClampNeg = 5 by decide]; rfl) dX9_init_140 ?_
  refine w_iinc hB 0 (v := 1) (L' := [(1, vi 6), (0, vr 66)]) dX9_init_141 rfl (by decide) (by decide) (by decide) rfl ?_
  refine w_goto hB 122 dX9_init_144 (by decide) ?_
  refine w_iload_n hB 0 dX9_init_122 rfl rfl ?_
  refine w_bipush hB 8 (by decide) dX9_init_123 ?_
  refine w_icmp_ge hB 147 dX9_init_125 (by decide) (fun hc => absurd hc (by decide)) (fun _ => ?_)
  refine w_aload_n hB 1 dX9_init_128 rfl rfl ?_
  refine w_getRB (v := 74) hB ff_X9_12 sh_66 (by rw [mc124]; decide) (by decide +kernel) q_234 dX9_init_129 ?_
  refine w_iload_n hB 0 dX9_init_132 rfl rfl ?_
  refine w_newB hB hb (ci := 5) (N := 12) (n := 127) tyX6 rfl inG_X6 tyX6_ok dz_X6 q_72 q_119 q_14 (by rw [mc124]) sh_127 (by decide) sgm124.2 ⟨Nat.le_of_ble_eq_true rfl, Nat.le_of_ble_eq_true rfl⟩ dX9_init_133 ?_
  refine Wt.mem (M1 := mm125) rfl ?_
  refine w_dup hB rfl dX9_init_136 ?_
  refine w_callIN (M1 := mm133) hB (n := 127) (As := []) (st := [vr 127, vi 6, vr 74]) (na := 0) hg.2.1.2.2.2.1 q_14 q_122 ⟨by decide +kernel, by decide +kernel⟩ rfl q_121 (Or.inl (by decide)) (k16 hb hg) ⟨rfl, rfl⟩ (by decide) ⟨Nat.le_of_ble_eq_true rfl, Nat.le_of_ble_eq_true rfl⟩ rfl (Nat.le_of_ble_eq_true rfl) dX9_init_137 rfl ?_ (Or.inr (by rw [mc125, mc133]))
  refine w_aastB (M1 := mm134) hB hb (c := 6) (ci := 5) sh_74 (by decide) (by rw [mc133]; decide) sh_127 (by rw [mc133]; decide) rfl (by decide) rfl sl_74 (by decide) (by rw [show (6 : Int32).toNatClampNeg = 6 by decide]; rfl) dX9_init_140 ?_
  refine w_iinc hB 0 (v := 1) (L' := [(1, vi 7), (0, vr 66)]) dX9_init_141 rfl (by decide) (by decide) (by decide) rfl ?_
  refine w_goto hB 122 dX9_init_144 (by decide) ?_
  refine w_iload_n hB 0 dX9_init_122 rfl rfl ?_
  refine w_bipush hB 8 (by decide) dX9_init_123 ?_
  refine w_icmp_ge hB 147 dX9_init_125 (by decide) (fun hc => absurd hc (by decide)) (fun _ => ?_)
  refine w_aload_n hB 1 dX9_init_128 rfl rfl ?_
  refine w_getRB (v := 74) hB ff_X9_12 sh_66 (by rw [mc134]; decide) (by decide +kernel) q_234 dX9_init_129 ?_
  refine w_iload_n hB 0 dX9_init_132 rfl rfl ?_
  refine w_newB hB hb (ci := 5) (N := 12) (n := 132) tyX6 rfl inG_X6 tyX6_ok dz_X6 q_72 q_119 q_14 (by rw [mc134]) sh_132 (by decide) sgm134.2 ⟨Nat.le_of_ble_eq_true rfl, Nat.le_of_ble_eq_true rfl⟩ dX9_init_133 ?_
  refine Wt.mem (M1 := mm135) rfl ?_
  refine w_dup hB rfl dX9_init_136 ?_
  refine w_callIN (M1 := mm143) hB (n := 132) (As := []) (st := [vr 132, vi 7, vr 74]) (na := 0) hg.2.1.2.2.2.1 q_14 q_122 ⟨by decide +kernel, by decide +kernel⟩ rfl q_121 (Or.inl (by decide)) (k17 hb hg) ⟨rfl, rfl⟩ (by decide) ⟨Nat.le_of_ble_eq_true rfl, Nat.le_of_ble_eq_true rfl⟩ rfl (Nat.le_of_ble_eq_true rfl) dX9_init_137 rfl ?_ (Or.inr (by rw [mc135, mc143]))
  refine w_aastB (M1 := mm144) hB hb (c := 6) (ci := 5) sh_74 (by decide) (by rw [mc143]; decide) sh_132 (by rw [mc143]; decide) rfl (by decide) rfl sl_74 (by decide) (by rw [show (7 : Int32).toNatClampNeg = 7 by decide]; rfl) dX9_init_140 ?_
  refine w_iinc hB 0 (v := 1) (L' := [(1, vi 8), (0, vr 66)]) dX9_init_141 rfl (by decide) (by decide) (by decide) rfl ?_
  refine w_goto hB 122 dX9_init_144 (by decide) ?_
  refine w_iload_n hB 0 dX9_init_122 rfl rfl ?_
  refine w_bipush hB 8 (by decide) dX9_init_123 ?_
  refine w_icmp_ge hB 147 dX9_init_125 (by decide) (fun _ => ?_) (fun hc => absurd (by decide) hc)
  refine w_aload_n hB 1 dX9_init_147 rfl rfl ?_
  refine w_callV (M1 := mm166) hB (ci := 7) (As := []) (st := []) cw_X9_52 q_185 q_186 rfl (smM sh_66 (by decide) (by rw [mc144]; decide)) (k19 hb hg) ⟨rfl, rfl⟩ (by decide) ⟨Nat.le_of_ble_eq_true rfl, Nat.le_of_ble_eq_true rfl⟩ rfl (Nat.le_of_ble_eq_true rfl) dX9_init_148 rfl ?_ (Or.inl rfl)
  exact w_vret hB dX9_init_151
set_option maxRecDepth 100000 in
set_option maxHeartbeats 4000000 in
theorem k21 {K : Kt} {l : Launch} (hb : kP K = true) (hg : KBd K) : MT K l yX2_init cX2_init 1 none { frames := 1, cells := 1, slots := 100, locals := 20 } [vr 140] mm173 none mm175 1 100 := by
  refine MT_of (by decide) rfl (Nat.le_of_ble_eq_true rfl) (fun X _ hB hi => ?_)
  refine w_aload_n hB 0 dX2_init_0 rfl rfl ?_
  refine w_objinit hB (Or.inl (by decide)) q_56 q_43 q_oc (by decide) dX2_init_1 ?_
  refine w_aload_n hB 0 dX2_init_4 rfl rfl ?_
  refine w_bipush hB 100 (by decide) dX2_init_5 ?_
  refine w_newI hB hb (n := 141) sh_141 sl_141 sgm173.2 (by rw [mc173]) (by decide) (by decide) ⟨Nat.le_of_ble_eq_true rfl, Nat.le_of_ble_eq_true rfl⟩ dX2_init_7 ?_
  refine Wt.mem (M1 := mm174) rfl ?_
  refine w_putRF (M1 := mm175) (ty := .array .int) hB hb ff_X2_0 (hi rfl) sh_140 (by rw [mc174]; decide) q_57 (by decide +kernel) (nar_arr _ _) (fit_arr _ _) rfl dX2_init_9 ?_
  exact w_vret hB dX2_init_12
set_option maxRecDepth 100000 in
set_option maxHeartbeats 4000000 in
theorem k22 {K : Kt} {l : Launch} (hb : kP K = true) (hg : KBd K) : MT K l yX5_init cX5_init 1 none { frames := 1, cells := 2, slots := 6, locals := 20 } [vr 147] mm187 none mm191 2 6 := by
  refine MT_of (by decide) rfl (Nat.le_of_ble_eq_true rfl) (fun X _ hB hi => ?_)
  refine w_aload_n hB 0 dX5_init_0 rfl rfl ?_
  refine w_objinit hB (Or.inl (by decide)) q_78 q_43 q_oc (by decide) dX5_init_1 ?_
  refine w_aload_n hB 0 dX5_init_4 rfl rfl ?_
  refine w_iconst hB 3 (by decide) dX5_init_5 ?_
  refine w_newI hB hb (n := 148) sh_148 sl_148 sgm187.2 (by rw [mc187]) (by decide) (by decide) ⟨Nat.le_of_ble_eq_true rfl, Nat.le_of_ble_eq_true rfl⟩ dX5_init_6 ?_
  refine Wt.mem (M1 := mm188) rfl ?_
  refine w_putRF (M1 := mm189) (ty := .array .int) hB hb ff_X5_4 (hi rfl) sh_147 (by rw [mc188]; decide) q_84 (by decide +kernel) (nar_arr _ _) (fit_arr _ _) rfl dX5_init_8 ?_
  refine w_aload_n hB 0 dX5_init_11 rfl rfl ?_
  refine w_iconst hB 3 (by decide) dX5_init_12 ?_
  refine w_newI hB hb (n := 149) sh_149 sl_149 sgm189.2 (by rw [mc189]) (by decide) (by decide) ⟨Nat.le_of_ble_eq_true rfl, Nat.le_of_ble_eq_true rfl⟩ dX5_init_13 ?_
  refine Wt.mem (M1 := mm190) rfl ?_
  refine w_putRF (M1 := mm191) (ty := .array .int) hB hb ff_X5_5 (hi rfl) sh_147 (by rw [mc190]; decide) q_87 (by decide +kernel) (nar_arr _ _) (fit_arr _ _) rfl dX5_init_15 ?_
  exact w_vret hB dX5_init_18
set_option maxRecDepth 100000 in
set_option maxHeartbeats 4000000 in
theorem k23 {K : Kt} {l : Launch} (hb : kP K = true) (hg : KBd K) : MT K l yX5_init cX5_init 1 none { frames := 1, cells := 2, slots := 6, locals := 20 } [vr 150] mm193 none mm197 2 6 := by
  refine MT_of (by decide) rfl (Nat.le_of_ble_eq_true rfl) (fun X _ hB hi => ?_)
  refine w_aload_n hB 0 dX5_init_0 rfl rfl ?_
  refine w_objinit hB (Or.inl (by decide)) q_78 q_43 q_oc (by decide) dX5_init_1 ?_
  refine w_aload_n hB 0 dX5_init_4 rfl rfl ?_
  refine w_iconst hB 3 (by decide) dX5_init_5 ?_
  refine w_newI hB hb (n := 151) sh_151 sl_151 sgm193.2 (by rw [mc193]) (by decide) (by decide) ⟨Nat.le_of_ble_eq_true rfl, Nat.le_of_ble_eq_true rfl⟩ dX5_init_6 ?_
  refine Wt.mem (M1 := mm194) rfl ?_
  refine w_putRF (M1 := mm195) (ty := .array .int) hB hb ff_X5_4 (hi rfl) sh_150 (by rw [mc194]; decide) q_84 (by decide +kernel) (nar_arr _ _) (fit_arr _ _) rfl dX5_init_8 ?_
  refine w_aload_n hB 0 dX5_init_11 rfl rfl ?_
  refine w_iconst hB 3 (by decide) dX5_init_12 ?_
  refine w_newI hB hb (n := 152) sh_152 sl_152 sgm195.2 (by rw [mc195]) (by decide) (by decide) ⟨Nat.le_of_ble_eq_true rfl, Nat.le_of_ble_eq_true rfl⟩ dX5_init_13 ?_
  refine Wt.mem (M1 := mm196) rfl ?_
  refine w_putRF (M1 := mm197) (ty := .array .int) hB hb ff_X5_5 (hi rfl) sh_150 (by rw [mc196]; decide) q_87 (by decide +kernel) (nar_arr _ _) (fit_arr _ _) rfl dX5_init_15 ?_
  exact w_vret hB dX5_init_18
set_option maxRecDepth 100000 in
set_option maxHeartbeats 4000000 in
theorem k24 {K : Kt} {l : Launch} (hb : kP K = true) (hg : KBd K) : MT K l yX5_init cX5_init 1 none { frames := 1, cells := 2, slots := 6, locals := 20 } [vr 153] mm199 none mm203 2 6 := by
  refine MT_of (by decide) rfl (Nat.le_of_ble_eq_true rfl) (fun X _ hB hi => ?_)
  refine w_aload_n hB 0 dX5_init_0 rfl rfl ?_
  refine w_objinit hB (Or.inl (by decide)) q_78 q_43 q_oc (by decide) dX5_init_1 ?_
  refine w_aload_n hB 0 dX5_init_4 rfl rfl ?_
  refine w_iconst hB 3 (by decide) dX5_init_5 ?_
  refine w_newI hB hb (n := 154) sh_154 sl_154 sgm199.2 (by rw [mc199]) (by decide) (by decide) ⟨Nat.le_of_ble_eq_true rfl, Nat.le_of_ble_eq_true rfl⟩ dX5_init_6 ?_
  refine Wt.mem (M1 := mm200) rfl ?_
  refine w_putRF (M1 := mm201) (ty := .array .int) hB hb ff_X5_4 (hi rfl) sh_153 (by rw [mc200]; decide) q_84 (by decide +kernel) (nar_arr _ _) (fit_arr _ _) rfl dX5_init_8 ?_
  refine w_aload_n hB 0 dX5_init_11 rfl rfl ?_
  refine w_iconst hB 3 (by decide) dX5_init_12 ?_
  refine w_newI hB hb (n := 155) sh_155 sl_155 sgm201.2 (by rw [mc201]) (by decide) (by decide) ⟨Nat.le_of_ble_eq_true rfl, Nat.le_of_ble_eq_true rfl⟩ dX5_init_13 ?_
  refine Wt.mem (M1 := mm202) rfl ?_
  refine w_putRF (M1 := mm203) (ty := .array .int) hB hb ff_X5_5 (hi rfl) sh_153 (by rw [mc202]; decide) q_87 (by decide +kernel) (nar_arr _ _) (fit_arr _ _) rfl dX5_init_15 ?_
  exact w_vret hB dX5_init_18
set_option maxRecDepth 100000 in
set_option maxHeartbeats 4000000 in
theorem k25 {K : Kt} {l : Launch} (hb : kP K = true) (hg : KBd K) : MT K l yX5_init cX5_init 1 none { frames := 1, cells := 2, slots := 6, locals := 20 } [vr 156] mm205 none mm209 2 6 := by
  refine MT_of (by decide) rfl (Nat.le_of_ble_eq_true rfl) (fun X _ hB hi => ?_)
  refine w_aload_n hB 0 dX5_init_0 rfl rfl ?_
  refine w_objinit hB (Or.inl (by decide)) q_78 q_43 q_oc (by decide) dX5_init_1 ?_
  refine w_aload_n hB 0 dX5_init_4 rfl rfl ?_
  refine w_iconst hB 3 (by decide) dX5_init_5 ?_
  refine w_newI hB hb (n := 157) sh_157 sl_157 sgm205.2 (by rw [mc205]) (by decide) (by decide) ⟨Nat.le_of_ble_eq_true rfl, Nat.le_of_ble_eq_true rfl⟩ dX5_init_6 ?_
  refine Wt.mem (M1 := mm206) rfl ?_
  refine w_putRF (M1 := mm207) (ty := .array .int) hB hb ff_X5_4 (hi rfl) sh_156 (by rw [mc206]; decide) q_84 (by decide +kernel) (nar_arr _ _) (fit_arr _ _) rfl dX5_init_8 ?_
  refine w_aload_n hB 0 dX5_init_11 rfl rfl ?_
  refine w_iconst hB 3 (by decide) dX5_init_12 ?_
  refine w_newI hB hb (n := 158) sh_158 sl_158 sgm207.2 (by rw [mc207]) (by decide) (by decide) ⟨Nat.le_of_ble_eq_true rfl, Nat.le_of_ble_eq_true rfl⟩ dX5_init_13 ?_
  refine Wt.mem (M1 := mm208) rfl ?_
  refine w_putRF (M1 := mm209) (ty := .array .int) hB hb ff_X5_5 (hi rfl) sh_156 (by rw [mc208]; decide) q_87 (by decide +kernel) (nar_arr _ _) (fit_arr _ _) rfl dX5_init_15 ?_
  exact w_vret hB dX5_init_18
set_option maxRecDepth 100000 in
set_option maxHeartbeats 4000000 in
theorem k26 {K : Kt} {l : Launch} (hb : kP K = true) (hg : KBd K) : MT K l yX5_init cX5_init 1 none { frames := 1, cells := 2, slots := 6, locals := 20 } [vr 159] mm211 none mm215 2 6 := by
  refine MT_of (by decide) rfl (Nat.le_of_ble_eq_true rfl) (fun X _ hB hi => ?_)
  refine w_aload_n hB 0 dX5_init_0 rfl rfl ?_
  refine w_objinit hB (Or.inl (by decide)) q_78 q_43 q_oc (by decide) dX5_init_1 ?_
  refine w_aload_n hB 0 dX5_init_4 rfl rfl ?_
  refine w_iconst hB 3 (by decide) dX5_init_5 ?_
  refine w_newI hB hb (n := 160) sh_160 sl_160 sgm211.2 (by rw [mc211]) (by decide) (by decide) ⟨Nat.le_of_ble_eq_true rfl, Nat.le_of_ble_eq_true rfl⟩ dX5_init_6 ?_
  refine Wt.mem (M1 := mm212) rfl ?_
  refine w_putRF (M1 := mm213) (ty := .array .int) hB hb ff_X5_4 (hi rfl) sh_159 (by rw [mc212]; decide) q_84 (by decide +kernel) (nar_arr _ _) (fit_arr _ _) rfl dX5_init_8 ?_
  refine w_aload_n hB 0 dX5_init_11 rfl rfl ?_
  refine w_iconst hB 3 (by decide) dX5_init_12 ?_
  refine w_newI hB hb (n := 161) sh_161 sl_161 sgm213.2 (by rw [mc213]) (by decide) (by decide) ⟨Nat.le_of_ble_eq_true rfl, Nat.le_of_ble_eq_true rfl⟩ dX5_init_13 ?_
  refine Wt.mem (M1 := mm214) rfl ?_
  refine w_putRF (M1 := mm215) (ty := .array .int) hB hb ff_X5_5 (hi rfl) sh_159 (by rw [mc214]; decide) q_87 (by decide +kernel) (nar_arr _ _) (fit_arr _ _) rfl dX5_init_15 ?_
  exact w_vret hB dX5_init_18
set_option maxRecDepth 100000 in
set_option maxHeartbeats 4000000 in
theorem k27 {K : Kt} {l : Launch} (hb : kP K = true) (hg : KBd K) : MT K l yX1_init cX1_init 1 none { frames := 1, cells := 1, slots := 7, locals := 20 } [vr 162] mm217 none mm219 1 7 := by
  refine MT_of (by decide) rfl (Nat.le_of_ble_eq_true rfl) (fun X _ hB hi => ?_)
  refine w_aload_n hB 0 dX1_init_0 rfl rfl ?_
  refine w_objinit hB (Or.inl (by decide)) q_107 q_43 q_oc (by decide) dX1_init_1 ?_
  refine w_aload_n hB 0 dX1_init_4 rfl rfl ?_
  refine w_bipush hB 7 (by decide) dX1_init_5 ?_
  refine w_newI hB hb (n := 163) sh_163 sl_163 sgm217.2 (by rw [mc217]) (by decide) (by decide) ⟨Nat.le_of_ble_eq_true rfl, Nat.le_of_ble_eq_true rfl⟩ dX1_init_7 ?_
  refine Wt.mem (M1 := mm218) rfl ?_
  refine w_putRF (M1 := mm219) (ty := .array .int) hB hb ff_X1_2 (hi rfl) sh_162 (by rw [mc218]; decide) q_110 (by decide +kernel) (nar_arr _ _) (fit_arr _ _) rfl dX1_init_9 ?_
  exact w_vret hB dX1_init_12
set_option maxRecDepth 100000 in
set_option maxHeartbeats 4000000 in
theorem k28 {K : Kt} {l : Launch} (hb : kP K = true) (hg : KBd K) : MT K l yX1_init cX1_init 1 none { frames := 1, cells := 1, slots := 7, locals := 20 } [vr 164] mm221 none mm223 1 7 := by
  refine MT_of (by decide) rfl (Nat.le_of_ble_eq_true rfl) (fun X _ hB hi => ?_)
  refine w_aload_n hB 0 dX1_init_0 rfl rfl ?_
  refine w_objinit hB (Or.inl (by decide)) q_107 q_43 q_oc (by decide) dX1_init_1 ?_
  refine w_aload_n hB 0 dX1_init_4 rfl rfl ?_
  refine w_bipush hB 7 (by decide) dX1_init_5 ?_
  refine w_newI hB hb (n := 165) sh_165 sl_165 sgm221.2 (by rw [mc221]) (by decide) (by decide) ⟨Nat.le_of_ble_eq_true rfl, Nat.le_of_ble_eq_true rfl⟩ dX1_init_7 ?_
  refine Wt.mem (M1 := mm222) rfl ?_
  refine w_putRF (M1 := mm223) (ty := .array .int) hB hb ff_X1_2 (hi rfl) sh_164 (by rw [mc222]; decide) q_110 (by decide +kernel) (nar_arr _ _) (fit_arr _ _) rfl dX1_init_9 ?_
  exact w_vret hB dX1_init_12
set_option maxRecDepth 100000 in
set_option maxHeartbeats 4000000 in
theorem k29 {K : Kt} {l : Launch} (hb : kP K = true) (hg : KBd K) : MT K l yX1_init cX1_init 1 none { frames := 1, cells := 1, slots := 7, locals := 20 } [vr 166] mm225 none mm227 1 7 := by
  refine MT_of (by decide) rfl (Nat.le_of_ble_eq_true rfl) (fun X _ hB hi => ?_)
  refine w_aload_n hB 0 dX1_init_0 rfl rfl ?_
  refine w_objinit hB (Or.inl (by decide)) q_107 q_43 q_oc (by decide) dX1_init_1 ?_
  refine w_aload_n hB 0 dX1_init_4 rfl rfl ?_
  refine w_bipush hB 7 (by decide) dX1_init_5 ?_
  refine w_newI hB hb (n := 167) sh_167 sl_167 sgm225.2 (by rw [mc225]) (by decide) (by decide) ⟨Nat.le_of_ble_eq_true rfl, Nat.le_of_ble_eq_true rfl⟩ dX1_init_7 ?_
  refine Wt.mem (M1 := mm226) rfl ?_
  refine w_putRF (M1 := mm227) (ty := .array .int) hB hb ff_X1_2 (hi rfl) sh_166 (by rw [mc226]; decide) q_110 (by decide +kernel) (nar_arr _ _) (fit_arr _ _) rfl dX1_init_9 ?_
  exact w_vret hB dX1_init_12
set_option maxRecDepth 100000 in
set_option maxHeartbeats 4000000 in
theorem k30 {K : Kt} {l : Launch} (hb : kP K = true) (hg : KBd K) : MT K l yX6_init cX6_init 1 none { frames := 1, cells := 4, slots := 40, locals := 20 } [vr 168] mm229 none mm237 4 40 := by
  refine MT_of (by decide) rfl (Nat.le_of_ble_eq_true rfl) (fun X _ hB hi => ?_)
  refine w_aload_n hB 0 dX6_init_0 rfl rfl ?_
  refine w_objinit hB (Or.inl (by decide)) q_123 q_43 q_oc (by decide) dX6_init_1 ?_
  refine w_aload_n hB 0 dX6_init_4 rfl rfl ?_
  refine w_bipush hB 10 (by decide) dX6_init_5 ?_
  refine w_newI hB hb (n := 169) sh_169 sl_169 sgm229.2 (by rw [mc229]) (by decide) (by decide) ⟨Nat.le_of_ble_eq_true rfl, Nat.le_of_ble_eq_true rfl⟩ dX6_init_7 ?_
  refine Wt.mem (M1 := mm230) rfl ?_
  refine w_putRF (M1 := mm231) (ty := .array .int) hB hb ff_X6_6 (hi rfl) sh_168 (by rw [mc230]; decide) q_139 (by decide +kernel) (nar_arr _ _) (fit_arr _ _) rfl dX6_init_9 ?_
  refine w_aload_n hB 0 dX6_init_12 rfl rfl ?_
  refine w_bipush hB 10 (by decide) dX6_init_13 ?_
  refine w_newI hB hb (n := 170) sh_170 sl_170 sgm231.2 (by rw [mc231]) (by decide) (by decide) ⟨Nat.le_of_ble_eq_true rfl, Nat.le_of_ble_eq_true rfl⟩ dX6_init_15 ?_
  refine Wt.mem (M1 := mm232) rfl ?_
  refine w_putRF (M1 := mm233) (ty := .array .int) hB hb ff_X6_7 (hi rfl) sh_168 (by rw [mc232]; decide) q_143 (by decide +kernel) (nar_arr _ _) (fit_arr _ _) rfl dX6_init_17 ?_
  refine w_aload_n hB 0 dX6_init_20 rfl rfl ?_
  refine w_bipush hB 10 (by decide) dX6_init_21 ?_
  refine w_newI hB hb (n := 171) sh_171 sl_171 sgm233.2 (by rw [mc233]) (by decide) (by decide) ⟨Nat.le_of_ble_eq_true rfl, Nat.le_of_ble_eq_true rfl⟩ dX6_init_23 ?_
  refine Wt.mem (M1 := mm234) rfl ?_
  refine w_putRF (M1 := mm235) (ty := .array .int) hB hb ff_X6_8 (hi rfl) sh_168 (by rw [mc234]; decide) q_147 (by decide +kernel) (nar_arr _ _) (fit_arr _ _) rfl dX6_init_25 ?_
  refine w_aload_n hB 0 dX6_init_28 rfl rfl ?_
  refine w_bipush hB 10 (by decide) dX6_init_29 ?_
  refine w_newI hB hb (n := 172) sh_172 sl_172 sgm235.2 (by rw [mc235]) (by decide) (by decide) ⟨Nat.le_of_ble_eq_true rfl, Nat.le_of_ble_eq_true rfl⟩ dX6_init_31 ?_
  refine Wt.mem (M1 := mm236) rfl ?_
  refine w_putRF (M1 := mm237) (ty := .array .int) hB hb ff_X6_9 (hi rfl) sh_168 (by rw [mc236]; decide) q_151 (by decide +kernel) (nar_arr _ _) (fit_arr _ _) rfl dX6_init_33 ?_
  exact w_vret hB dX6_init_36
set_option maxRecDepth 100000 in
set_option maxHeartbeats 4000000 in
theorem k31 {K : Kt} {l : Launch} (hb : kP K = true) (hg : KBd K) : MT K l yX6_init cX6_init 1 none { frames := 1, cells := 4, slots := 40, locals := 20 } [vr 173] mm239 none mm247 4 40 := by
  refine MT_of (by decide) rfl (Nat.le_of_ble_eq_true rfl) (fun X _ hB hi => ?_)
  refine w_aload_n hB 0 dX6_init_0 rfl rfl ?_
  refine w_objinit hB (Or.inl (by decide)) q_123 q_43 q_oc (by decide) dX6_init_1 ?_
  refine w_aload_n hB 0 dX6_init_4 rfl rfl ?_
  refine w_bipush hB 10 (by decide) dX6_init_5 ?_
  refine w_newI hB hb (n := 174) sh_174 sl_174 sgm239.2 (by rw [mc239]) (by decide) (by decide) ⟨Nat.le_of_ble_eq_true rfl, Nat.le_of_ble_eq_true rfl⟩ dX6_init_7 ?_
  refine Wt.mem (M1 := mm240) rfl ?_
  refine w_putRF (M1 := mm241) (ty := .array .int) hB hb ff_X6_6 (hi rfl) sh_173 (by rw [mc240]; decide) q_139 (by decide +kernel) (nar_arr _ _) (fit_arr _ _) rfl dX6_init_9 ?_
  refine w_aload_n hB 0 dX6_init_12 rfl rfl ?_
  refine w_bipush hB 10 (by decide) dX6_init_13 ?_
  refine w_newI hB hb (n := 175) sh_175 sl_175 sgm241.2 (by rw [mc241]) (by decide) (by decide) ⟨Nat.le_of_ble_eq_true rfl, Nat.le_of_ble_eq_true rfl⟩ dX6_init_15 ?_
  refine Wt.mem (M1 := mm242) rfl ?_
  refine w_putRF (M1 := mm243) (ty := .array .int) hB hb ff_X6_7 (hi rfl) sh_173 (by rw [mc242]; decide) q_143 (by decide +kernel) (nar_arr _ _) (fit_arr _ _) rfl dX6_init_17 ?_
  refine w_aload_n hB 0 dX6_init_20 rfl rfl ?_
  refine w_bipush hB 10 (by decide) dX6_init_21 ?_
  refine w_newI hB hb (n := 176) sh_176 sl_176 sgm243.2 (by rw [mc243]) (by decide) (by decide) ⟨Nat.le_of_ble_eq_true rfl, Nat.le_of_ble_eq_true rfl⟩ dX6_init_23 ?_
  refine Wt.mem (M1 := mm244) rfl ?_
  refine w_putRF (M1 := mm245) (ty := .array .int) hB hb ff_X6_8 (hi rfl) sh_173 (by rw [mc244]; decide) q_147 (by decide +kernel) (nar_arr _ _) (fit_arr _ _) rfl dX6_init_25 ?_
  refine w_aload_n hB 0 dX6_init_28 rfl rfl ?_
  refine w_bipush hB 10 (by decide) dX6_init_29 ?_
  refine w_newI hB hb (n := 177) sh_177 sl_177 sgm245.2 (by rw [mc245]) (by decide) (by decide) ⟨Nat.le_of_ble_eq_true rfl, Nat.le_of_ble_eq_true rfl⟩ dX6_init_31 ?_
  refine Wt.mem (M1 := mm246) rfl ?_
  refine w_putRF (M1 := mm247) (ty := .array .int) hB hb ff_X6_9 (hi rfl) sh_173 (by rw [mc246]; decide) q_151 (by decide +kernel) (nar_arr _ _) (fit_arr _ _) rfl dX6_init_33 ?_
  exact w_vret hB dX6_init_36
set_option maxRecDepth 100000 in
set_option maxHeartbeats 4000000 in
theorem k32 {K : Kt} {l : Launch} (hb : kP K = true) (hg : KBd K) : MT K l yX6_init cX6_init 1 none { frames := 1, cells := 4, slots := 40, locals := 20 } [vr 178] mm249 none mm257 4 40 := by
  refine MT_of (by decide) rfl (Nat.le_of_ble_eq_true rfl) (fun X _ hB hi => ?_)
  refine w_aload_n hB 0 dX6_init_0 rfl rfl ?_
  refine w_objinit hB (Or.inl (by decide)) q_123 q_43 q_oc (by decide) dX6_init_1 ?_
  refine w_aload_n hB 0 dX6_init_4 rfl rfl ?_
  refine w_bipush hB 10 (by decide) dX6_init_5 ?_
  refine w_newI hB hb (n := 179) sh_179 sl_179 sgm249.2 (by rw [mc249]) (by decide) (by decide) ⟨Nat.le_of_ble_eq_true rfl, Nat.le_of_ble_eq_true rfl⟩ dX6_init_7 ?_
  refine Wt.mem (M1 := mm250) rfl ?_
  refine w_putRF (M1 := mm251) (ty := .array .int) hB hb ff_X6_6 (hi rfl) sh_178 (by rw [mc250]; decide) q_139 (by decide +kernel) (nar_arr _ _) (fit_arr _ _) rfl dX6_init_9 ?_
  refine w_aload_n hB 0 dX6_init_12 rfl rfl ?_
  refine w_bipush hB 10 (by decide) dX6_init_13 ?_
  refine w_newI hB hb (n := 180) sh_180 sl_180 sgm251.2 (by rw [mc251]) (by decide) (by decide) ⟨Nat.le_of_ble_eq_true rfl, Nat.le_of_ble_eq_true rfl⟩ dX6_init_15 ?_
  refine Wt.mem (M1 := mm252) rfl ?_
  refine w_putRF (M1 := mm253) (ty := .array .int) hB hb ff_X6_7 (hi rfl) sh_178 (by rw [mc252]; decide) q_143 (by decide +kernel) (nar_arr _ _) (fit_arr _ _) rfl dX6_init_17 ?_
  refine w_aload_n hB 0 dX6_init_20 rfl rfl ?_
  refine w_bipush hB 10 (by decide) dX6_init_21 ?_
  refine w_newI hB hb (n := 181) sh_181 sl_181 sgm253.2 (by rw [mc253]) (by decide) (by decide) ⟨Nat.le_of_ble_eq_true rfl, Nat.le_of_ble_eq_true rfl⟩ dX6_init_23 ?_
  refine Wt.mem (M1 := mm254) rfl ?_
  refine w_putRF (M1 := mm255) (ty := .array .int) hB hb ff_X6_8 (hi rfl) sh_178 (by rw [mc254]; decide) q_147 (by decide +kernel) (nar_arr _ _) (fit_arr _ _) rfl dX6_init_25 ?_
  refine w_aload_n hB 0 dX6_init_28 rfl rfl ?_
  refine w_bipush hB 10 (by decide) dX6_init_29 ?_
  refine w_newI hB hb (n := 182) sh_182 sl_182 sgm255.2 (by rw [mc255]) (by decide) (by decide) ⟨Nat.le_of_ble_eq_true rfl, Nat.le_of_ble_eq_true rfl⟩ dX6_init_31 ?_
  refine Wt.mem (M1 := mm256) rfl ?_
  refine w_putRF (M1 := mm257) (ty := .array .int) hB hb ff_X6_9 (hi rfl) sh_178 (by rw [mc256]; decide) q_151 (by decide +kernel) (nar_arr _ _) (fit_arr _ _) rfl dX6_init_33 ?_
  exact w_vret hB dX6_init_36
set_option maxRecDepth 100000 in
set_option maxHeartbeats 4000000 in
theorem k33 {K : Kt} {l : Launch} (hb : kP K = true) (hg : KBd K) : MT K l yX6_init cX6_init 1 none { frames := 1, cells := 4, slots := 40, locals := 20 } [vr 183] mm259 none mm267 4 40 := by
  refine MT_of (by decide) rfl (Nat.le_of_ble_eq_true rfl) (fun X _ hB hi => ?_)
  refine w_aload_n hB 0 dX6_init_0 rfl rfl ?_
  refine w_objinit hB (Or.inl (by decide)) q_123 q_43 q_oc (by decide) dX6_init_1 ?_
  refine w_aload_n hB 0 dX6_init_4 rfl rfl ?_
  refine w_bipush hB 10 (by decide) dX6_init_5 ?_
  refine w_newI hB hb (n := 184) sh_184 sl_184 sgm259.2 (by rw [mc259]) (by decide) (by decide) ⟨Nat.le_of_ble_eq_true rfl, Nat.le_of_ble_eq_true rfl⟩ dX6_init_7 ?_
  refine Wt.mem (M1 := mm260) rfl ?_
  refine w_putRF (M1 := mm261) (ty := .array .int) hB hb ff_X6_6 (hi rfl) sh_183 (by rw [mc260]; decide) q_139 (by decide +kernel) (nar_arr _ _) (fit_arr _ _) rfl dX6_init_9 ?_
  refine w_aload_n hB 0 dX6_init_12 rfl rfl ?_
  refine w_bipush hB 10 (by decide) dX6_init_13 ?_
  refine w_newI hB hb (n := 185) sh_185 sl_185 sgm261.2 (by rw [mc261]) (by decide) (by decide) ⟨Nat.le_of_ble_eq_true rfl, Nat.le_of_ble_eq_true rfl⟩ dX6_init_15 ?_
  refine Wt.mem (M1 := mm262) rfl ?_
  refine w_putRF (M1 := mm263) (ty := .array .int) hB hb ff_X6_7 (hi rfl) sh_183 (by rw [mc262]; decide) q_143 (by decide +kernel) (nar_arr _ _) (fit_arr _ _) rfl dX6_init_17 ?_
  refine w_aload_n hB 0 dX6_init_20 rfl rfl ?_
  refine w_bipush hB 10 (by decide) dX6_init_21 ?_
  refine w_newI hB hb (n := 186) sh_186 sl_186 sgm263.2 (by rw [mc263]) (by decide) (by decide) ⟨Nat.le_of_ble_eq_true rfl, Nat.le_of_ble_eq_true rfl⟩ dX6_init_23 ?_
  refine Wt.mem (M1 := mm264) rfl ?_
  refine w_putRF (M1 := mm265) (ty := .array .int) hB hb ff_X6_8 (hi rfl) sh_183 (by rw [mc264]; decide) q_147 (by decide +kernel) (nar_arr _ _) (fit_arr _ _) rfl dX6_init_25 ?_
  refine w_aload_n hB 0 dX6_init_28 rfl rfl ?_
  refine w_bipush hB 10 (by decide) dX6_init_29 ?_
  refine w_newI hB hb (n := 187) sh_187 sl_187 sgm265.2 (by rw [mc265]) (by decide) (by decide) ⟨Nat.le_of_ble_eq_true rfl, Nat.le_of_ble_eq_true rfl⟩ dX6_init_31 ?_
  refine Wt.mem (M1 := mm266) rfl ?_
  refine w_putRF (M1 := mm267) (ty := .array .int) hB hb ff_X6_9 (hi rfl) sh_183 (by rw [mc266]; decide) q_151 (by decide +kernel) (nar_arr _ _) (fit_arr _ _) rfl dX6_init_33 ?_
  exact w_vret hB dX6_init_36
set_option maxRecDepth 100000 in
set_option maxHeartbeats 4000000 in
theorem k34 {K : Kt} {l : Launch} (hb : kP K = true) (hg : KBd K) : MT K l yX6_init cX6_init 1 none { frames := 1, cells := 4, slots := 40, locals := 20 } [vr 188] mm269 none mm277 4 40 := by
  refine MT_of (by decide) rfl (Nat.le_of_ble_eq_true rfl) (fun X _ hB hi => ?_)
  refine w_aload_n hB 0 dX6_init_0 rfl rfl ?_
  refine w_objinit hB (Or.inl (by decide)) q_123 q_43 q_oc (by decide) dX6_init_1 ?_
  refine w_aload_n hB 0 dX6_init_4 rfl rfl ?_
  refine w_bipush hB 10 (by decide) dX6_init_5 ?_
  refine w_newI hB hb (n := 189) sh_189 sl_189 sgm269.2 (by rw [mc269]) (by decide) (by decide) ⟨Nat.le_of_ble_eq_true rfl, Nat.le_of_ble_eq_true rfl⟩ dX6_init_7 ?_
  refine Wt.mem (M1 := mm270) rfl ?_
  refine w_putRF (M1 := mm271) (ty := .array .int) hB hb ff_X6_6 (hi rfl) sh_188 (by rw [mc270]; decide) q_139 (by decide +kernel) (nar_arr _ _) (fit_arr _ _) rfl dX6_init_9 ?_
  refine w_aload_n hB 0 dX6_init_12 rfl rfl ?_
  refine w_bipush hB 10 (by decide) dX6_init_13 ?_
  refine w_newI hB hb (n := 190) sh_190 sl_190 sgm271.2 (by rw [mc271]) (by decide) (by decide) ⟨Nat.le_of_ble_eq_true rfl, Nat.le_of_ble_eq_true rfl⟩ dX6_init_15 ?_
  refine Wt.mem (M1 := mm272) rfl ?_
  refine w_putRF (M1 := mm273) (ty := .array .int) hB hb ff_X6_7 (hi rfl) sh_188 (by rw [mc272]; decide) q_143 (by decide +kernel) (nar_arr _ _) (fit_arr _ _) rfl dX6_init_17 ?_
  refine w_aload_n hB 0 dX6_init_20 rfl rfl ?_
  refine w_bipush hB 10 (by decide) dX6_init_21 ?_
  refine w_newI hB hb (n := 191) sh_191 sl_191 sgm273.2 (by rw [mc273]) (by decide) (by decide) ⟨Nat.le_of_ble_eq_true rfl, Nat.le_of_ble_eq_true rfl⟩ dX6_init_23 ?_
  refine Wt.mem (M1 := mm274) rfl ?_
  refine w_putRF (M1 := mm275) (ty := .array .int) hB hb ff_X6_8 (hi rfl) sh_188 (by rw [mc274]; decide) q_147 (by decide +kernel) (nar_arr _ _) (fit_arr _ _) rfl dX6_init_25 ?_
  refine w_aload_n hB 0 dX6_init_28 rfl rfl ?_
  refine w_bipush hB 10 (by decide) dX6_init_29 ?_
  refine w_newI hB hb (n := 192) sh_192 sl_192 sgm275.2 (by rw [mc275]) (by decide) (by decide) ⟨Nat.le_of_ble_eq_true rfl, Nat.le_of_ble_eq_true rfl⟩ dX6_init_31 ?_
  refine Wt.mem (M1 := mm276) rfl ?_
  refine w_putRF (M1 := mm277) (ty := .array .int) hB hb ff_X6_9 (hi rfl) sh_188 (by rw [mc276]; decide) q_151 (by decide +kernel) (nar_arr _ _) (fit_arr _ _) rfl dX6_init_33 ?_
  exact w_vret hB dX6_init_36
set_option maxRecDepth 100000 in
set_option maxHeartbeats 4000000 in
theorem k35 {K : Kt} {l : Launch} (hb : kP K = true) (hg : KBd K) : MT K l yX6_init cX6_init 1 none { frames := 1, cells := 4, slots := 40, locals := 20 } [vr 193] mm279 none mm287 4 40 := by
  refine MT_of (by decide) rfl (Nat.le_of_ble_eq_true rfl) (fun X _ hB hi => ?_)
  refine w_aload_n hB 0 dX6_init_0 rfl rfl ?_
  refine w_objinit hB (Or.inl (by decide)) q_123 q_43 q_oc (by decide) dX6_init_1 ?_
  refine w_aload_n hB 0 dX6_init_4 rfl rfl ?_
  refine w_bipush hB 10 (by decide) dX6_init_5 ?_
  refine w_newI hB hb (n := 194) sh_194 sl_194 sgm279.2 (by rw [mc279]) (by decide) (by decide) ⟨Nat.le_of_ble_eq_true rfl, Nat.le_of_ble_eq_true rfl⟩ dX6_init_7 ?_
  refine Wt.mem (M1 := mm280) rfl ?_
  refine w_putRF (M1 := mm281) (ty := .array .int) hB hb ff_X6_6 (hi rfl) sh_193 (by rw [mc280]; decide) q_139 (by decide +kernel) (nar_arr _ _) (fit_arr _ _) rfl dX6_init_9 ?_
  refine w_aload_n hB 0 dX6_init_12 rfl rfl ?_
  refine w_bipush hB 10 (by decide) dX6_init_13 ?_
  refine w_newI hB hb (n := 195) sh_195 sl_195 sgm281.2 (by rw [mc281]) (by decide) (by decide) ⟨Nat.le_of_ble_eq_true rfl, Nat.le_of_ble_eq_true rfl⟩ dX6_init_15 ?_
  refine Wt.mem (M1 := mm282) rfl ?_
  refine w_putRF (M1 := mm283) (ty := .array .int) hB hb ff_X6_7 (hi rfl) sh_193 (by rw [mc282]; decide) q_143 (by decide +kernel) (nar_arr _ _) (fit_arr _ _) rfl dX6_init_17 ?_
  refine w_aload_n hB 0 dX6_init_20 rfl rfl ?_
  refine w_bipush hB 10 (by decide) dX6_init_21 ?_
  refine w_newI hB hb (n := 196) sh_196 sl_196 sgm283.2 (by rw [mc283]) (by decide) (by decide) ⟨Nat.le_of_ble_eq_true rfl, Nat.le_of_ble_eq_true rfl⟩ dX6_init_23 ?_
  refine Wt.mem (M1 := mm284) rfl ?_
  refine w_putRF (M1 := mm285) (ty := .array .int) hB hb ff_X6_8 (hi rfl) sh_193 (by rw [mc284]; decide) q_147 (by decide +kernel) (nar_arr _ _) (fit_arr _ _) rfl dX6_init_25 ?_
  refine w_aload_n hB 0 dX6_init_28 rfl rfl ?_
  refine w_bipush hB 10 (by decide) dX6_init_29 ?_
  refine w_newI hB hb (n := 197) sh_197 sl_197 sgm285.2 (by rw [mc285]) (by decide) (by decide) ⟨Nat.le_of_ble_eq_true rfl, Nat.le_of_ble_eq_true rfl⟩ dX6_init_31 ?_
  refine Wt.mem (M1 := mm286) rfl ?_
  refine w_putRF (M1 := mm287) (ty := .array .int) hB hb ff_X6_9 (hi rfl) sh_193 (by rw [mc286]; decide) q_151 (by decide +kernel) (nar_arr _ _) (fit_arr _ _) rfl dX6_init_33 ?_
  exact w_vret hB dX6_init_36
set_option maxRecDepth 100000 in
set_option maxHeartbeats 4000000 in
theorem k36 {K : Kt} {l : Launch} (hb : kP K = true) (hg : KBd K) : MT K l yX6_init cX6_init 1 none { frames := 1, cells := 4, slots := 40, locals := 20 } [vr 198] mm289 none mm297 4 40 := by
  refine MT_of (by decide) rfl (Nat.le_of_ble_eq_true rfl) (fun X _ hB hi => ?_)
  refine w_aload_n hB 0 dX6_init_0 rfl rfl ?_
  refine w_objinit hB (Or.inl (by decide)) q_123 q_43 q_oc (by decide) dX6_init_1 ?_
  refine w_aload_n hB 0 dX6_init_4 rfl rfl ?_
  refine w_bipush hB 10 (by decide) dX6_init_5 ?_
  refine w_newI hB hb (n := 199) sh_199 sl_199 sgm289.2 (by rw [mc289]) (by decide) (by decide) ⟨Nat.le_of_ble_eq_true rfl, Nat.le_of_ble_eq_true rfl⟩ dX6_init_7 ?_
  refine Wt.mem (M1 := mm290) rfl ?_
  refine w_putRF (M1 := mm291) (ty := .array .int) hB hb ff_X6_6 (hi rfl) sh_198 (by rw [mc290]; decide) q_139 (by decide +kernel) (nar_arr _ _) (fit_arr _ _) rfl dX6_init_9 ?_
  refine w_aload_n hB 0 dX6_init_12 rfl rfl ?_
  refine w_bipush hB 10 (by decide) dX6_init_13 ?_
  refine w_newI hB hb (n := 200) sh_200 sl_200 sgm291.2 (by rw [mc291]) (by decide) (by decide) ⟨Nat.le_of_ble_eq_true rfl, Nat.le_of_ble_eq_true rfl⟩ dX6_init_15 ?_
  refine Wt.mem (M1 := mm292) rfl ?_
  refine w_putRF (M1 := mm293) (ty := .array .int) hB hb ff_X6_7 (hi rfl) sh_198 (by rw [mc292]; decide) q_143 (by decide +kernel) (nar_arr _ _) (fit_arr _ _) rfl dX6_init_17 ?_
  refine w_aload_n hB 0 dX6_init_20 rfl rfl ?_
  refine w_bipush hB 10 (by decide) dX6_init_21 ?_
  refine w_newI hB hb (n := 201) sh_201 sl_201 sgm293.2 (by rw [mc293]) (by decide) (by decide) ⟨Nat.le_of_ble_eq_true rfl, Nat.le_of_ble_eq_true rfl⟩ dX6_init_23 ?_
  refine Wt.mem (M1 := mm294) rfl ?_
  refine w_putRF (M1 := mm295) (ty := .array .int) hB hb ff_X6_8 (hi rfl) sh_198 (by rw [mc294]; decide) q_147 (by decide +kernel) (nar_arr _ _) (fit_arr _ _) rfl dX6_init_25 ?_
  refine w_aload_n hB 0 dX6_init_28 rfl rfl ?_
  refine w_bipush hB 10 (by decide) dX6_init_29 ?_
  refine w_newI hB hb (n := 202) sh_202 sl_202 sgm295.2 (by rw [mc295]) (by decide) (by decide) ⟨Nat.le_of_ble_eq_true rfl, Nat.le_of_ble_eq_true rfl⟩ dX6_init_31 ?_
  refine Wt.mem (M1 := mm296) rfl ?_
  refine w_putRF (M1 := mm297) (ty := .array .int) hB hb ff_X6_9 (hi rfl) sh_198 (by rw [mc296]; decide) q_151 (by decide +kernel) (nar_arr _ _) (fit_arr _ _) rfl dX6_init_33 ?_
  exact w_vret hB dX6_init_36
set_option maxRecDepth 100000 in
set_option maxHeartbeats 4000000 in
theorem k37 {K : Kt} {l : Launch} (hb : kP K = true) (hg : KBd K) : MT K l yX6_init cX6_init 1 none { frames := 1, cells := 4, slots := 40, locals := 20 } [vr 203] mm299 none mm307 4 40 := by
  refine MT_of (by decide) rfl (Nat.le_of_ble_eq_true rfl) (fun X _ hB hi => ?_)
  refine w_aload_n hB 0 dX6_init_0 rfl rfl ?_
  refine w_objinit hB (Or.inl (by decide)) q_123 q_43 q_oc (by decide) dX6_init_1 ?_
  refine w_aload_n hB 0 dX6_init_4 rfl rfl ?_
  refine w_bipush hB 10 (by decide) dX6_init_5 ?_
  refine w_newI hB hb (n := 204) sh_204 sl_204 sgm299.2 (by rw [mc299]) (by decide) (by decide) ⟨Nat.le_of_ble_eq_true rfl, Nat.le_of_ble_eq_true rfl⟩ dX6_init_7 ?_
  refine Wt.mem (M1 := mm300) rfl ?_
  refine w_putRF (M1 := mm301) (ty := .array .int) hB hb ff_X6_6 (hi rfl) sh_203 (by rw [mc300]; decide) q_139 (by decide +kernel) (nar_arr _ _) (fit_arr _ _) rfl dX6_init_9 ?_
  refine w_aload_n hB 0 dX6_init_12 rfl rfl ?_
  refine w_bipush hB 10 (by decide) dX6_init_13 ?_
  refine w_newI hB hb (n := 205) sh_205 sl_205 sgm301.2 (by rw [mc301]) (by decide) (by decide) ⟨Nat.le_of_ble_eq_true rfl, Nat.le_of_ble_eq_true rfl⟩ dX6_init_15 ?_
  refine Wt.mem (M1 := mm302) rfl ?_
  refine w_putRF (M1 := mm303) (ty := .array .int) hB hb ff_X6_7 (hi rfl) sh_203 (by rw [mc302]; decide) q_143 (by decide +kernel) (nar_arr _ _) (fit_arr _ _) rfl dX6_init_17 ?_
  refine w_aload_n hB 0 dX6_init_20 rfl rfl ?_
  refine w_bipush hB 10 (by decide) dX6_init_21 ?_
  refine w_newI hB hb (n := 206) sh_206 sl_206 sgm303.2 (by rw [mc303]) (by decide) (by decide) ⟨Nat.le_of_ble_eq_true rfl, Nat.le_of_ble_eq_true rfl⟩ dX6_init_23 ?_
  refine Wt.mem (M1 := mm304) rfl ?_
  refine w_putRF (M1 := mm305) (ty := .array .int) hB hb ff_X6_8 (hi rfl) sh_203 (by rw [mc304]; decide) q_147 (by decide +kernel) (nar_arr _ _) (fit_arr _ _) rfl dX6_init_25 ?_
  refine w_aload_n hB 0 dX6_init_28 rfl rfl ?_
  refine w_bipush hB 10 (by decide) dX6_init_29 ?_
  refine w_newI hB hb (n := 207) sh_207 sl_207 sgm305.2 (by rw [mc305]) (by decide) (by decide) ⟨Nat.le_of_ble_eq_true rfl, Nat.le_of_ble_eq_true rfl⟩ dX6_init_31 ?_
  refine Wt.mem (M1 := mm306) rfl ?_
  refine w_putRF (M1 := mm307) (ty := .array .int) hB hb ff_X6_9 (hi rfl) sh_203 (by rw [mc306]; decide) q_151 (by decide +kernel) (nar_arr _ _) (fit_arr _ _) rfl dX6_init_33 ?_
  exact w_vret hB dX6_init_36
set_option maxRecDepth 100000 in
set_option maxHeartbeats 4000000 in
theorem k38 {K : Kt} {l : Launch} (hb : kP K = true) (hg : KBd K) : MT K l yX2_clear cX2_clear 2 none { frames := 1, cells := 0, slots := 0, locals := 23 } [vr 140] mm310 none mm322 0 0 := by
  refine MT_of (by decide) rfl (Nat.le_of_ble_eq_true rfl) (fun X _ hB hi => ?_)
  refine w_aload_n hB 0 dX2_clear_0 rfl rfl ?_
  refine w_getRB (v := 141) hB ff_X2_0 sh_140 (by rw [mc310]; decide) (by decide +kernel) q_57 dX2_clear_1 ?_
  refine w_ldc hB (v := 268435456) q_192 dX2_clear_4 ?_
  refine w_callS (M1 := mm311) hB (As := [vr 141, vi 268435456]) (st := []) cw_X2_16 q_194 (k_fill sh_141 sl_141 rfl (by decide) (by rw [mc310]; decide)) ⟨rfl, rfl⟩ (by decide) (by decide) rfl (Nat.le_of_ble_eq_true rfl) dX2_clear_6 rfl ?_
  refine w_iconst hB 0 (by decide) dX2_clear_9 ?_
  refine w_istore_n hB (L' := [(1, vi 0), (0, vr 140)]) dX2_clear_10 rfl (by decide) rfl rfl ?_
  refine w_iload_n hB 0 dX2_clear_11 rfl rfl ?_
  refine w_bipush hB 10 (by decide) dX2_clear_12 ?_
  refine w_icmp_ge hB 35 dX2_clear_14 (by decide) (fun hc => absurd hc (by decide)) (fun _ => ?_)
  refine w_aload_n hB 1 dX2_clear_17 rfl rfl ?_
  refine w_getRB (v := 141) hB ff_X2_0 sh_140 (by rw [mc311]; decide) (by decide +kernel) q_57 dX2_clear_18 ?_
  refine w_iload_n hB 0 dX2_clear_21 rfl rfl ?_
  refine w_bipush hB 10 (by decide) dX2_clear_22 ?_
  refine w_imul hB dX2_clear_24 ?_
  rw [show (0 : Int32) * 10 = 0 by decide]
  refine w_iload_n hB 0 dX2_clear_25 rfl rfl ?_
  refine w_iadd hB dX2_clear_26 ?_
  rw [show (0 : Int32) + 0 = 0 by decide]
  refine w_iconst hB 0 (by decide) dX2_clear_27 ?_
  refine w_iast (M1 := mm312) hB (smM sh_141 (by decide) (by rw [mc311]; decide)) (sl_s sh_141 (by decide) sl_141) (by decide) (by rw [show (0 : Int32).toNatClampNeg = 0 by decide]; rfl) dX2_clear_28 ?_
  refine w_iinc hB 0 (v := 1) (L' := [(1, vi 1), (0, vr 140)]) dX2_clear_29 rfl (by decide) (by decide) (by decide) rfl ?_
  refine w_goto hB 11 dX2_clear_32 (by decide) ?_
  refine w_iload_n hB 0 dX2_clear_11 rfl rfl ?_
  refine w_bipush hB 10 (by decide) dX2_clear_12 ?_
  refine w_icmp_ge hB 35 dX2_clear_14 (by decide) (fun hc => absurd hc (by decide)) (fun _ => ?_)
  refine w_aload_n hB 1 dX2_clear_17 rfl rfl ?_
  refine w_getRB (v := 141) hB ff_X2_0 sh_140 (by rw [mc312]; decide) (by decide +kernel) q_57 dX2_clear_18 ?_
  refine w_iload_n hB 0 dX2_clear_21 rfl rfl ?_
  refine w_bipush hB 10 (by decide) dX2_clear_22 ?_
  refine w_imul hB dX2_clear_24 ?_
  rw [show (1 : Int32) * 10 = 10 by decide]
  refine w_iload_n hB 0 dX2_clear_25 rfl rfl ?_
  refine w_iadd hB dX2_clear_26 ?_
  rw [show (10 : Int32) + 1 = 11 by decide]
  refine w_iconst hB 0 (by decide) dX2_clear_27 ?_
  refine w_iast (M1 := mm313) hB (smM sh_141 (by decide) (by rw [mc312]; decide)) (sl_s sh_141 (by decide) sl_141) (by decide) (by rw [show (11 : Int32).toNatClampNeg = 11 by decide]; rfl) dX2_clear_28 ?_
  refine w_iinc hB 0 (v := 1) (L' := [(1, vi 2), (0, vr 140)]) dX2_clear_29 rfl (by decide) (by decide) (by decide) rfl ?_
  refine w_goto hB 11 dX2_clear_32 (by decide) ?_
  refine w_iload_n hB 0 dX2_clear_11 rfl rfl ?_
  refine w_bipush hB 10 (by decide) dX2_clear_12 ?_
  refine w_icmp_ge hB 35 dX2_clear_14 (by decide) (fun hc => absurd hc (by decide)) (fun _ => ?_)
  refine w_aload_n hB 1 dX2_clear_17 rfl rfl ?_
  refine w_getRB (v := 141) hB ff_X2_0 sh_140 (by rw [mc313]; decide) (by decide +kernel) q_57 dX2_clear_18 ?_
  refine w_iload_n hB 0 dX2_clear_21 rfl rfl ?_
  refine w_bipush hB 10 (by decide) dX2_clear_22 ?_
  refine w_imul hB dX2_clear_24 ?_
  rw [show (2 : Int32) * 10 = 20 by decide]
  refine w_iload_n hB 0 dX2_clear_25 rfl rfl ?_
  refine w_iadd hB dX2_clear_26 ?_
  rw [show (20 : Int32) + 2 = 22 by decide]
  refine w_iconst hB 0 (by decide) dX2_clear_27 ?_
  refine w_iast (M1 := mm314) hB (smM sh_141 (by decide) (by rw [mc313]; decide)) (sl_s sh_141 (by decide) sl_141) (by decide) (by rw [show (22 : Int32).toNatClampNeg = 22 by decide]; rfl) dX2_clear_28 ?_
  refine w_iinc hB 0 (v := 1) (L' := [(1, vi 3), (0, vr 140)]) dX2_clear_29 rfl (by decide) (by decide) (by decide) rfl ?_
  refine w_goto hB 11 dX2_clear_32 (by decide) ?_
  refine w_iload_n hB 0 dX2_clear_11 rfl rfl ?_
  refine w_bipush hB 10 (by decide) dX2_clear_12 ?_
  refine w_icmp_ge hB 35 dX2_clear_14 (by decide) (fun hc => absurd hc (by decide)) (fun _ => ?_)
  refine w_aload_n hB 1 dX2_clear_17 rfl rfl ?_
  refine w_getRB (v := 141) hB ff_X2_0 sh_140 (by rw [mc314]; decide) (by decide +kernel) q_57 dX2_clear_18 ?_
  refine w_iload_n hB 0 dX2_clear_21 rfl rfl ?_
  refine w_bipush hB 10 (by decide) dX2_clear_22 ?_
  refine w_imul hB dX2_clear_24 ?_
  rw [show (3 : Int32) * 10 = 30 by decide]
  refine w_iload_n hB 0 dX2_clear_25 rfl rfl ?_
  refine w_iadd hB dX2_clear_26 ?_
  rw [show (30 : Int32) + 3 = 33 by decide]
  refine w_iconst hB 0 (by decide) dX2_clear_27 ?_
  refine w_iast (M1 := mm315) hB (smM sh_141 (by decide) (by rw [mc314]; decide)) (sl_s sh_141 (by decide) sl_141) (by decide) (by rw [show (33 : Int32).toNatClampNeg = 33 by decide]; rfl) dX2_clear_28 ?_
  refine w_iinc hB 0 (v := 1) (L' := [(1, vi 4), (0, vr 140)]) dX2_clear_29 rfl (by decide) (by decide) (by decide) rfl ?_
  refine w_goto hB 11 dX2_clear_32 (by decide) ?_
  refine w_iload_n hB 0 dX2_clear_11 rfl rfl ?_
  refine w_bipush hB 10 (by decide) dX2_clear_12 ?_
  refine w_icmp_ge hB 35 dX2_clear_14 (by decide) (fun hc => absurd hc (by decide)) (fun _ => ?_)
  refine w_aload_n hB 1 dX2_clear_17 rfl rfl ?_
  refine w_getRB (v := 141) hB ff_X2_0 sh_140 (by rw [mc315]; decide) (by decide +kernel) q_57 dX2_clear_18 ?_
  refine w_iload_n hB 0 dX2_clear_21 rfl rfl ?_
  refine w_bipush hB 10 (by decide) dX2_clear_22 ?_
  refine w_imul hB dX2_clear_24 ?_
  rw [show (4 : Int32) * 10 = 40 by decide]
  refine w_iload_n hB 0 dX2_clear_25 rfl rfl ?_
  refine w_iadd hB dX2_clear_26 ?_
  rw [show (40 : Int32) + 4 = 44 by decide]
  refine w_iconst hB 0 (by decide) dX2_clear_27 ?_
  refine w_iast (M1 := mm316) hB (smM sh_141 (by decide) (by rw [mc315]; decide)) (sl_s sh_141 (by decide) sl_141) (by decide) (by rw [show (44 : Int32).toNatClampNeg = 44 by decide]; rfl) dX2_clear_28 ?_
  refine w_iinc hB 0 (v := 1) (L' := [(1, vi 5), (0, vr 140)]) dX2_clear_29 rfl (by decide) (by decide) (by decide) rfl ?_
  refine w_goto hB 11 dX2_clear_32 (by decide) ?_
  refine w_iload_n hB 0 dX2_clear_11 rfl rfl ?_
  refine w_bipush hB 10 (by decide) dX2_clear_12 ?_
  refine w_icmp_ge hB 35 dX2_clear_14 (by decide) (fun hc => absurd hc (by decide)) (fun _ => ?_)
  refine w_aload_n hB 1 dX2_clear_17 rfl rfl ?_
  refine w_getRB (v := 141) hB ff_X2_0 sh_140 (by rw [mc316]; decide) (by decide +kernel) q_57 dX2_clear_18 ?_
  refine w_iload_n hB 0 dX2_clear_21 rfl rfl ?_
  refine w_bipush hB 10 (by decide) dX2_clear_22 ?_
  refine w_imul hB dX2_clear_24 ?_
  rw [show (5 : Int32) * 10 = 50 by decide]
  refine w_iload_n hB 0 dX2_clear_25 rfl rfl ?_
  refine w_iadd hB dX2_clear_26 ?_
  rw [show (50 : Int32) + 5 = 55 by decide]
  refine w_iconst hB 0 (by decide) dX2_clear_27 ?_
  refine w_iast (M1 := mm317) hB (smM sh_141 (by decide) (by rw [mc316]; decide)) (sl_s sh_141 (by decide) sl_141) (by decide) (by rw [show (55 : Int32).toNatClampNeg = 55 by decide]; rfl) dX2_clear_28 ?_
  refine w_iinc hB 0 (v := 1) (L' := [(1, vi 6), (0, vr 140)]) dX2_clear_29 rfl (by decide) (by decide) (by decide) rfl ?_
  refine w_goto hB 11 dX2_clear_32 (by decide) ?_
  refine w_iload_n hB 0 dX2_clear_11 rfl rfl ?_
  refine w_bipush hB 10 (by decide) dX2_clear_12 ?_
  refine w_icmp_ge hB 35 dX2_clear_14 (by decide) (fun hc => absurd hc (by decide)) (fun _ => ?_)
  refine w_aload_n hB 1 dX2_clear_17 rfl rfl ?_
  refine w_getRB (v := 141) hB ff_X2_0 sh_140 (by rw [mc317]; decide) (by decide +kernel) q_57 dX2_clear_18 ?_
  refine w_iload_n hB 0 dX2_clear_21 rfl rfl ?_
  refine w_bipush hB 10 (by decide) dX2_clear_22 ?_
  refine w_imul hB dX2_clear_24 ?_
  rw [show (6 : Int32) * 10 = 60 by decide]
  refine w_iload_n hB 0 dX2_clear_25 rfl rfl ?_
  refine w_iadd hB dX2_clear_26 ?_
  rw [show (60 : Int32) + 6 = 66 by decide]
  refine w_iconst hB 0 (by decide) dX2_clear_27 ?_
  refine w_iast (M1 := mm318) hB (smM sh_141 (by decide) (by rw [mc317]; decide)) (sl_s sh_141 (by decide) sl_141) (by decide) (by rw [show (66 : Int32).toNatClampNeg = 66 by decide]; rfl) dX2_clear_28 ?_
  refine w_iinc hB 0 (v := 1) (L' := [(1, vi 7), (0, vr 140)]) dX2_clear_29 rfl (by decide) (by decide) (by decide) rfl ?_
  refine w_goto hB 11 dX2_clear_32 (by decide) ?_
  refine w_iload_n hB 0 dX2_clear_11 rfl rfl ?_
  refine w_bipush hB 10 (by decide) dX2_clear_12 ?_
  refine w_icmp_ge hB 35 dX2_clear_14 (by decide) (fun hc => absurd hc (by decide)) (fun _ => ?_)
  refine w_aload_n hB 1 dX2_clear_17 rfl rfl ?_
  refine w_getRB (v := 141) hB ff_X2_0 sh_140 (by rw [mc318]; decide) (by decide +kernel) q_57 dX2_clear_18 ?_
  refine w_iload_n hB 0 dX2_clear_21 rfl rfl ?_
  refine w_bipush hB 10 (by decide) dX2_clear_22 ?_
  refine w_imul hB dX2_clear_24 ?_
  rw [show (7 : Int32) * 10 = 70 by decide]
  refine w_iload_n hB 0 dX2_clear_25 rfl rfl ?_
  refine w_iadd hB dX2_clear_26 ?_
  rw [show (70 : Int32) + 7 = 77 by decide]
  refine w_iconst hB 0 (by decide) dX2_clear_27 ?_
  refine w_iast (M1 := mm319) hB (smM sh_141 (by decide) (by rw [mc318]; decide)) (sl_s sh_141 (by decide) sl_141) (by decide) (by rw [show (77 : Int32).toNatClampNeg = 77 by decide]; rfl) dX2_clear_28 ?_
  refine w_iinc hB 0 (v := 1) (L' := [(1, vi 8), (0, vr 140)]) dX2_clear_29 rfl (by decide) (by decide) (by decide) rfl ?_
  refine w_goto hB 11 dX2_clear_32 (by decide) ?_
  refine w_iload_n hB 0 dX2_clear_11 rfl rfl ?_
  refine w_bipush hB 10 (by decide) dX2_clear_12 ?_
  refine w_icmp_ge hB 35 dX2_clear_14 (by decide) (fun hc => absurd hc (by decide)) (fun _ => ?_)
  refine w_aload_n hB 1 dX2_clear_17 rfl rfl ?_
  refine w_getRB (v := 141) hB ff_X2_0 sh_140 (by rw [mc319]; decide) (by decide +kernel) q_57 dX2_clear_18 ?_
  refine w_iload_n hB 0 dX2_clear_21 rfl rfl ?_
  refine w_bipush hB 10 (by decide) dX2_clear_22 ?_
  refine w_imul hB dX2_clear_24 ?_
  rw [show (8 : Int32) * 10 = 80 by decide]
  refine w_iload_n hB 0 dX2_clear_25 rfl rfl ?_
  refine w_iadd hB dX2_clear_26 ?_
  rw [show (80 : Int32) + 8 = 88 by decide]
  refine w_iconst hB 0 (by decide) dX2_clear_27 ?_
  refine w_iast (M1 := mm320) hB (smM sh_141 (by decide) (by rw [mc319]; decide)) (sl_s sh_141 (by decide) sl_141) (by decide) (by rw [show (88 : Int32).toNatClampNeg = 88 by decide]; rfl) dX2_clear_28 ?_
  refine w_iinc hB 0 (v := 1) (L' := [(1, vi 9), (0, vr 140)]) dX2_clear_29 rfl (by decide) (by decide) (by decide) rfl ?_
  refine w_goto hB 11 dX2_clear_32 (by decide) ?_
  refine w_iload_n hB 0 dX2_clear_11 rfl rfl ?_
  refine w_bipush hB 10 (by decide) dX2_clear_12 ?_
  refine w_icmp_ge hB 35 dX2_clear_14 (by decide) (fun hc => absurd hc (by decide)) (fun _ => ?_)
  refine w_aload_n hB 1 dX2_clear_17 rfl rfl ?_
  refine w_getRB (v := 141) hB ff_X2_0 sh_140 (by rw [mc320]; decide) (by decide +kernel) q_57 dX2_clear_18 ?_
  refine w_iload_n hB 0 dX2_clear_21 rfl rfl ?_
  refine w_bipush hB 10 (by decide) dX2_clear_22 ?_
  refine w_imul hB dX2_clear_24 ?_
  rw [show (9 : Int32) * 10 = 90 by decide]
  refine w_iload_n hB 0 dX2_clear_25 rfl rfl ?_
  refine w_iadd hB dX2_clear_26 ?_
  rw [show (90 : Int32) + 9 = 99 by decide]
  refine w_iconst hB 0 (by decide) dX2_clear_27 ?_
  refine w_iast (M1 := mm321) hB (smM sh_141 (by decide) (by rw [mc320]; decide)) (sl_s sh_141 (by decide) sl_141) (by decide) (by rw [show (99 : Int32).toNatClampNeg = 99 by decide]; rfl) dX2_clear_28 ?_
  refine w_iinc hB 0 (v := 1) (L' := [(1, vi 10), (0, vr 140)]) dX2_clear_29 rfl (by decide) (by decide) (by decide) rfl ?_
  refine w_goto hB 11 dX2_clear_32 (by decide) ?_
  refine w_iload_n hB 0 dX2_clear_11 rfl rfl ?_
  refine w_bipush hB 10 (by decide) dX2_clear_12 ?_
  refine w_icmp_ge hB 35 dX2_clear_14 (by decide) (fun _ => ?_) (fun hc => absurd (by decide) hc)
  refine w_aload_n hB 1 dX2_clear_35 rfl rfl ?_
  refine w_iconst hB 0 (by decide) dX2_clear_36 ?_
  refine w_putZ (M1 := mm322) hB ff_X2_1 (smM sh_140 (by decide) (by rw [mc321]; decide)) q_58 (by decide) rfl dX2_clear_37 ?_
  exact w_vret hB dX2_clear_40
set_option maxRecDepth 100000 in
set_option maxHeartbeats 4000000 in
theorem k39 {K : Kt} {l : Launch} (hb : kP K = true) (hg : KBd K) : MT K l yX9_clear cX9_clear 1 none { frames := 2, cells := 0, slots := 0, locals := 44 } [vr 137] mm308 none mm330 0 0 := by
  refine MT_of (by decide) rfl (Nat.le_of_ble_eq_true rfl) (fun X _ hB hi => ?_)
  refine w_aload_n hB 0 dX9_clear_0 rfl rfl ?_
  refine w_iconst hB 0 (by decide) dX9_clear_1 ?_
  refine w_putI (M1 := mm309) hB ff_X9_0 (smM sh_137 (by decide) (by rw [mc308]; decide)) q_196 rfl dX9_clear_2 ?_
  refine w_aload_n hB 0 dX9_clear_5 rfl rfl ?_
  refine w_iconst hB 0 (by decide) dX9_clear_6 ?_
  refine w_putI (M1 := mm310) hB ff_X9_3 (smM sh_137 (by decide) (by rw [mc309]; decide)) q_206 rfl dX9_clear_7 ?_
  refine w_aload_n hB 0 dX9_clear_10 rfl rfl ?_
  refine w_getRB (v := 140) hB ff_X9_4 sh_137 (by rw [mc310]; decide) (by decide +kernel) q_209 dX9_clear_11 ?_
  refine w_callV (M1 := mm322) hB (ci := 1) (As := []) (st := []) cw_X9_62 q_189 q_190 rfl (smM sh_140 (by decide) (by rw [mc310]; decide)) (k38 hb hg) ⟨rfl, rfl⟩ (by decide) ⟨Nat.le_of_ble_eq_true rfl, Nat.le_of_ble_eq_true rfl⟩ rfl (Nat.le_of_ble_eq_true rfl) dX9_clear_14 rfl ?_ (Or.inl rfl)
  refine w_aload_n hB 0 dX9_clear_17 rfl rfl ?_
  refine w_iconst hB 0 (by decide) dX9_clear_18 ?_
  refine w_putI (M1 := mm323) hB ff_X9_5 (smM sh_137 (by decide) (by rw [mc322]; decide)) q_213 rfl dX9_clear_19 ?_
  refine w_aload_n hB 0 dX9_clear_22 rfl rfl ?_
  refine w_iconst hB 0 (by decide) dX9_clear_23 ?_
  refine w_putI (M1 := mm324) hB ff_X9_7 (smM sh_137 (by decide) (by rw [mc323]; decide)) q_220 rfl dX9_clear_24 ?_
  refine w_aload_n hB 0 dX9_clear_27 rfl rfl ?_
  refine w_iconst hB 0 (by decide) dX9_clear_28 ?_
  refine w_putI (M1 := mm325) hB ff_X9_9 (smM sh_137 (by decide) (by rw [mc324]; decide)) q_226 rfl dX9_clear_29 ?_
  refine w_aload_n hB 0 dX9_clear_32 rfl rfl ?_
  refine w_iconst hB 0 (by decide) dX9_clear_33 ?_
  refine w_putI (M1 := mm326) hB ff_X9_11 (smM sh_137 (by decide) (by rw [mc325]; decide)) q_231 rfl dX9_clear_34 ?_
  refine w_aload_n hB 0 dX9_clear_37 rfl rfl ?_
  refine w_getRB (v := 146) hB ff_X9_13 sh_137 (by rw [mc326]; decide) (by decide +kernel) q_237 dX9_clear_38 ?_
  refine w_iconst hB 0 (by decide) dX9_clear_41 ?_
  refine w_bipush hB 60 (by decide) dX9_clear_42 ?_
  refine w_iast (M1 := mm327) hB (smM sh_146 (by decide) (by rw [mc326]; decide)) (sl_s sh_146 (by decide) sl_146) (by decide) (by rw [show (0 : Int32).toNatClampNeg = 0 by decide]; rfl) dX9_clear_44 ?_
  refine w_aload_n hB 0 dX9_clear_45 rfl rfl ?_
  refine w_getRB (v := 146) hB ff_X9_13 sh_137 (by rw [mc327]; decide) (by decide +kernel) q_237 dX9_clear_46 ?_
  refine w_iconst hB 1 (by decide) dX9_clear_49 ?_
  refine w_iconst hB 0 (by decide) dX9_clear_50 ?_
  refine w_iast (M1 := mm328) hB (smM sh_146 (by decide) (by rw [mc327]; decide)) (sl_s sh_146 (by decide) sl_146) (by decide) (by rw [show (1 : Int32).toNatClampNeg = 1 by decide]; rfl) dX9_clear_51 ?_
  refine w_aload_n hB 0 dX9_clear_52 rfl rfl ?_
  refine w_getRB (v := 146) hB ff_X9_13 sh_137 (by rw [mc328]; decide) (by decide +kernel) q_237 dX9_clear_53 ?_
  refine w_iconst hB 2 (by decide) dX9_clear_56 ?_
  refine w_sipush hB 1000 (by decide) dX9_clear_57 ?_
  refine w_iast (M1 := mm329) hB (smM sh_146 (by decide) (by rw [mc328]; decide)) (sl_s sh_146 (by decide) sl_146) (by decide) (by rw [show (2 : Int32).toNatClampNeg = 2 by decide]; rfl) dX9_clear_60 ?_
  refine w_aload_n hB 0 dX9_clear_61 rfl rfl ?_
  refine w_getRB (v := 146) hB ff_X9_13 sh_137 (by rw [mc329]; decide) (by decide +kernel) q_237 dX9_clear_62 ?_
  refine w_iconst hB 3 (by decide) dX9_clear_65 ?_
  refine w_iconst hB 1 (by decide) dX9_clear_66 ?_
  refine w_iast (M1 := mm330) hB (smM sh_146 (by decide) (by rw [mc329]; decide)) (sl_s sh_146 (by decide) sl_146) (by decide) (by rw [show (3 : Int32).toNatClampNeg = 3 by decide]; rfl) dX9_clear_67 ?_
  exact w_vret hB dX9_clear_68
set_option maxRecDepth 100000 in
set_option maxHeartbeats 4000000 in
theorem k40 {K : Kt} {l : Launch} (hb : kP K = true) (hg : KBd K) : MT K l yX9_init cX9_init 2 none { frames := 3, cells := 70, slots := 642, locals := 64 } [vr 137] mm168 none mm330 70 642 := by
  refine MT_of (by decide) rfl (Nat.le_of_ble_eq_true rfl) (fun X _ hB hi => ?_)
  refine w_aload_n hB 0 dX9_init_0 rfl rfl ?_
  refine w_objinit hB (Or.inl (by decide)) q_50 q_43 q_oc (by decide) dX9_init_1 ?_
  refine w_aload_n hB 0 dX9_init_4 rfl rfl ?_
  refine w_iconst hB 5 (by decide) dX9_init_5 ?_
  refine w_newI hB hb (n := 138) sh_138 sl_138 sgm168.2 (by rw [mc168]) (by decide) (by decide) ⟨Nat.le_of_ble_eq_true rfl, Nat.le_of_ble_eq_true rfl⟩ dX9_init_6 ?_
  refine Wt.mem (M1 := mm169) rfl ?_
  refine w_putRF (M1 := mm170) (ty := .array .int) hB hb ff_X9_1 (hi rfl) sh_137 (by rw [mc169]; decide) q_200 (by decide +kernel) (nar_arr _ _) (fit_arr _ _) rfl dX9_init_8 ?_
  refine w_aload_n hB 0 dX9_init_11 rfl rfl ?_
  refine w_iconst hB 5 (by decide) dX9_init_12 ?_
  refine w_newI hB hb (n := 139) sh_139 sl_139 sgm170.2 (by rw [mc170]) (by decide) (by decide) ⟨Nat.le_of_ble_eq_true rfl, Nat.le_of_ble_eq_true rfl⟩ dX9_init_13 ?_
  refine Wt.mem (M1 := mm171) rfl ?_
  refine w_putRF (M1 := mm172) (ty := .array .int) hB hb ff_X9_2 (hi rfl) sh_137 (by rw [mc171]; decide) q_203 (by decide +kernel) (nar_arr _ _) (fit_arr _ _) rfl dX9_init_15 ?_
  refine w_aload_n hB 0 dX9_init_18 rfl rfl ?_
  refine w_newB hB hb (ci := 1) (N := 2) (n := 140) tyX2 rfl inG_X2 tyX2_ok dz_X2 q_51 q_52 q_11 (by rw [mc172]) sh_140 (by decide) sgm172.2 ⟨Nat.le_of_ble_eq_true rfl, Nat.le_of_ble_eq_true rfl⟩ dX9_init_19 ?_
  refine Wt.mem (M1 := mm173) rfl ?_
  refine w_dup hB rfl dX9_init_22 ?_
  refine w_callIN (M1 := mm175) hB (n := 140) (As := []) (st := [vr 140, vr 137]) (na := 0) hg.2.1.1 q_11 q_55 ⟨by decide +kernel, by decide +kernel⟩ rfl q_54 (Or.inl (by decide)) (k21 hb hg) ⟨rfl, rfl⟩ (by decide) ⟨Nat.le_of_ble_eq_true rfl, Nat.le_of_ble_eq_true rfl⟩ rfl (Nat.le_of_ble_eq_true rfl) dX9_init_23 rfl ?_ (Or.inr (by rw [mc173, mc175]))
  refine w_putRF (M1 := mm176) (ty := .object "ReplayBooth$Bounds") hB hb ff_X9_4 (hi rfl) sh_137 (by rw [mc175]; decide) q_209 (by decide +kernel) (nar_obj _ _) (fit_obj _ _) rfl dX9_init_26 ?_
  refine w_aload_n hB 0 dX9_init_29 rfl rfl ?_
  refine w_iconst hB 4 (by decide) dX9_init_30 ?_
  refine w_newI hB hb (n := 142) sh_142 sl_142 sgm176.2 (by rw [mc176]) (by decide) (by decide) ⟨Nat.le_of_ble_eq_true rfl, Nat.le_of_ble_eq_true rfl⟩ dX9_init_31 ?_
  refine Wt.mem (M1 := mm177) rfl ?_
  refine w_putRF (M1 := mm178) (ty := .array .int) hB hb ff_X9_6 (hi rfl) sh_137 (by rw [mc177]; decide) q_217 (by decide +kernel) (nar_arr _ _) (fit_arr _ _) rfl dX9_init_33 ?_
  refine w_aload_n hB 0 dX9_init_36 rfl rfl ?_
  refine w_iconst hB 5 (by decide) dX9_init_37 ?_
  refine w_newqB hB hb (c := 4) (n := 143) q_68 hg.2.2.1 rfl sh_143 (by decide) sl_143 sgm178.2 (by rw [mc178]) (by decide) (by decide) ⟨Nat.le_of_ble_eq_true rfl, Nat.le_of_ble_eq_true rfl⟩ dX9_init_38 ?_
  refine Wt.mem (M1 := mm179) rfl ?_
  refine w_putRF (M1 := mm180) (ty := .array (.object "ReplayBooth$Kind")) hB hb ff_X9_8 (hi rfl) sh_137 (by rw [mc179]; decide) q_223 (by decide +kernel) (nar_arr _ _) (fit_arr _ _) rfl dX9_init_41 ?_
  refine w_aload_n hB 0 dX9_init_44 rfl rfl ?_
  refine w_iconst hB 3 (by decide) dX9_init_45 ?_
  refine w_newqB hB hb (c := 5) (n := 144) q_70 hg.2.2.2.1 rfl sh_144 (by decide) sl_144 sgm180.2 (by rw [mc180]) (by decide) (by decide) ⟨Nat.le_of_ble_eq_true rfl, Nat.le_of_ble_eq_true rfl⟩ dX9_init_46 ?_
  refine Wt.mem (M1 := mm181) rfl ?_
  refine w_putRF (M1 := mm182) (ty := .array (.object "ReplayBooth$Board")) hB hb ff_X9_10 (hi rfl) sh_137 (by rw [mc181]; decide) q_229 (by decide +kernel) (nar_arr _ _) (fit_arr _ _) rfl dX9_init_49 ?_
  refine w_aload_n hB 0 dX9_init_52 rfl rfl ?_
  refine w_bipush hB 8 (by decide) dX9_init_53 ?_
  refine w_newqB hB hb (c := 6) (n := 145) q_72 hg.2.2.2.2.1 rfl sh_145 (by decide) sl_145 sgm182.2 (by rw [mc182]) (by decide) (by decide) ⟨Nat.le_of_ble_eq_true rfl, Nat.le_of_ble_eq_true rfl⟩ dX9_init_55 ?_
  refine Wt.mem (M1 := mm183) rfl ?_
  refine w_putRF (M1 := mm184) (ty := .array (.object "ReplayBooth$Play")) hB hb ff_X9_12 (hi rfl) sh_137 (by rw [mc183]; decide) q_234 (by decide +kernel) (nar_arr _ _) (fit_arr _ _) rfl dX9_init_58 ?_
  refine w_aload_n hB 0 dX9_init_61 rfl rfl ?_
  refine w_iconst hB 4 (by decide) dX9_init_62 ?_
  refine w_newI hB hb (n := 146) sh_146 sl_146 sgm184.2 (by rw [mc184]) (by decide) (by decide) ⟨Nat.le_of_ble_eq_true rfl, Nat.le_of_ble_eq_true rfl⟩ dX9_init_63 ?_
  refine Wt.mem (M1 := mm185) rfl ?_
  refine w_putRF (M1 := mm186) (ty := .array .int) hB hb ff_X9_13 (hi rfl) sh_137 (by rw [mc185]; decide) q_237 (by decide +kernel) (nar_arr _ _) (fit_arr _ _) rfl dX9_init_65 ?_
  refine w_iconst hB 0 (by decide) dX9_init_68 ?_
  refine w_istore_n hB (L' := [(1, vi 0), (0, vr 137)]) dX9_init_69 rfl (by decide) rfl rfl ?_
  refine w_iload_n hB 0 dX9_init_70 rfl rfl ?_
  refine w_iconst hB 5 (by decide) dX9_init_71 ?_
  refine w_icmp_ge hB 94 dX9_init_72 (by decide) (fun hc => absurd hc (by decide)) (fun _ => ?_)
  refine w_aload_n hB 1 dX9_init_75 rfl rfl ?_
  refine w_getRB (v := 143) hB ff_X9_8 sh_137 (by rw [mc186]; decide) (by decide +kernel) q_223 dX9_init_76 ?_
  refine w_iload_n hB 0 dX9_init_79 rfl rfl ?_
  refine w_newB hB hb (ci := 4) (N := 6) (n := 147) tyX5 rfl inG_X5 tyX5_ok dz_X5 q_68 q_74 q_12 (by rw [mc186]) sh_147 (by decide) sgm186.2 ⟨Nat.le_of_ble_eq_true rfl, Nat.le_of_ble_eq_true rfl⟩ dX9_init_80 ?_
  refine Wt.mem (M1 := mm187) rfl ?_
  refine w_dup hB rfl dX9_init_83 ?_
  refine w_callIN (M1 := mm191) hB (n := 147) (As := []) (st := [vr 147, vi 0, vr 143]) (na := 0) hg.2.1.2.1 q_12 q_77 ⟨by decide +kernel, by decide +kernel⟩ rfl q_76 (Or.inl (by decide)) (k22 hb hg) ⟨rfl, rfl⟩ (by decide) ⟨Nat.le_of_ble_eq_true rfl, Nat.le_of_ble_eq_true rfl⟩ rfl (Nat.le_of_ble_eq_true rfl) dX9_init_84 rfl ?_ (Or.inr (by rw [mc187, mc191]))
  refine w_aastB (M1 := mm192) hB hb (c := 4) (ci := 4) sh_143 (by decide) (by rw [mc191]; decide) sh_147 (by rw [mc191]; decide) rfl (by decide) rfl sl_143 (by decide) (by rw [show (0 : Int32).toNatClampNeg = 0 by decide]; rfl) dX9_init_87 ?_
  refine w_iinc hB 0 (v := 1) (L' := [(1, vi 1), (0, vr 137)]) dX9_init_88 rfl (by decide) (by decide) (by decide) rfl ?_
  refine w_goto hB 70 dX9_init_91 (by decide) ?_
  refine w_iload_n hB 0 dX9_init_70 rfl rfl ?_
  refine w_iconst hB 5 (by decide) dX9_init_71 ?_
  refine w_icmp_ge hB 94 dX9_init_72 (by decide) (fun hc => absurd hc (by decide)) (fun _ => ?_)
  refine w_aload_n hB 1 dX9_init_75 rfl rfl ?_
  refine w_getRB (v := 143) hB ff_X9_8 sh_137 (by rw [mc192]; decide) (by decide +kernel) q_223 dX9_init_76 ?_
  refine w_iload_n hB 0 dX9_init_79 rfl rfl ?_
  refine w_newB hB hb (ci := 4) (N := 6) (n := 150) tyX5 rfl inG_X5 tyX5_ok dz_X5 q_68 q_74 q_12 (by rw [mc192]) sh_150 (by decide) sgm192.2 ⟨Nat.le_of_ble_eq_true rfl, Nat.le_of_ble_eq_true rfl⟩ dX9_init_80 ?_
  refine Wt.mem (M1 := mm193) rfl ?_
  refine w_dup hB rfl dX9_init_83 ?_
  refine w_callIN (M1 := mm197) hB (n := 150) (As := []) (st := [vr 150, vi 1, vr 143]) (na := 0) hg.2.1.2.1 q_12 q_77 ⟨by decide +kernel, by decide +kernel⟩ rfl q_76 (Or.inl (by decide)) (k23 hb hg) ⟨rfl, rfl⟩ (by decide) ⟨Nat.le_of_ble_eq_true rfl, Nat.le_of_ble_eq_true rfl⟩ rfl (Nat.le_of_ble_eq_true rfl) dX9_init_84 rfl ?_ (Or.inr (by rw [mc193, mc197]))
  refine w_aastB (M1 := mm198) hB hb (c := 4) (ci := 4) sh_143 (by decide) (by rw [mc197]; decide) sh_150 (by rw [mc197]; decide) rfl (by decide) rfl sl_143 (by decide) (by rw [show (1 : Int32).toNatClampNeg = 1 by decide]; rfl) dX9_init_87 ?_
  refine w_iinc hB 0 (v := 1) (L' := [(1, vi 2), (0, vr 137)]) dX9_init_88 rfl (by decide) (by decide) (by decide) rfl ?_
  refine w_goto hB 70 dX9_init_91 (by decide) ?_
  refine w_iload_n hB 0 dX9_init_70 rfl rfl ?_
  refine w_iconst hB 5 (by decide) dX9_init_71 ?_
  refine w_icmp_ge hB 94 dX9_init_72 (by decide) (fun hc => absurd hc (by decide)) (fun _ => ?_)
  refine w_aload_n hB 1 dX9_init_75 rfl rfl ?_
  refine w_getRB (v := 143) hB ff_X9_8 sh_137 (by rw [mc198]; decide) (by decide +kernel) q_223 dX9_init_76 ?_
  refine w_iload_n hB 0 dX9_init_79 rfl rfl ?_
  refine w_newB hB hb (ci := 4) (N := 6) (n := 153) tyX5 rfl inG_X5 tyX5_ok dz_X5 q_68 q_74 q_12 (by rw [mc198]) sh_153 (by decide) sgm198.2 ⟨Nat.le_of_ble_eq_true rfl, Nat.le_of_ble_eq_true rfl⟩ dX9_init_80 ?_
  refine Wt.mem (M1 := mm199) rfl ?_
  refine w_dup hB rfl dX9_init_83 ?_
  refine w_callIN (M1 := mm203) hB (n := 153) (As := []) (st := [vr 153, vi 2, vr 143]) (na := 0) hg.2.1.2.1 q_12 q_77 ⟨by decide +kernel, by decide +kernel⟩ rfl q_76 (Or.inl (by decide)) (k24 hb hg) ⟨rfl, rfl⟩ (by decide) ⟨Nat.le_of_ble_eq_true rfl, Nat.le_of_ble_eq_true rfl⟩ rfl (Nat.le_of_ble_eq_true rfl) dX9_init_84 rfl ?_ (Or.inr (by rw [mc199, mc203]))
  refine w_aastB (M1 := mm204) hB hb (c := 4) (ci := 4) sh_143 (by decide) (by rw [mc203]; decide) sh_153 (by rw [mc203]; decide) rfl (by decide) rfl sl_143 (by decide) (by rw [show (2 : Int32).toNatClampNeg = 2 by decide]; rfl) dX9_init_87 ?_
  refine w_iinc hB 0 (v := 1) (L' := [(1, vi 3), (0, vr 137)]) dX9_init_88 rfl (by decide) (by decide) (by decide) rfl ?_
  refine w_goto hB 70 dX9_init_91 (by decide) ?_
  refine w_iload_n hB 0 dX9_init_70 rfl rfl ?_
  refine w_iconst hB 5 (by decide) dX9_init_71 ?_
  refine w_icmp_ge hB 94 dX9_init_72 (by decide) (fun hc => absurd hc (by decide)) (fun _ => ?_)
  refine w_aload_n hB 1 dX9_init_75 rfl rfl ?_
  refine w_getRB (v := 143) hB ff_X9_8 sh_137 (by rw [mc204]; decide) (by decide +kernel) q_223 dX9_init_76 ?_
  refine w_iload_n hB 0 dX9_init_79 rfl rfl ?_
  refine w_newB hB hb (ci := 4) (N := 6) (n := 156) tyX5 rfl inG_X5 tyX5_ok dz_X5 q_68 q_74 q_12 (by rw [mc204]) sh_156 (by decide) sgm204.2 ⟨Nat.le_of_ble_eq_true rfl, Nat.le_of_ble_eq_true rfl⟩ dX9_init_80 ?_
  refine Wt.mem (M1 := mm205) rfl ?_
  refine w_dup hB rfl dX9_init_83 ?_
  refine w_callIN (M1 := mm209) hB (n := 156) (As := []) (st := [vr 156, vi 3, vr 143]) (na := 0) hg.2.1.2.1 q_12 q_77 ⟨by decide +kernel, by decide +kernel⟩ rfl q_76 (Or.inl (by decide)) (k25 hb hg) ⟨rfl, rfl⟩ (by decide) ⟨Nat.le_of_ble_eq_true rfl, Nat.le_of_ble_eq_true rfl⟩ rfl (Nat.le_of_ble_eq_true rfl) dX9_init_84 rfl ?_ (Or.inr (by rw [mc205, mc209]))
  refine w_aastB (M1 := mm210) hB hb (c := 4) (ci := 4) sh_143 (by decide) (by rw [mc209]; decide) sh_156 (by rw [mc209]; decide) rfl (by decide) rfl sl_143 (by decide) (by rw [show (3 : Int32).toNatClampNeg = 3 by decide]; rfl) dX9_init_87 ?_
  refine w_iinc hB 0 (v := 1) (L' := [(1, vi 4), (0, vr 137)]) dX9_init_88 rfl (by decide) (by decide) (by decide) rfl ?_
  refine w_goto hB 70 dX9_init_91 (by decide) ?_
  refine w_iload_n hB 0 dX9_init_70 rfl rfl ?_
  refine w_iconst hB 5 (by decide) dX9_init_71 ?_
  refine w_icmp_ge hB 94 dX9_init_72 (by decide) (fun hc => absurd hc (by decide)) (fun _ => ?_)
  refine w_aload_n hB 1 dX9_init_75 rfl rfl ?_
  refine w_getRB (v := 143) hB ff_X9_8 sh_137 (by rw [mc210]; decide) (by decide +kernel) q_223 dX9_init_76 ?_
  refine w_iload_n hB 0 dX9_init_79 rfl rfl ?_
  refine w_newB hB hb (ci := 4) (N := 6) (n := 159) tyX5 rfl inG_X5 tyX5_ok dz_X5 q_68 q_74 q_12 (by rw [mc210]) sh_159 (by decide) sgm210.2 ⟨Nat.le_of_ble_eq_true rfl, Nat.le_of_ble_eq_true rfl⟩ dX9_init_80 ?_
  refine Wt.mem (M1 := mm211) rfl ?_
  refine w_dup hB rfl dX9_init_83 ?_
  refine w_callIN (M1 := mm215) hB (n := 159) (As := []) (st := [vr 159, vi 4, vr 143]) (na := 0) hg.2.1.2.1 q_12 q_77 ⟨by decide +kernel, by decide +kernel⟩ rfl q_76 (Or.inl (by decide)) (k26 hb hg) ⟨rfl, rfl⟩ (by decide) ⟨Nat.le_of_ble_eq_true rfl, Nat.le_of_ble_eq_true rfl⟩ rfl (Nat.le_of_ble_eq_true rfl) dX9_init_84 rfl ?_ (Or.inr (by rw [mc211, mc215]))
  refine w_aastB (M1 := mm216) hB hb (c := 4) (ci := 4) sh_143 (by decide) (by rw [mc215]; decide) sh_159 (by rw [mc215]; decide) rfl (by decide) rfl sl_143 (by decide) (by rw [show (4 : Int32).toNatClampNeg = 4 by decide]; rfl) dX9_init_87 ?_
  refine w_iinc hB 0 (v := 1) (L' := [(1, vi 5), (0, vr 137)]) dX9_init_88 rfl (by decide) (by decide) (by decide) rfl ?_
  refine w_goto hB 70 dX9_init_91 (by decide) ?_
  refine w_iload_n hB 0 dX9_init_70 rfl rfl ?_
  refine w_iconst hB 5 (by decide) dX9_init_71 ?_
  refine w_icmp_ge hB 94 dX9_init_72 (by decide) (fun _ => ?_) (fun hc => absurd (by decide) hc)
  refine w_iconst hB 0 (by decide) dX9_init_94 ?_
  refine w_istore_n hB (L' := [(1, vi 0), (0, vr 137)]) dX9_init_95 rfl (by decide) rfl rfl ?_
  refine w_iload_n hB 0 dX9_init_96 rfl rfl ?_
  refine w_iconst hB 3 (by decide) dX9_init_97 ?_
  refine w_icmp_ge hB 120 dX9_init_98 (by decide) (fun hc => absurd hc (by decide)) (fun _ => ?_)
  refine w_aload_n hB 1 dX9_init_101 rfl rfl ?_
  refine w_getRB (v := 144) hB ff_X9_10 sh_137 (by rw [mc216]; decide) (by decide +kernel) q_229 dX9_init_102 ?_
  refine w_iload_n hB 0 dX9_init_105 rfl rfl ?_
  refine w_newB hB hb (ci := 0) (N := 3) (n := 162) tyX1 rfl inG_X1 tyX1_ok dz_X1 q_70 q_103 q_13 (by rw [mc216]) sh_162 (by decide) sgm216.2 ⟨Nat.le_of_ble_eq_true rfl, Nat.le_of_ble_eq_true rfl⟩ dX9_init_106 ?_
  refine Wt.mem (M1 := mm217) rfl ?_
  refine w_dup hB rfl dX9_init_109 ?_
  refine w_callIN (M1 := mm219) hB (n := 162) (As := []) (st := [vr 162, vi 0, vr 144]) (na := 0) hg.2.1.2.2.1 q_13 q_106 ⟨by decide +kernel, by decide +kernel⟩ rfl q_105 (Or.inl (by decide)) (k27 hb hg) ⟨rfl, rfl⟩ (by decide) ⟨Nat.le_of_ble_eq_true rfl, Nat.le_of_ble_eq_true rfl⟩ rfl (Nat.le_of_ble_eq_true rfl) dX9_init_110 rfl ?_ (Or.inr (by rw [mc217, mc219]))
  refine w_aastB (M1 := mm220) hB hb (c := 5) (ci := 0) sh_144 (by decide) (by rw [mc219]; decide) sh_162 (by rw [mc219]; decide) rfl (by decide) rfl sl_144 (by decide) (by rw [show (0 : Int32).toNatClampNeg = 0 by decide]; rfl) dX9_init_113 ?_
  refine w_iinc hB 0 (v := 1) (L' := [(1, vi 1), (0, vr 137)]) dX9_init_114 rfl (by decide) (by decide) (by decide) rfl ?_
  refine w_goto hB 96 dX9_init_117 (by decide) ?_
  refine w_iload_n hB 0 dX9_init_96 rfl rfl ?_
  refine w_iconst hB 3 (by decide) dX9_init_97 ?_
  refine w_icmp_ge hB 120 dX9_init_98 (by decide) (fun hc => absurd hc (by decide)) (fun _ => ?_)
  refine w_aload_n hB 1 dX9_init_101 rfl rfl ?_
  refine w_getRB (v := 144) hB ff_X9_10 sh_137 (by rw [mc220]; decide) (by decide +kernel) q_229 dX9_init_102 ?_
  refine w_iload_n hB 0 dX9_init_105 rfl rfl ?_
  refine w_newB hB hb (ci := 0) (N := 3) (n := 164) tyX1 rfl inG_X1 tyX1_ok dz_X1 q_70 q_103 q_13 (by rw [mc220]) sh_164 (by decide) sgm220.2 ⟨Nat.le_of_ble_eq_true rfl, Nat.le_of_ble_eq_true rfl⟩ dX9_init_106 ?_
  refine Wt.mem (M1 := mm221) rfl ?_
  refine w_dup hB rfl dX9_init_109 ?_
  refine w_callIN (M1 := mm223) hB (n := 164) (As := []) (st := [vr 164, vi 1, vr 144]) (na := 0) hg.2.1.2.2.1 q_13 q_106 ⟨by decide +kernel, by decide +kernel⟩ rfl q_105 (Or.inl (by decide)) (k28 hb hg) ⟨rfl, rfl⟩ (by decide) ⟨Nat.le_of_ble_eq_true rfl, Nat.le_of_ble_eq_true rfl⟩ rfl (Nat.le_of_ble_eq_true rfl) dX9_init_110 rfl ?_ (Or.inr (by rw [mc221, mc223]))
  refine w_aastB (M1 := mm224) hB hb (c := 5) (ci := 0) sh_144 (by decide) (by rw [mc223]; decide) sh_164 (by rw [mc223]; decide) rfl (by decide) rfl sl_144 (by decide) (by rw [show (1 : Int32).toNatClampNeg = 1 by decide]; rfl) dX9_init_113 ?_
  refine w_iinc hB 0 (v := 1) (L' := [(1, vi 2), (0, vr 137)]) dX9_init_114 rfl (by decide) (by decide) (by decide) rfl ?_
  refine w_goto hB 96 dX9_init_117 (by decide) ?_
  refine w_iload_n hB 0 dX9_init_96 rfl rfl ?_
  refine w_iconst hB 3 (by decide) dX9_init_97 ?_
  refine w_icmp_ge hB 120 dX9_init_98 (by decide) (fun hc => absurd hc (by decide)) (fun _ => ?_)
  refine w_aload_n hB 1 dX9_init_101 rfl rfl ?_
  refine w_getRB (v := 144) hB ff_X9_10 sh_137 (by rw [mc224]; decide) (by decide +kernel) q_229 dX9_init_102 ?_
  refine w_iload_n hB 0 dX9_init_105 rfl rfl ?_
  refine w_newB hB hb (ci := 0) (N := 3) (n := 166) tyX1 rfl inG_X1 tyX1_ok dz_X1 q_70 q_103 q_13 (by rw [mc224]) sh_166 (by decide) sgm224.2 ⟨Nat.le_of_ble_eq_true rfl, Nat.le_of_ble_eq_true rfl⟩ dX9_init_106 ?_
  refine Wt.mem (M1 := mm225) rfl ?_
  refine w_dup hB rfl dX9_init_109 ?_
  refine w_callIN (M1 := mm227) hB (n := 166) (As := []) (st := [vr 166, vi 2, vr 144]) (na := 0) hg.2.1.2.2.1 q_13 q_106 ⟨by decide +kernel, by decide +kernel⟩ rfl q_105 (Or.inl (by decide)) (k29 hb hg) ⟨rfl, rfl⟩ (by decide) ⟨Nat.le_of_ble_eq_true rfl, Nat.le_of_ble_eq_true rfl⟩ rfl (Nat.le_of_ble_eq_true rfl) dX9_init_110 rfl ?_ (Or.inr (by rw [mc225, mc227]))
  refine w_aastB (M1 := mm228) hB hb (c := 5) (ci := 0) sh_144 (by decide) (by rw [mc227]; decide) sh_166 (by rw [mc227]; decide) rfl (by decide) rfl sl_144 (by decide) (by rw [show (2 : Int32).toNatClampNeg = 2 by decide]; rfl) dX9_init_113 ?_
  refine w_iinc hB 0 (v := 1) (L' := [(1, vi 3), (0, vr 137)]) dX9_init_114 rfl (by decide) (by decide) (by decide) rfl ?_
  refine w_goto hB 96 dX9_init_117 (by decide) ?_
  refine w_iload_n hB 0 dX9_init_96 rfl rfl ?_
  refine w_iconst hB 3 (by decide) dX9_init_97 ?_
  refine w_icmp_ge hB 120 dX9_init_98 (by decide) (fun _ => ?_) (fun hc => absurd (by decide) hc)
  refine w_iconst hB 0 (by decide) dX9_init_120 ?_
  refine w_istore_n hB (L' := [(1, vi 0), (0, vr 137)]) dX9_init_121 rfl (by decide) rfl rfl ?_
  refine w_iload_n hB 0 dX9_init_122 rfl rfl ?_
  refine w_bipush hB 8 (by decide) dX9_init_123 ?_
  refine w_icmp_ge hB 147 dX9_init_125 (by decide) (fun hc => absurd hc (by decide)) (fun _ => ?_)
  refine w_aload_n hB 1 dX9_init_128 rfl rfl ?_
  refine w_getRB (v := 145) hB ff_X9_12 sh_137 (by rw [mc228]; decide) (by decide +kernel) q_234 dX9_init_129 ?_
  refine w_iload_n hB 0 dX9_init_132 rfl rfl ?_
  refine w_newB hB hb (ci := 5) (N := 12) (n := 168) tyX6 rfl inG_X6 tyX6_ok dz_X6 q_72 q_119 q_14 (by rw [mc228]) sh_168 (by decide) sgm228.2 ⟨Nat.le_of_ble_eq_true rfl, Nat.le_of_ble_eq_true rfl⟩ dX9_init_133 ?_
  refine Wt.mem (M1 := mm229) rfl ?_
  refine w_dup hB rfl dX9_init_136 ?_
  refine w_callIN (M1 := mm237) hB (n := 168) (As := []) (st := [vr 168, vi 0, vr 145]) (na := 0) hg.2.1.2.2.2.1 q_14 q_122 ⟨by decide +kernel, by decide +kernel⟩ rfl q_121 (Or.inl (by decide)) (k30 hb hg) ⟨rfl, rfl⟩ (by decide) ⟨Nat.le_of_ble_eq_true rfl, Nat.le_of_ble_eq_true rfl⟩ rfl (Nat.le_of_ble_eq_true rfl) dX9_init_137 rfl ?_ (Or.inr (by rw [mc229, mc237]))
  refine w_aastB (M1 := mm238) hB hb (c := 6) (ci := 5) sh_145 (by decide) (by rw [mc237]; decide) sh_168 (by rw [mc237]; decide) rfl (by decide) rfl sl_145 (by decide) (by rw [show (0 : Int32).toNatClampNeg = 0 by decide]; rfl) dX9_init_140 ?_
  refine w_iinc hB 0 (v := 1) (L' := [(1, vi 1), (0, vr 137)]) dX9_init_141 rfl (by decide) (by decide) (by decide) rfl ?_
  refine w_goto hB 122 dX9_init_144 (by decide) ?_
  refine w_iload_n hB 0 dX9_init_122 rfl rfl ?_
  refine w_bipush hB 8 (by decide) dX9_init_123 ?_
  refine w_icmp_ge hB 147 dX9_init_125 (by decide) (fun hc => absurd hc (by decide)) (fun _ => ?_)
  refine w_aload_n hB 1 dX9_init_128 rfl rfl ?_
  refine w_getRB (v := 145) hB ff_X9_12 sh_137 (by rw [mc238]; decide) (by decide +kernel) q_234 dX9_init_129 ?_
  refine w_iload_n hB 0 dX9_init_132 rfl rfl ?_
  refine w_newB hB hb (ci := 5) (N := 12) (n := 173) tyX6 rfl inG_X6 tyX6_ok dz_X6 q_72 q_119 q_14 (by rw [mc238]) sh_173 (by decide) sgm238.2 ⟨Nat.le_of_ble_eq_true rfl, Nat.le_of_ble_eq_true rfl⟩ dX9_init_133 ?_
  refine Wt.mem (M1 := mm239) rfl ?_
  refine w_dup hB rfl dX9_init_136 ?_
  refine w_callIN (M1 := mm247) hB (n := 173) (As := []) (st := [vr 173, vi 1, vr 145]) (na := 0) hg.2.1.2.2.2.1 q_14 q_122 ⟨by decide +kernel, by decide +kernel⟩ rfl q_121 (Or.inl (by decide)) (k31 hb hg) ⟨rfl, rfl⟩ (by decide) ⟨Nat.le_of_ble_eq_true rfl, Nat.le_of_ble_eq_true rfl⟩ rfl (Nat.le_of_ble_eq_true rfl) dX9_init_137 rfl ?_ (Or.inr (by rw [mc239, mc247]))
  refine w_aastB (M1 := mm248) hB hb (c := 6) (ci := 5) sh_145 (by decide) (by rw [mc247]; decide) sh_173 (by rw [mc247]; decide) rfl (by decide) rfl sl_145 (by decide) (by rw [show (1 : Int32).toNatClampNeg = 1 by decide]; rfl) dX9_init_140 ?_
  refine w_iinc hB 0 (v := 1) (L' := [(1, vi 2), (0, vr 137)]) dX9_init_141 rfl (by decide) (by decide) (by decide) rfl ?_
  refine w_goto hB 122 dX9_init_144 (by decide) ?_
  refine w_iload_n hB 0 dX9_init_122 rfl rfl ?_
  refine w_bipush hB 8 (by decide) dX9_init_123 ?_
  refine w_icmp_ge hB 147 dX9_init_125 (by decide) (fun hc => absurd hc (by decide)) (fun _ => ?_)
  refine w_aload_n hB 1 dX9_init_128 rfl rfl ?_
  refine w_getRB (v := 145) hB ff_X9_12 sh_137 (by rw [mc248]; decide) (by decide +kernel) q_234 dX9_init_129 ?_
  refine w_iload_n hB 0 dX9_init_132 rfl rfl ?_
  refine w_newB hB hb (ci := 5) (N := 12) (n := 178) tyX6 rfl inG_X6 tyX6_ok dz_X6 q_72 q_119 q_14 (by rw [mc248]) sh_178 (by decide) sgm248.2 ⟨Nat.le_of_ble_eq_true rfl, Nat.le_of_ble_eq_true rfl⟩ dX9_init_133 ?_
  refine Wt.mem (M1 := mm249) rfl ?_
  refine w_dup hB rfl dX9_init_136 ?_
  refine w_callIN (M1 := mm257) hB (n := 178) (As := []) (st := [vr 178, vi 2, vr 145]) (na := 0) hg.2.1.2.2.2.1 q_14 q_122 ⟨by decide +kernel, by decide +kernel⟩ rfl q_121 (Or.inl (by decide)) (k32 hb hg) ⟨rfl, rfl⟩ (by decide) ⟨Nat.le_of_ble_eq_true rfl, Nat.le_of_ble_eq_true rfl⟩ rfl (Nat.le_of_ble_eq_true rfl) dX9_init_137 rfl ?_ (Or.inr (by rw [mc249, mc257]))
  refine w_aastB (M1 := mm258) hB hb (c := 6) (ci := 5) sh_145 (by decide) (by rw [mc257]; decide) sh_178 (by rw [mc257]; decide) rfl (by decide) rfl sl_145 (by decide) (by rw [show (2 : Int32).toNatClampNeg = 2 by decide]; rfl) dX9_init_140 ?_
  refine w_iinc hB 0 (v := 1) (L' := [(1, vi 3), (0, vr 137)]) dX9_init_141 rfl (by decide) (by decide) (by decide) rfl ?_
  refine w_goto hB 122 dX9_init_144 (by decide) ?_
  refine w_iload_n hB 0 dX9_init_122 rfl rfl ?_
  refine w_bipush hB 8 (by decide) dX9_init_123 ?_
  refine w_icmp_ge hB 147 dX9_init_125 (by decide) (fun hc => absurd hc (by decide)) (fun _ => ?_)
  refine w_aload_n hB 1 dX9_init_128 rfl rfl ?_
  refine w_getRB (v := 145) hB ff_X9_12 sh_137 (by rw [mc258]; decide) (by decide +kernel) q_234 dX9_init_129 ?_
  refine w_iload_n hB 0 dX9_init_132 rfl rfl ?_
  refine w_newB hB hb (ci := 5) (N := 12) (n := 183) tyX6 rfl inG_X6 tyX6_ok dz_X6 q_72 q_119 q_14 (by rw [mc258]) sh_183 (by decide) sgm258.2 ⟨Nat.le_of_ble_eq_true rfl, Nat.le_of_ble_eq_true rfl⟩ dX9_init_133 ?_
  refine Wt.mem (M1 := mm259) rfl ?_
  refine w_dup hB rfl dX9_init_136 ?_
  refine w_callIN (M1 := mm267) hB (n := 183) (As := []) (st := [vr 183, vi 3, vr 145]) (na := 0) hg.2.1.2.2.2.1 q_14 q_122 ⟨by decide +kernel, by decide +kernel⟩ rfl q_121 (Or.inl (by decide)) (k33 hb hg) ⟨rfl, rfl⟩ (by decide) ⟨Nat.le_of_ble_eq_true rfl, Nat.le_of_ble_eq_true rfl⟩ rfl (Nat.le_of_ble_eq_true rfl) dX9_init_137 rfl ?_ (Or.inr (by rw [mc259, mc267]))
  refine w_aastB (M1 := mm268) hB hb (c := 6) (ci := 5) sh_145 (by decide) (by rw [mc267]; decide) sh_183 (by rw [mc267]; decide) rfl (by decide) rfl sl_145 (by decide) (by rw [show (3 : Int32).toNatClampNeg = 3 by decide]; rfl) dX9_init_140 ?_
  refine w_iinc hB 0 (v := 1) (L' := [(1, vi 4), (0, vr 137)]) dX9_init_141 rfl (by decide) (by decide) (by decide) rfl ?_
  refine w_goto hB 122 dX9_init_144 (by decide) ?_
  refine w_iload_n hB 0 dX9_init_122 rfl rfl ?_
  refine w_bipush hB 8 (by decide) dX9_init_123 ?_
  refine w_icmp_ge hB 147 dX9_init_125 (by decide) (fun hc => absurd hc (by decide)) (fun _ => ?_)
  refine w_aload_n hB 1 dX9_init_128 rfl rfl ?_
  refine w_getRB (v := 145) hB ff_X9_12 sh_137 (by rw [mc268]; decide) (by decide +kernel) q_234 dX9_init_129 ?_
  refine w_iload_n hB 0 dX9_init_132 rfl rfl ?_
  refine w_newB hB hb (ci := 5) (N := 12) (n := 188) tyX6 rfl inG_X6 tyX6_ok dz_X6 q_72 q_119 q_14 (by rw [mc268]) sh_188 (by decide) sgm268.2 ⟨Nat.le_of_ble_eq_true rfl, Nat.le_of_ble_eq_true rfl⟩ dX9_init_133 ?_
  refine Wt.mem (M1 := mm269) rfl ?_
  refine w_dup hB rfl dX9_init_136 ?_
  refine w_callIN (M1 := mm277) hB (n := 188) (As := []) (st := [vr 188, vi 4, vr 145]) (na := 0) hg.2.1.2.2.2.1 q_14 q_122 ⟨by decide +kernel, by decide +kernel⟩ rfl q_121 (Or.inl (by decide)) (k34 hb hg) ⟨rfl, rfl⟩ (by decide) ⟨Nat.le_of_ble_eq_true rfl, Nat.le_of_ble_eq_true rfl⟩ rfl (Nat.le_of_ble_eq_true rfl) dX9_init_137 rfl ?_ (Or.inr (by rw [mc269, mc277]))
  refine w_aastB (M1 := mm278) hB hb (c := 6) (ci := 5) sh_145 (by decide) (by rw [mc277]; decide) sh_188 (by rw [mc277]; decide) rfl (by decide) rfl sl_145 (by decide) (by rw [show (4 : Int32).toNatClampNeg = 4 by decide]; rfl) dX9_init_140 ?_
  refine w_iinc hB 0 (v := 1) (L' := [(1, vi 5), (0, vr 137)]) dX9_init_141 rfl (by decide) (by decide) (by decide) rfl ?_
  refine w_goto hB 122 dX9_init_144 (by decide) ?_
  refine w_iload_n hB 0 dX9_init_122 rfl rfl ?_
  refine w_bipush hB 8 (by decide) dX9_init_123 ?_
  refine w_icmp_ge hB 147 dX9_init_125 (by decide) (fun hc => absurd hc (by decide)) (fun _ => ?_)
  refine w_aload_n hB 1 dX9_init_128 rfl rfl ?_
  refine w_getRB (v := 145) hB ff_X9_12 sh_137 (by rw [mc278]; decide) (by decide +kernel) q_234 dX9_init_129 ?_
  refine w_iload_n hB 0 dX9_init_132 rfl rfl ?_
  refine w_newB hB hb (ci := 5) (N := 12) (n := 193) tyX6 rfl inG_X6 tyX6_ok dz_X6 q_72 q_119 q_14 (by rw [mc278]) sh_193 (by decide) sgm278.2 ⟨Nat.le_of_ble_eq_true rfl, Nat.le_of_ble_eq_true rfl⟩ dX9_init_133 ?_
  refine Wt.mem (M1 := mm279) rfl ?_
  refine w_dup hB rfl dX9_init_136 ?_
  refine w_callIN (M1 := mm287) hB (n := 193) (As := []) (st := [vr 193, vi 5, vr 145]) (na := 0) hg.2.1.2.2.2.1 q_14 q_122 ⟨by decide +kernel, by decide +kernel⟩ rfl q_121 (Or.inl (by decide)) (k35 hb hg) ⟨rfl, rfl⟩ (by decide) ⟨Nat.le_of_ble_eq_true rfl, Nat.le_of_ble_eq_true rfl⟩ rfl (Nat.le_of_ble_eq_true rfl) dX9_init_137 rfl ?_ (Or.inr (by rw [mc279, mc287]))
  refine w_aastB (M1 := mm288) hB hb (c := 6) (ci := 5) sh_145 (by decide) (by rw [mc287]; decide) sh_193 (by rw [mc287]; decide) rfl (by decide) rfl sl_145 (by decide) (by rw [show (5 : Int32).toNatClampNeg = 5 by decide]; rfl) dX9_init_140 ?_
  refine w_iinc hB 0 (v := 1) (L' := [(1, vi 6), (0, vr 137)]) dX9_init_141 rfl (by decide) (by decide) (by decide) rfl ?_
  refine w_goto hB 122 dX9_init_144 (by decide) ?_
  refine w_iload_n hB 0 dX9_init_122 rfl rfl ?_
  refine w_bipush hB 8 (by decide) dX9_init_123 ?_
  refine w_icmp_ge hB 147 dX9_init_125 (by decide) (fun hc => absurd hc (by decide)) (fun _ => ?_)
  refine w_aload_n hB 1 dX9_init_128 rfl rfl ?_
  refine w_getRB (v := 145) hB ff_X9_12 sh_137 (by rw [mc288]; decide) (by decide +kernel) q_234 dX9_init_129 ?_
  refine w_iload_n hB 0 dX9_init_132 rfl rfl ?_
  refine w_newB hB hb (ci := 5) (N := 12) (n := 198) tyX6 rfl inG_X6 tyX6_ok dz_X6 q_72 q_119 q_14 (by rw [mc288]) sh_198 (by decide) sgm288.2 ⟨Nat.le_of_ble_eq_true rfl, Nat.le_of_ble_eq_true rfl⟩ dX9_init_133 ?_
  refine Wt.mem (M1 := mm289) rfl ?_
  refine w_dup hB rfl dX9_init_136 ?_
  refine w_callIN (M1 := mm297) hB (n := 198) (As := []) (st := [vr 198, vi 6, vr 145]) (na := 0) hg.2.1.2.2.2.1 q_14 q_122 ⟨by decide +kernel, by decide +kernel⟩ rfl q_121 (Or.inl (by decide)) (k36 hb hg) ⟨rfl, rfl⟩ (by decide) ⟨Nat.le_of_ble_eq_true rfl, Nat.le_of_ble_eq_true rfl⟩ rfl (Nat.le_of_ble_eq_true rfl) dX9_init_137 rfl ?_ (Or.inr (by rw [mc289, mc297]))
  refine w_aastB (M1 := mm298) hB hb (c := 6) (ci := 5) sh_145 (by decide) (by rw [mc297]; decide) sh_198 (by rw [mc297]; decide) rfl (by decide) rfl sl_145 (by decide) (by rw [show (6 : Int32).toNatClampNeg = 6 by decide]; rfl) dX9_init_140 ?_
  refine w_iinc hB 0 (v := 1) (L' := [(1, vi 7), (0, vr 137)]) dX9_init_141 rfl (by decide) (by decide) (by decide) rfl ?_
  refine w_goto hB 122 dX9_init_144 (by decide) ?_
  refine w_iload_n hB 0 dX9_init_122 rfl rfl ?_
  refine w_bipush hB 8 (by decide) dX9_init_123 ?_
  refine w_icmp_ge hB 147 dX9_init_125 (by decide) (fun hc => absurd hc (by decide)) (fun _ => ?_)
  refine w_aload_n hB 1 dX9_init_128 rfl rfl ?_
  refine w_getRB (v := 145) hB ff_X9_12 sh_137 (by rw [mc298]; decide) (by decide +kernel) q_234 dX9_init_129 ?_
  refine w_iload_n hB 0 dX9_init_132 rfl rfl ?_
  refine w_newB hB hb (ci := 5) (N := 12) (n := 203) tyX6 rfl inG_X6 tyX6_ok dz_X6 q_72 q_119 q_14 (by rw [mc298]) sh_203 (by decide) sgm298.2 ⟨Nat.le_of_ble_eq_true rfl, Nat.le_of_ble_eq_true rfl⟩ dX9_init_133 ?_
  refine Wt.mem (M1 := mm299) rfl ?_
  refine w_dup hB rfl dX9_init_136 ?_
  refine w_callIN (M1 := mm307) hB (n := 203) (As := []) (st := [vr 203, vi 7, vr 145]) (na := 0) hg.2.1.2.2.2.1 q_14 q_122 ⟨by decide +kernel, by decide +kernel⟩ rfl q_121 (Or.inl (by decide)) (k37 hb hg) ⟨rfl, rfl⟩ (by decide) ⟨Nat.le_of_ble_eq_true rfl, Nat.le_of_ble_eq_true rfl⟩ rfl (Nat.le_of_ble_eq_true rfl) dX9_init_137 rfl ?_ (Or.inr (by rw [mc299, mc307]))
  refine w_aastB (M1 := mm308) hB hb (c := 6) (ci := 5) sh_145 (by decide) (by rw [mc307]; decide) sh_203 (by rw [mc307]; decide) rfl (by decide) rfl sl_145 (by decide) (by rw [show (7 : Int32).toNatClampNeg = 7 by decide]; rfl) dX9_init_140 ?_
  refine w_iinc hB 0 (v := 1) (L' := [(1, vi 8), (0, vr 137)]) dX9_init_141 rfl (by decide) (by decide) (by decide) rfl ?_
  refine w_goto hB 122 dX9_init_144 (by decide) ?_
  refine w_iload_n hB 0 dX9_init_122 rfl rfl ?_
  refine w_bipush hB 8 (by decide) dX9_init_123 ?_
  refine w_icmp_ge hB 147 dX9_init_125 (by decide) (fun _ => ?_) (fun hc => absurd (by decide) hc)
  refine w_aload_n hB 1 dX9_init_147 rfl rfl ?_
  refine w_callV (M1 := mm330) hB (ci := 7) (As := []) (st := []) cw_X9_52 q_185 q_186 rfl (smM sh_137 (by decide) (by rw [mc308]; decide)) (k39 hb hg) ⟨rfl, rfl⟩ (by decide) ⟨Nat.le_of_ble_eq_true rfl, Nat.le_of_ble_eq_true rfl⟩ rfl (Nat.le_of_ble_eq_true rfl) dX9_init_148 rfl ?_ (Or.inl rfl)
  exact w_vret hB dX9_init_151
set_option maxRecDepth 100000 in
set_option maxHeartbeats 4000000 in
theorem k41 {K : Kt} {l : Launch} (hb : kP K = true) (hg : KBd K) : MT K l yX7_init cX7_init 3 none { frames := 1, cells := 3, slots := 75, locals := 20 } [vr 208, vr 65, vr 137] mm332 none mm341 3 75 := by
  refine MT_of (by decide) rfl (Nat.le_of_ble_eq_true rfl) (fun X _ hB hi => ?_)
  refine w_aload_n hB 0 dX7_init_0 rfl rfl ?_
  refine w_objinit hB (Or.inl (by decide)) q_274 q_43 q_oc (by decide) dX7_init_1 ?_
  refine w_aload_n hB 0 dX7_init_4 rfl rfl ?_
  refine w_gettokB hB hg.1 1 ⟨by decide, by decide⟩ q_275 dX7_init_5 ?_
  refine w_putRN (M1 := mm333) (ty := .object "ReplayBooth$Token") hB hb ff_X7_4 sh_208 (by rw [mc332]; decide) q_283 (by decide +kernel) (nar_obj _ _) (fit_obj _ _) rfl dX7_init_8 ?_
  refine w_aload_n hB 0 dX7_init_11 rfl rfl ?_
  refine w_bipush hB 25 (by decide) dX7_init_12 ?_
  refine w_newI hB hb (n := 209) sh_209 sl_209 sgm333.2 (by rw [mc333]) (by decide) (by decide) ⟨Nat.le_of_ble_eq_true rfl, Nat.le_of_ble_eq_true rfl⟩ dX7_init_14 ?_
  refine Wt.mem (M1 := mm334) rfl ?_
  refine w_putRF (M1 := mm335) (ty := .array .int) hB hb ff_X7_10 (hi rfl) sh_208 (by rw [mc334]; decide) q_291 (by decide +kernel) (nar_arr _ _) (fit_arr _ _) rfl dX7_init_16 ?_
  refine w_aload_n hB 0 dX7_init_19 rfl rfl ?_
  refine w_bipush hB 25 (by decide) dX7_init_20 ?_
  refine w_newqB hB hb (c := 8) (n := 210) q_277 hg.2.2.2.2.2.1 rfl sh_210 (by decide) sl_210 sgm335.2 (by rw [mc335]) (by decide) (by decide) ⟨Nat.le_of_ble_eq_true rfl, Nat.le_of_ble_eq_true rfl⟩ dX7_init_22 ?_
  refine Wt.mem (M1 := mm336) rfl ?_
  refine w_putRF (M1 := mm337) (ty := .array (.object "ReplayBooth$Token")) hB hb ff_X7_11 (hi rfl) sh_208 (by rw [mc336]; decide) q_292 (by decide +kernel) (nar_arr _ _) (fit_arr _ _) rfl dX7_init_25 ?_
  refine w_aload_n hB 0 dX7_init_28 rfl rfl ?_
  refine w_bipush hB 25 (by decide) dX7_init_29 ?_
  refine w_newI hB hb (n := 211) sh_211 sl_211 sgm337.2 (by rw [mc337]) (by decide) (by decide) ⟨Nat.le_of_ble_eq_true rfl, Nat.le_of_ble_eq_true rfl⟩ dX7_init_31 ?_
  refine Wt.mem (M1 := mm338) rfl ?_
  refine w_putRF (M1 := mm339) (ty := .array .int) hB hb ff_X7_12 (hi rfl) sh_208 (by rw [mc338]; decide) q_293 (by decide +kernel) (nar_arr _ _) (fit_arr _ _) rfl dX7_init_33 ?_
  refine w_aload_n hB 0 dX7_init_36 rfl rfl ?_
  refine w_aload_n hB 1 dX7_init_37 rfl rfl ?_
  refine w_putRF (M1 := mm340) (ty := .array .byte) hB hb ff_X7_0 (hi rfl) sh_208 (by rw [mc339]; decide) q_279 (by decide +kernel) (nar_arr _ _) (fit_arr _ _) rfl dX7_init_38 ?_
  refine w_aload_n hB 0 dX7_init_41 rfl rfl ?_
  refine w_aload_n hB 2 dX7_init_42 rfl rfl ?_
  refine w_putRN (M1 := mm341) (ty := .object "ReplayBooth$Told") hB hb ff_X7_1 sh_208 (by rw [mc340]; decide) q_280 (by decide +kernel) (nar_obj _ _) (fit_obj _ _) rfl dX7_init_43 ?_
  exact w_vret hB dX7_init_46
set_option maxRecDepth 100000 in
set_option maxHeartbeats 4000000 in
theorem k42 {K : Kt} {l : Launch} (hb : kP K = true) (hg : KBd K) : MT K l yX2_init cX2_init 1 none { frames := 1, cells := 1, slots := 100, locals := 20 } [vr 213] mm344 none mm346 1 100 := by
  refine MT_of (by decide) rfl (Nat.le_of_ble_eq_true rfl) (fun X _ hB hi => ?_)
  refine w_aload_n hB 0 dX2_init_0 rfl rfl ?_
  refine w_objinit hB (Or.inl (by decide)) q_56 q_43 q_oc (by decide) dX2_init_1 ?_
  refine w_aload_n hB 0 dX2_init_4 rfl rfl ?_
  refine w_bipush hB 100 (by decide) dX2_init_5 ?_
  refine w_newI hB hb (n := 214) sh_214 sl_214 sgm344.2 (by rw [mc344]) (by decide) (by decide) ⟨Nat.le_of_ble_eq_true rfl, Nat.le_of_ble_eq_true rfl⟩ dX2_init_7 ?_
  refine Wt.mem (M1 := mm345) rfl ?_
  refine w_putRF (M1 := mm346) (ty := .array .int) hB hb ff_X2_0 (hi rfl) sh_213 (by rw [mc345]; decide) q_57 (by decide +kernel) (nar_arr _ _) (fit_arr _ _) rfl dX2_init_9 ?_
  exact w_vret hB dX2_init_12
set_option maxRecDepth 100000 in
set_option maxHeartbeats 4000000 in
theorem k43 {K : Kt} {l : Launch} (hb : kP K = true) (hg : KBd K) : MT K l yX2_init cX2_init 1 none { frames := 1, cells := 1, slots := 100, locals := 20 } [vr 215] mm348 none mm350 1 100 := by
  refine MT_of (by decide) rfl (Nat.le_of_ble_eq_true rfl) (fun X _ hB hi => ?_)
  refine w_aload_n hB 0 dX2_init_0 rfl rfl ?_
  refine w_objinit hB (Or.inl (by decide)) q_56 q_43 q_oc (by decide) dX2_init_1 ?_
  refine w_aload_n hB 0 dX2_init_4 rfl rfl ?_
  refine w_bipush hB 100 (by decide) dX2_init_5 ?_
  refine w_newI hB hb (n := 216) sh_216 sl_216 sgm348.2 (by rw [mc348]) (by decide) (by decide) ⟨Nat.le_of_ble_eq_true rfl, Nat.le_of_ble_eq_true rfl⟩ dX2_init_7 ?_
  refine Wt.mem (M1 := mm349) rfl ?_
  refine w_putRF (M1 := mm350) (ty := .array .int) hB hb ff_X2_0 (hi rfl) sh_215 (by rw [mc349]; decide) q_57 (by decide +kernel) (nar_arr _ _) (fit_arr _ _) rfl dX2_init_9 ?_
  exact w_vret hB dX2_init_12
set_option maxRecDepth 100000 in
set_option maxHeartbeats 4000000 in
theorem k44 {K : Kt} {l : Launch} (hb : kP K = true) (hg : KBd K) : MT K l yX4_init cX4_init 1 none { frames := 2, cells := 4, slots := 204, locals := 40 } [vr 212] mm343 none mm351 4 204 := by
  refine MT_of (by decide) rfl (Nat.le_of_ble_eq_true rfl) (fun X _ hB hi => ?_)
  refine w_aload_n hB 0 dX4_init_0 rfl rfl ?_
  refine w_objinit hB (Or.inl (by decide)) q_329 q_43 q_oc (by decide) dX4_init_1 ?_
  refine w_aload_n hB 0 dX4_init_4 rfl rfl ?_
  refine w_newB hB hb (ci := 1) (N := 2) (n := 213) tyX2 rfl inG_X2 tyX2_ok dz_X2 q_330 q_52 q_11 (by rw [mc343]) sh_213 (by decide) sgm343.2 ⟨Nat.le_of_ble_eq_true rfl, Nat.le_of_ble_eq_true rfl⟩ dX4_init_5 ?_
  refine Wt.mem (M1 := mm344) rfl ?_
  refine w_dup hB rfl dX4_init_8 ?_
  refine w_callIN (M1 := mm346) hB (n := 213) (As := []) (st := [vr 213, vr 212]) (na := 0) hg.2.1.2.2.2.2.2.1 q_11 q_55 ⟨by decide +kernel, by decide +kernel⟩ rfl q_54 (Or.inl (by decide)) (k42 hb hg) ⟨rfl, rfl⟩ (by decide) ⟨Nat.le_of_ble_eq_true rfl, Nat.le_of_ble_eq_true rfl⟩ rfl (Nat.le_of_ble_eq_true rfl) dX4_init_9 rfl ?_ (Or.inr (by rw [mc344, mc346]))
  refine w_putRF (M1 := mm347) (ty := .object "ReplayBooth$Bounds") hB hb ff_X4_0 (hi rfl) sh_212 (by rw [mc346]; decide) q_332 (by decide +kernel) (nar_obj _ _) (fit_obj _ _) rfl dX4_init_12 ?_
  refine w_aload_n hB 0 dX4_init_15 rfl rfl ?_
  refine w_newB hB hb (ci := 1) (N := 2) (n := 215) tyX2 rfl inG_X2 tyX2_ok dz_X2 q_330 q_52 q_11 (by rw [mc347]) sh_215 (by decide) sgm347.2 ⟨Nat.le_of_ble_eq_true rfl, Nat.le_of_ble_eq_true rfl⟩ dX4_init_16 ?_
  refine Wt.mem (M1 := mm348) rfl ?_
  refine w_dup hB rfl dX4_init_19 ?_
  refine w_callIN (M1 := mm350) hB (n := 215) (As := []) (st := [vr 215, vr 212]) (na := 0) hg.2.1.2.2.2.2.2.1 q_11 q_55 ⟨by decide +kernel, by decide +kernel⟩ rfl q_54 (Or.inl (by decide)) (k43 hb hg) ⟨rfl, rfl⟩ (by decide) ⟨Nat.le_of_ble_eq_true rfl, Nat.le_of_ble_eq_true rfl⟩ rfl (Nat.le_of_ble_eq_true rfl) dX4_init_20 rfl ?_ (Or.inr (by rw [mc348, mc350]))
  refine w_putRF (M1 := mm351) (ty := .object "ReplayBooth$Bounds") hB hb ff_X4_1 (hi rfl) sh_212 (by rw [mc350]; decide) q_333 (by decide +kernel) (nar_obj _ _) (fit_obj _ _) rfl dX4_init_23 ?_
  exact w_vret hB dX4_init_26
set_option maxRecDepth 100000 in
set_option maxHeartbeats 4000000 in
theorem k45 {K : Kt} {l : Launch} (hb : kP K = true) (hg : KBd K) : MT K l yX3_init cX3_init 1 none { frames := 1, cells := 5, slots := 88, locals := 20 } [vr 217] mm353 none mm363 5 88 := by
  refine MT_of (by decide) rfl (Nat.le_of_ble_eq_true rfl) (fun X _ hB hi => ?_)
  refine w_aload_n hB 0 dX3_init_0 rfl rfl ?_
  refine w_objinit hB (Or.inl (by decide)) q_348 q_43 q_oc (by decide) dX3_init_1 ?_
  refine w_aload_n hB 0 dX3_init_4 rfl rfl ?_
  refine w_bipush hB 8 (by decide) dX3_init_5 ?_
  refine w_newI hB hb (n := 218) sh_218 sl_218 sgm353.2 (by rw [mc353]) (by decide) (by decide) ⟨Nat.le_of_ble_eq_true rfl, Nat.le_of_ble_eq_true rfl⟩ dX3_init_7 ?_
  refine Wt.mem (M1 := mm354) rfl ?_
  refine w_putRF (M1 := mm355) (ty := .array .int) hB hb ff_X3_4 (hi rfl) sh_217 (by rw [mc354]; decide) q_354 (by decide +kernel) (nar_arr _ _) (fit_arr _ _) rfl dX3_init_9 ?_
  refine w_aload_n hB 0 dX3_init_12 rfl rfl ?_
  refine w_iconst hB 4 (by decide) dX3_init_13 ?_
  refine w_newI hB hb (n := 219) sh_219 sl_219 sgm355.2 (by rw [mc355]) (by decide) (by decide) ⟨Nat.le_of_ble_eq_true rfl, Nat.le_of_ble_eq_true rfl⟩ dX3_init_14 ?_
  refine Wt.mem (M1 := mm356) rfl ?_
  refine w_putRF (M1 := mm357) (ty := .array .int) hB hb ff_X3_5 (hi rfl) sh_217 (by rw [mc356]; decide) q_355 (by decide +kernel) (nar_arr _ _) (fit_arr _ _) rfl dX3_init_16 ?_
  refine w_aload_n hB 0 dX3_init_19 rfl rfl ?_
  refine w_iconst hB 4 (by decide) dX3_init_20 ?_
  refine w_newI hB hb (n := 220) sh_220 sl_220 sgm357.2 (by rw [mc357]) (by decide) (by decide) ⟨Nat.le_of_ble_eq_true rfl, Nat.le_of_ble_eq_true rfl⟩ dX3_init_21 ?_
  refine Wt.mem (M1 := mm358) rfl ?_
  refine w_putRF (M1 := mm359) (ty := .array .int) hB hb ff_X3_6 (hi rfl) sh_217 (by rw [mc358]; decide) q_356 (by decide +kernel) (nar_arr _ _) (fit_arr _ _) rfl dX3_init_23 ?_
  refine w_aload_n hB 0 dX3_init_26 rfl rfl ?_
  refine w_bipush hB 8 (by decide) dX3_init_27 ?_
  refine w_newI hB hb (n := 221) sh_221 sl_221 sgm359.2 (by rw [mc359]) (by decide) (by decide) ⟨Nat.le_of_ble_eq_true rfl, Nat.le_of_ble_eq_true rfl⟩ dX3_init_29 ?_
  refine Wt.mem (M1 := mm360) rfl ?_
  refine w_putRF (M1 := mm361) (ty := .array .int) hB hb ff_X3_7 (hi rfl) sh_217 (by rw [mc360]; decide) q_357 (by decide +kernel) (nar_arr _ _) (fit_arr _ _) rfl dX3_init_31 ?_
  refine w_aload_n hB 0 dX3_init_34 rfl rfl ?_
  refine w_bipush hB 64 (by decide) dX3_init_35 ?_
  refine w_newI hB hb (n := 222) sh_222 sl_222 sgm361.2 (by rw [mc361]) (by decide) (by decide) ⟨Nat.le_of_ble_eq_true rfl, Nat.le_of_ble_eq_true rfl⟩ dX3_init_37 ?_
  refine Wt.mem (M1 := mm362) rfl ?_
  refine w_putRF (M1 := mm363) (ty := .array .int) hB hb ff_X3_8 (hi rfl) sh_217 (by rw [mc362]; decide) q_358 (by decide +kernel) (nar_arr _ _) (fit_arr _ _) rfl dX3_init_39 ?_
  exact w_vret hB dX3_init_42
set_option maxRecDepth 100000 in
set_option maxHeartbeats 4000000 in
theorem k46 {K : Kt} {l : Launch} (hb : kP K = true) (hg : KBd K) : MT K l yX3_init cX3_init 1 none { frames := 1, cells := 5, slots := 88, locals := 20 } [vr 227] mm373 none mm383 5 88 := by
  refine MT_of (by decide) rfl (Nat.le_of_ble_eq_true rfl) (fun X _ hB hi => ?_)
  refine w_aload_n hB 0 dX3_init_0 rfl rfl ?_
  refine w_objinit hB (Or.inl (by decide)) q_348 q_43 q_oc (by decide) dX3_init_1 ?_
  refine w_aload_n hB 0 dX3_init_4 rfl rfl ?_
  refine w_bipush hB 8 (by decide) dX3_init_5 ?_
  refine w_newI hB hb (n := 228) sh_228 sl_228 sgm373.2 (by rw [mc373]) (by decide) (by decide) ⟨Nat.le_of_ble_eq_true rfl, Nat.le_of_ble_eq_true rfl⟩ dX3_init_7 ?_
  refine Wt.mem (M1 := mm374) rfl ?_
  refine w_putRF (M1 := mm375) (ty := .array .int) hB hb ff_X3_4 (hi rfl) sh_227 (by rw [mc374]; decide) q_354 (by decide +kernel) (nar_arr _ _) (fit_arr _ _) rfl dX3_init_9 ?_
  refine w_aload_n hB 0 dX3_init_12 rfl rfl ?_
  refine w_iconst hB 4 (by decide) dX3_init_13 ?_
  refine w_newI hB hb (n := 229) sh_229 sl_229 sgm375.2 (by rw [mc375]) (by decide) (by decide) ⟨Nat.le_of_ble_eq_true rfl, Nat.le_of_ble_eq_true rfl⟩ dX3_init_14 ?_
  refine Wt.mem (M1 := mm376) rfl ?_
  refine w_putRF (M1 := mm377) (ty := .array .int) hB hb ff_X3_5 (hi rfl) sh_227 (by rw [mc376]; decide) q_355 (by decide +kernel) (nar_arr _ _) (fit_arr _ _) rfl dX3_init_16 ?_
  refine w_aload_n hB 0 dX3_init_19 rfl rfl ?_
  refine w_iconst hB 4 (by decide) dX3_init_20 ?_
  refine w_newI hB hb (n := 230) sh_230 sl_230 sgm377.2 (by rw [mc377]) (by decide) (by decide) ⟨Nat.le_of_ble_eq_true rfl, Nat.le_of_ble_eq_true rfl⟩ dX3_init_21 ?_
  refine Wt.mem (M1 := mm378) rfl ?_
  refine w_putRF (M1 := mm379) (ty := .array .int) hB hb ff_X3_6 (hi rfl) sh_227 (by rw [mc378]; decide) q_356 (by decide +kernel) (nar_arr _ _) (fit_arr _ _) rfl dX3_init_23 ?_
  refine w_aload_n hB 0 dX3_init_26 rfl rfl ?_
  refine w_bipush hB 8 (by decide) dX3_init_27 ?_
  refine w_newI hB hb (n := 231) sh_231 sl_231 sgm379.2 (by rw [mc379]) (by decide) (by decide) ⟨Nat.le_of_ble_eq_true rfl, Nat.le_of_ble_eq_true rfl⟩ dX3_init_29 ?_
  refine Wt.mem (M1 := mm380) rfl ?_
  refine w_putRF (M1 := mm381) (ty := .array .int) hB hb ff_X3_7 (hi rfl) sh_227 (by rw [mc380]; decide) q_357 (by decide +kernel) (nar_arr _ _) (fit_arr _ _) rfl dX3_init_31 ?_
  refine w_aload_n hB 0 dX3_init_34 rfl rfl ?_
  refine w_bipush hB 64 (by decide) dX3_init_35 ?_
  refine w_newI hB hb (n := 232) sh_232 sl_232 sgm381.2 (by rw [mc381]) (by decide) (by decide) ⟨Nat.le_of_ble_eq_true rfl, Nat.le_of_ble_eq_true rfl⟩ dX3_init_37 ?_
  refine Wt.mem (M1 := mm382) rfl ?_
  refine w_putRF (M1 := mm383) (ty := .array .int) hB hb ff_X3_8 (hi rfl) sh_227 (by rw [mc382]; decide) q_358 (by decide +kernel) (nar_arr _ _) (fit_arr _ _) rfl dX3_init_39 ?_
  exact w_vret hB dX3_init_42
set_option maxRecDepth 100000 in
set_option maxHeartbeats 4000000 in
theorem k47 {K : Kt} {l : Launch} (hb : kP K = true) (hg : KBd K) : MT K l yX3_init cX3_init 1 none { frames := 1, cells := 5, slots := 88, locals := 20 } [vr 233] mm385 none mm395 5 88 := by
  refine MT_of (by decide) rfl (Nat.le_of_ble_eq_true rfl) (fun X _ hB hi => ?_)
  refine w_aload_n hB 0 dX3_init_0 rfl rfl ?_
  refine w_objinit hB (Or.inl (by decide)) q_348 q_43 q_oc (by decide) dX3_init_1 ?_
  refine w_aload_n hB 0 dX3_init_4 rfl rfl ?_
  refine w_bipush hB 8 (by decide) dX3_init_5 ?_
  refine w_newI hB hb (n := 234) sh_234 sl_234 sgm385.2 (by rw [mc385]) (by decide) (by decide) ⟨Nat.le_of_ble_eq_true rfl, Nat.le_of_ble_eq_true rfl⟩ dX3_init_7 ?_
  refine Wt.mem (M1 := mm386) rfl ?_
  refine w_putRF (M1 := mm387) (ty := .array .int) hB hb ff_X3_4 (hi rfl) sh_233 (by rw [mc386]; decide) q_354 (by decide +kernel) (nar_arr _ _) (fit_arr _ _) rfl dX3_init_9 ?_
  refine w_aload_n hB 0 dX3_init_12 rfl rfl ?_
  refine w_iconst hB 4 (by decide) dX3_init_13 ?_
  refine w_newI hB hb (n := 235) sh_235 sl_235 sgm387.2 (by rw [mc387]) (by decide) (by decide) ⟨Nat.le_of_ble_eq_true rfl, Nat.le_of_ble_eq_true rfl⟩ dX3_init_14 ?_
  refine Wt.mem (M1 := mm388) rfl ?_
  refine w_putRF (M1 := mm389) (ty := .array .int) hB hb ff_X3_5 (hi rfl) sh_233 (by rw [mc388]; decide) q_355 (by decide +kernel) (nar_arr _ _) (fit_arr _ _) rfl dX3_init_16 ?_
  refine w_aload_n hB 0 dX3_init_19 rfl rfl ?_
  refine w_iconst hB 4 (by decide) dX3_init_20 ?_
  refine w_newI hB hb (n := 236) sh_236 sl_236 sgm389.2 (by rw [mc389]) (by decide) (by decide) ⟨Nat.le_of_ble_eq_true rfl, Nat.le_of_ble_eq_true rfl⟩ dX3_init_21 ?_
  refine Wt.mem (M1 := mm390) rfl ?_
  refine w_putRF (M1 := mm391) (ty := .array .int) hB hb ff_X3_6 (hi rfl) sh_233 (by rw [mc390]; decide) q_356 (by decide +kernel) (nar_arr _ _) (fit_arr _ _) rfl dX3_init_23 ?_
  refine w_aload_n hB 0 dX3_init_26 rfl rfl ?_
  refine w_bipush hB 8 (by decide) dX3_init_27 ?_
  refine w_newI hB hb (n := 237) sh_237 sl_237 sgm391.2 (by rw [mc391]) (by decide) (by decide) ⟨Nat.le_of_ble_eq_true rfl, Nat.le_of_ble_eq_true rfl⟩ dX3_init_29 ?_
  refine Wt.mem (M1 := mm392) rfl ?_
  refine w_putRF (M1 := mm393) (ty := .array .int) hB hb ff_X3_7 (hi rfl) sh_233 (by rw [mc392]; decide) q_357 (by decide +kernel) (nar_arr _ _) (fit_arr _ _) rfl dX3_init_31 ?_
  refine w_aload_n hB 0 dX3_init_34 rfl rfl ?_
  refine w_bipush hB 64 (by decide) dX3_init_35 ?_
  refine w_newI hB hb (n := 238) sh_238 sl_238 sgm393.2 (by rw [mc393]) (by decide) (by decide) ⟨Nat.le_of_ble_eq_true rfl, Nat.le_of_ble_eq_true rfl⟩ dX3_init_37 ?_
  refine Wt.mem (M1 := mm394) rfl ?_
  refine w_putRF (M1 := mm395) (ty := .array .int) hB hb ff_X3_8 (hi rfl) sh_233 (by rw [mc394]; decide) q_358 (by decide +kernel) (nar_arr _ _) (fit_arr _ _) rfl dX3_init_39 ?_
  exact w_vret hB dX3_init_42
set_option maxRecDepth 100000 in
set_option maxHeartbeats 4000000 in
theorem k48 {K : Kt} {l : Launch} (hb : kP K = true) (hg : KBd K) : MT K l yX3_init cX3_init 1 none { frames := 1, cells := 5, slots := 88, locals := 20 } [vr 239] mm397 none mm407 5 88 := by
  refine MT_of (by decide) rfl (Nat.le_of_ble_eq_true rfl) (fun X _ hB hi => ?_)
  refine w_aload_n hB 0 dX3_init_0 rfl rfl ?_
  refine w_objinit hB (Or.inl (by decide)) q_348 q_43 q_oc (by decide) dX3_init_1 ?_
  refine w_aload_n hB 0 dX3_init_4 rfl rfl ?_
  refine w_bipush hB 8 (by decide) dX3_init_5 ?_
  refine w_newI hB hb (n := 240) sh_240 sl_240 sgm397.2 (by rw [mc397]) (by decide) (by decide) ⟨Nat.le_of_ble_eq_true rfl, Nat.le_of_ble_eq_true rfl⟩ dX3_init_7 ?_
  refine Wt.mem (M1 := mm398) rfl ?_
  refine w_putRF (M1 := mm399) (ty := .array .int) hB hb ff_X3_4 (hi rfl) sh_239 (by rw [mc398]; decide) q_354 (by decide +kernel) (nar_arr _ _) (fit_arr _ _) rfl dX3_init_9 ?_
  refine w_aload_n hB 0 dX3_init_12 rfl rfl ?_
  refine w_iconst hB 4 (by decide) dX3_init_13 ?_
  refine w_newI hB hb (n := 241) sh_241 sl_241 sgm399.2 (by rw [mc399]) (by decide) (by decide) ⟨Nat.le_of_ble_eq_true rfl, Nat.le_of_ble_eq_true rfl⟩ dX3_init_14 ?_
  refine Wt.mem (M1 := mm400) rfl ?_
  refine w_putRF (M1 := mm401) (ty := .array .int) hB hb ff_X3_5 (hi rfl) sh_239 (by rw [mc400]; decide) q_355 (by decide +kernel) (nar_arr _ _) (fit_arr _ _) rfl dX3_init_16 ?_
  refine w_aload_n hB 0 dX3_init_19 rfl rfl ?_
  refine w_iconst hB 4 (by decide) dX3_init_20 ?_
  refine w_newI hB hb (n := 242) sh_242 sl_242 sgm401.2 (by rw [mc401]) (by decide) (by decide) ⟨Nat.le_of_ble_eq_true rfl, Nat.le_of_ble_eq_true rfl⟩ dX3_init_21 ?_
  refine Wt.mem (M1 := mm402) rfl ?_
  refine w_putRF (M1 := mm403) (ty := .array .int) hB hb ff_X3_6 (hi rfl) sh_239 (by rw [mc402]; decide) q_356 (by decide +kernel) (nar_arr _ _) (fit_arr _ _) rfl dX3_init_23 ?_
  refine w_aload_n hB 0 dX3_init_26 rfl rfl ?_
  refine w_bipush hB 8 (by decide) dX3_init_27 ?_
  refine w_newI hB hb (n := 243) sh_243 sl_243 sgm403.2 (by rw [mc403]) (by decide) (by decide) ⟨Nat.le_of_ble_eq_true rfl, Nat.le_of_ble_eq_true rfl⟩ dX3_init_29 ?_
  refine Wt.mem (M1 := mm404) rfl ?_
  refine w_putRF (M1 := mm405) (ty := .array .int) hB hb ff_X3_7 (hi rfl) sh_239 (by rw [mc404]; decide) q_357 (by decide +kernel) (nar_arr _ _) (fit_arr _ _) rfl dX3_init_31 ?_
  refine w_aload_n hB 0 dX3_init_34 rfl rfl ?_
  refine w_bipush hB 64 (by decide) dX3_init_35 ?_
  refine w_newI hB hb (n := 244) sh_244 sl_244 sgm405.2 (by rw [mc405]) (by decide) (by decide) ⟨Nat.le_of_ble_eq_true rfl, Nat.le_of_ble_eq_true rfl⟩ dX3_init_37 ?_
  refine Wt.mem (M1 := mm406) rfl ?_
  refine w_putRF (M1 := mm407) (ty := .array .int) hB hb ff_X3_8 (hi rfl) sh_239 (by rw [mc406]; decide) q_358 (by decide +kernel) (nar_arr _ _) (fit_arr _ _) rfl dX3_init_39 ?_
  exact w_vret hB dX3_init_42
set_option maxRecDepth 100000 in
set_option maxHeartbeats 4000000 in
theorem k49 {K : Kt} {l : Launch} (hb : kP K = true) (hg : KBd K) : MT K l yX3_init cX3_init 1 none { frames := 1, cells := 5, slots := 88, locals := 20 } [vr 245] mm409 none mm419 5 88 := by
  refine MT_of (by decide) rfl (Nat.le_of_ble_eq_true rfl) (fun X _ hB hi => ?_)
  refine w_aload_n hB 0 dX3_init_0 rfl rfl ?_
  refine w_objinit hB (Or.inl (by decide)) q_348 q_43 q_oc (by decide) dX3_init_1 ?_
  refine w_aload_n hB 0 dX3_init_4 rfl rfl ?_
  refine w_bipush hB 8 (by decide) dX3_init_5 ?_
  refine w_newI hB hb (n := 246) sh_246 sl_246 sgm409.2 (by rw [mc409]) (by decide) (by decide) ⟨Nat.le_of_ble_eq_true rfl, Nat.le_of_ble_eq_true rfl⟩ dX3_init_7 ?_
  refine Wt.mem (M1 := mm410) rfl ?_
  refine w_putRF (M1 := mm411) (ty := .array .int) hB hb ff_X3_4 (hi rfl) sh_245 (by rw [mc410]; decide) q_354 (by decide +kernel) (nar_arr _ _) (fit_arr _ _) rfl dX3_init_9 ?_
  refine w_aload_n hB 0 dX3_init_12 rfl rfl ?_
  refine w_iconst hB 4 (by decide) dX3_init_13 ?_
  refine w_newI hB hb (n := 247) sh_247 sl_247 sgm411.2 (by rw [mc411]) (by decide) (by decide) ⟨Nat.le_of_ble_eq_true rfl, Nat.le_of_ble_eq_true rfl⟩ dX3_init_14 ?_
  refine Wt.mem (M1 := mm412) rfl ?_
  refine w_putRF (M1 := mm413) (ty := .array .int) hB hb ff_X3_5 (hi rfl) sh_245 (by rw [mc412]; decide) q_355 (by decide +kernel) (nar_arr _ _) (fit_arr _ _) rfl dX3_init_16 ?_
  refine w_aload_n hB 0 dX3_init_19 rfl rfl ?_
  refine w_iconst hB 4 (by decide) dX3_init_20 ?_
  refine w_newI hB hb (n := 248) sh_248 sl_248 sgm413.2 (by rw [mc413]) (by decide) (by decide) ⟨Nat.le_of_ble_eq_true rfl, Nat.le_of_ble_eq_true rfl⟩ dX3_init_21 ?_
  refine Wt.mem (M1 := mm414) rfl ?_
  refine w_putRF (M1 := mm415) (ty := .array .int) hB hb ff_X3_6 (hi rfl) sh_245 (by rw [mc414]; decide) q_356 (by decide +kernel) (nar_arr _ _) (fit_arr _ _) rfl dX3_init_23 ?_
  refine w_aload_n hB 0 dX3_init_26 rfl rfl ?_
  refine w_bipush hB 8 (by decide) dX3_init_27 ?_
  refine w_newI hB hb (n := 249) sh_249 sl_249 sgm415.2 (by rw [mc415]) (by decide) (by decide) ⟨Nat.le_of_ble_eq_true rfl, Nat.le_of_ble_eq_true rfl⟩ dX3_init_29 ?_
  refine Wt.mem (M1 := mm416) rfl ?_
  refine w_putRF (M1 := mm417) (ty := .array .int) hB hb ff_X3_7 (hi rfl) sh_245 (by rw [mc416]; decide) q_357 (by decide +kernel) (nar_arr _ _) (fit_arr _ _) rfl dX3_init_31 ?_
  refine w_aload_n hB 0 dX3_init_34 rfl rfl ?_
  refine w_bipush hB 64 (by decide) dX3_init_35 ?_
  refine w_newI hB hb (n := 250) sh_250 sl_250 sgm417.2 (by rw [mc417]) (by decide) (by decide) ⟨Nat.le_of_ble_eq_true rfl, Nat.le_of_ble_eq_true rfl⟩ dX3_init_37 ?_
  refine Wt.mem (M1 := mm418) rfl ?_
  refine w_putRF (M1 := mm419) (ty := .array .int) hB hb ff_X3_8 (hi rfl) sh_245 (by rw [mc418]; decide) q_358 (by decide +kernel) (nar_arr _ _) (fit_arr _ _) rfl dX3_init_39 ?_
  exact w_vret hB dX3_init_42
set_option maxRecDepth 100000 in
set_option maxHeartbeats 4000000 in
theorem k50 {K : Kt} {l : Launch} (hb : kP K = true) (hg : KBd K) : MT K l yX3_init cX3_init 1 none { frames := 1, cells := 5, slots := 88, locals := 20 } [vr 251] mm421 none mm431 5 88 := by
  refine MT_of (by decide) rfl (Nat.le_of_ble_eq_true rfl) (fun X _ hB hi => ?_)
  refine w_aload_n hB 0 dX3_init_0 rfl rfl ?_
  refine w_objinit hB (Or.inl (by decide)) q_348 q_43 q_oc (by decide) dX3_init_1 ?_
  refine w_aload_n hB 0 dX3_init_4 rfl rfl ?_
  refine w_bipush hB 8 (by decide) dX3_init_5 ?_
  refine w_newI hB hb (n := 252) sh_252 sl_252 sgm421.2 (by rw [mc421]) (by decide) (by decide) ⟨Nat.le_of_ble_eq_true rfl, Nat.le_of_ble_eq_true rfl⟩ dX3_init_7 ?_
  refine Wt.mem (M1 := mm422) rfl ?_
  refine w_putRF (M1 := mm423) (ty := .array .int) hB hb ff_X3_4 (hi rfl) sh_251 (by rw [mc422]; decide) q_354 (by decide +kernel) (nar_arr _ _) (fit_arr _ _) rfl dX3_init_9 ?_
  refine w_aload_n hB 0 dX3_init_12 rfl rfl ?_
  refine w_iconst hB 4 (by decide) dX3_init_13 ?_
  refine w_newI hB hb (n := 253) sh_253 sl_253 sgm423.2 (by rw [mc423]) (by decide) (by decide) ⟨Nat.le_of_ble_eq_true rfl, Nat.le_of_ble_eq_true rfl⟩ dX3_init_14 ?_
  refine Wt.mem (M1 := mm424) rfl ?_
  refine w_putRF (M1 := mm425) (ty := .array .int) hB hb ff_X3_5 (hi rfl) sh_251 (by rw [mc424]; decide) q_355 (by decide +kernel) (nar_arr _ _) (fit_arr _ _) rfl dX3_init_16 ?_
  refine w_aload_n hB 0 dX3_init_19 rfl rfl ?_
  refine w_iconst hB 4 (by decide) dX3_init_20 ?_
  refine w_newI hB hb (n := 254) sh_254 sl_254 sgm425.2 (by rw [mc425]) (by decide) (by decide) ⟨Nat.le_of_ble_eq_true rfl, Nat.le_of_ble_eq_true rfl⟩ dX3_init_21 ?_
  refine Wt.mem (M1 := mm426) rfl ?_
  refine w_putRF (M1 := mm427) (ty := .array .int) hB hb ff_X3_6 (hi rfl) sh_251 (by rw [mc426]; decide) q_356 (by decide +kernel) (nar_arr _ _) (fit_arr _ _) rfl dX3_init_23 ?_
  refine w_aload_n hB 0 dX3_init_26 rfl rfl ?_
  refine w_bipush hB 8 (by decide) dX3_init_27 ?_
  refine w_newI hB hb (n := 255) sh_255 sl_255 sgm427.2 (by rw [mc427]) (by decide) (by decide) ⟨Nat.le_of_ble_eq_true rfl, Nat.le_of_ble_eq_true rfl⟩ dX3_init_29 ?_
  refine Wt.mem (M1 := mm428) rfl ?_
  refine w_putRF (M1 := mm429) (ty := .array .int) hB hb ff_X3_7 (hi rfl) sh_251 (by rw [mc428]; decide) q_357 (by decide +kernel) (nar_arr _ _) (fit_arr _ _) rfl dX3_init_31 ?_
  refine w_aload_n hB 0 dX3_init_34 rfl rfl ?_
  refine w_bipush hB 64 (by decide) dX3_init_35 ?_
  refine w_newI hB hb (n := 256) sh_256 sl_256 sgm429.2 (by rw [mc429]) (by decide) (by decide) ⟨Nat.le_of_ble_eq_true rfl, Nat.le_of_ble_eq_true rfl⟩ dX3_init_37 ?_
  refine Wt.mem (M1 := mm430) rfl ?_
  refine w_putRF (M1 := mm431) (ty := .array .int) hB hb ff_X3_8 (hi rfl) sh_251 (by rw [mc430]; decide) q_358 (by decide +kernel) (nar_arr _ _) (fit_arr _ _) rfl dX3_init_39 ?_
  exact w_vret hB dX3_init_42
set_option maxRecDepth 100000 in
set_option maxHeartbeats 4000000 in
theorem k51 {K : Kt} {l : Launch} (hb : kP K = true) (hg : KBd K) : MT K l yX3_init cX3_init 1 none { frames := 1, cells := 5, slots := 88, locals := 20 } [vr 257] mm433 none mm443 5 88 := by
  refine MT_of (by decide) rfl (Nat.le_of_ble_eq_true rfl) (fun X _ hB hi => ?_)
  refine w_aload_n hB 0 dX3_init_0 rfl rfl ?_
  refine w_objinit hB (Or.inl (by decide)) q_348 q_43 q_oc (by decide) dX3_init_1 ?_
  refine w_aload_n hB 0 dX3_init_4 rfl rfl ?_
  refine w_bipush hB 8 (by decide) dX3_init_5 ?_
  refine w_newI hB hb (n := 258) sh_258 sl_258 sgm433.2 (by rw [mc433]) (by decide) (by decide) ⟨Nat.le_of_ble_eq_true rfl, Nat.le_of_ble_eq_true rfl⟩ dX3_init_7 ?_
  refine Wt.mem (M1 := mm434) rfl ?_
  refine w_putRF (M1 := mm435) (ty := .array .int) hB hb ff_X3_4 (hi rfl) sh_257 (by rw [mc434]; decide) q_354 (by decide +kernel) (nar_arr _ _) (fit_arr _ _) rfl dX3_init_9 ?_
  refine w_aload_n hB 0 dX3_init_12 rfl rfl ?_
  refine w_iconst hB 4 (by decide) dX3_init_13 ?_
  refine w_newI hB hb (n := 259) sh_259 sl_259 sgm435.2 (by rw [mc435]) (by decide) (by decide) ⟨Nat.le_of_ble_eq_true rfl, Nat.le_of_ble_eq_true rfl⟩ dX3_init_14 ?_
  refine Wt.mem (M1 := mm436) rfl ?_
  refine w_putRF (M1 := mm437) (ty := .array .int) hB hb ff_X3_5 (hi rfl) sh_257 (by rw [mc436]; decide) q_355 (by decide +kernel) (nar_arr _ _) (fit_arr _ _) rfl dX3_init_16 ?_
  refine w_aload_n hB 0 dX3_init_19 rfl rfl ?_
  refine w_iconst hB 4 (by decide) dX3_init_20 ?_
  refine w_newI hB hb (n := 260) sh_260 sl_260 sgm437.2 (by rw [mc437]) (by decide) (by decide) ⟨Nat.le_of_ble_eq_true rfl, Nat.le_of_ble_eq_true rfl⟩ dX3_init_21 ?_
  refine Wt.mem (M1 := mm438) rfl ?_
  refine w_putRF (M1 := mm439) (ty := .array .int) hB hb ff_X3_6 (hi rfl) sh_257 (by rw [mc438]; decide) q_356 (by decide +kernel) (nar_arr _ _) (fit_arr _ _) rfl dX3_init_23 ?_
  refine w_aload_n hB 0 dX3_init_26 rfl rfl ?_
  refine w_bipush hB 8 (by decide) dX3_init_27 ?_
  refine w_newI hB hb (n := 261) sh_261 sl_261 sgm439.2 (by rw [mc439]) (by decide) (by decide) ⟨Nat.le_of_ble_eq_true rfl, Nat.le_of_ble_eq_true rfl⟩ dX3_init_29 ?_
  refine Wt.mem (M1 := mm440) rfl ?_
  refine w_putRF (M1 := mm441) (ty := .array .int) hB hb ff_X3_7 (hi rfl) sh_257 (by rw [mc440]; decide) q_357 (by decide +kernel) (nar_arr _ _) (fit_arr _ _) rfl dX3_init_31 ?_
  refine w_aload_n hB 0 dX3_init_34 rfl rfl ?_
  refine w_bipush hB 64 (by decide) dX3_init_35 ?_
  refine w_newI hB hb (n := 262) sh_262 sl_262 sgm441.2 (by rw [mc441]) (by decide) (by decide) ⟨Nat.le_of_ble_eq_true rfl, Nat.le_of_ble_eq_true rfl⟩ dX3_init_37 ?_
  refine Wt.mem (M1 := mm442) rfl ?_
  refine w_putRF (M1 := mm443) (ty := .array .int) hB hb ff_X3_8 (hi rfl) sh_257 (by rw [mc442]; decide) q_358 (by decide +kernel) (nar_arr _ _) (fit_arr _ _) rfl dX3_init_39 ?_
  exact w_vret hB dX3_init_42
set_option maxRecDepth 100000 in
set_option maxHeartbeats 4000000 in
theorem k52 {K : Kt} {l : Launch} (hb : kP K = true) (hg : KBd K) : MT K l yX3_init cX3_init 1 none { frames := 1, cells := 5, slots := 88, locals := 20 } [vr 263] mm445 none mm455 5 88 := by
  refine MT_of (by decide) rfl (Nat.le_of_ble_eq_true rfl) (fun X _ hB hi => ?_)
  refine w_aload_n hB 0 dX3_init_0 rfl rfl ?_
  refine w_objinit hB (Or.inl (by decide)) q_348 q_43 q_oc (by decide) dX3_init_1 ?_
  refine w_aload_n hB 0 dX3_init_4 rfl rfl ?_
  refine w_bipush hB 8 (by decide) dX3_init_5 ?_
  refine w_newI hB hb (n := 264) sh_264 sl_264 sgm445.2 (by rw [mc445]) (by decide) (by decide) ⟨Nat.le_of_ble_eq_true rfl, Nat.le_of_ble_eq_true rfl⟩ dX3_init_7 ?_
  refine Wt.mem (M1 := mm446) rfl ?_
  refine w_putRF (M1 := mm447) (ty := .array .int) hB hb ff_X3_4 (hi rfl) sh_263 (by rw [mc446]; decide) q_354 (by decide +kernel) (nar_arr _ _) (fit_arr _ _) rfl dX3_init_9 ?_
  refine w_aload_n hB 0 dX3_init_12 rfl rfl ?_
  refine w_iconst hB 4 (by decide) dX3_init_13 ?_
  refine w_newI hB hb (n := 265) sh_265 sl_265 sgm447.2 (by rw [mc447]) (by decide) (by decide) ⟨Nat.le_of_ble_eq_true rfl, Nat.le_of_ble_eq_true rfl⟩ dX3_init_14 ?_
  refine Wt.mem (M1 := mm448) rfl ?_
  refine w_putRF (M1 := mm449) (ty := .array .int) hB hb ff_X3_5 (hi rfl) sh_263 (by rw [mc448]; decide) q_355 (by decide +kernel) (nar_arr _ _) (fit_arr _ _) rfl dX3_init_16 ?_
  refine w_aload_n hB 0 dX3_init_19 rfl rfl ?_
  refine w_iconst hB 4 (by decide) dX3_init_20 ?_
  refine w_newI hB hb (n := 266) sh_266 sl_266 sgm449.2 (by rw [mc449]) (by decide) (by decide) ⟨Nat.le_of_ble_eq_true rfl, Nat.le_of_ble_eq_true rfl⟩ dX3_init_21 ?_
  refine Wt.mem (M1 := mm450) rfl ?_
  refine w_putRF (M1 := mm451) (ty := .array .int) hB hb ff_X3_6 (hi rfl) sh_263 (by rw [mc450]; decide) q_356 (by decide +kernel) (nar_arr _ _) (fit_arr _ _) rfl dX3_init_23 ?_
  refine w_aload_n hB 0 dX3_init_26 rfl rfl ?_
  refine w_bipush hB 8 (by decide) dX3_init_27 ?_
  refine w_newI hB hb (n := 267) sh_267 sl_267 sgm451.2 (by rw [mc451]) (by decide) (by decide) ⟨Nat.le_of_ble_eq_true rfl, Nat.le_of_ble_eq_true rfl⟩ dX3_init_29 ?_
  refine Wt.mem (M1 := mm452) rfl ?_
  refine w_putRF (M1 := mm453) (ty := .array .int) hB hb ff_X3_7 (hi rfl) sh_263 (by rw [mc452]; decide) q_357 (by decide +kernel) (nar_arr _ _) (fit_arr _ _) rfl dX3_init_31 ?_
  refine w_aload_n hB 0 dX3_init_34 rfl rfl ?_
  refine w_bipush hB 64 (by decide) dX3_init_35 ?_
  refine w_newI hB hb (n := 268) sh_268 sl_268 sgm453.2 (by rw [mc453]) (by decide) (by decide) ⟨Nat.le_of_ble_eq_true rfl, Nat.le_of_ble_eq_true rfl⟩ dX3_init_37 ?_
  refine Wt.mem (M1 := mm454) rfl ?_
  refine w_putRF (M1 := mm455) (ty := .array .int) hB hb ff_X3_8 (hi rfl) sh_263 (by rw [mc454]; decide) q_358 (by decide +kernel) (nar_arr _ _) (fit_arr _ _) rfl dX3_init_39 ?_
  exact w_vret hB dX3_init_42
set_option maxRecDepth 100000 in
set_option maxHeartbeats 4000000 in
theorem k53 {K : Kt} {l : Launch} (hb : kP K = true) (hg : KBd K) : MT K l yX3_init cX3_init 1 none { frames := 1, cells := 5, slots := 88, locals := 20 } [vr 269] mm457 none mm467 5 88 := by
  refine MT_of (by decide) rfl (Nat.le_of_ble_eq_true rfl) (fun X _ hB hi => ?_)
  refine w_aload_n hB 0 dX3_init_0 rfl rfl ?_
  refine w_objinit hB (Or.inl (by decide)) q_348 q_43 q_oc (by decide) dX3_init_1 ?_
  refine w_aload_n hB 0 dX3_init_4 rfl rfl ?_
  refine w_bipush hB 8 (by decide) dX3_init_5 ?_
  refine w_newI hB hb (n := 270) sh_270 sl_270 sgm457.2 (by rw [mc457]) (by decide) (by decide) ⟨Nat.le_of_ble_eq_true rfl, Nat.le_of_ble_eq_true rfl⟩ dX3_init_7 ?_
  refine Wt.mem (M1 := mm458) rfl ?_
  refine w_putRF (M1 := mm459) (ty := .array .int) hB hb ff_X3_4 (hi rfl) sh_269 (by rw [mc458]; decide) q_354 (by decide +kernel) (nar_arr _ _) (fit_arr _ _) rfl dX3_init_9 ?_
  refine w_aload_n hB 0 dX3_init_12 rfl rfl ?_
  refine w_iconst hB 4 (by decide) dX3_init_13 ?_
  refine w_newI hB hb (n := 271) sh_271 sl_271 sgm459.2 (by rw [mc459]) (by decide) (by decide) ⟨Nat.le_of_ble_eq_true rfl, Nat.le_of_ble_eq_true rfl⟩ dX3_init_14 ?_
  refine Wt.mem (M1 := mm460) rfl ?_
  refine w_putRF (M1 := mm461) (ty := .array .int) hB hb ff_X3_5 (hi rfl) sh_269 (by rw [mc460]; decide) q_355 (by decide +kernel) (nar_arr _ _) (fit_arr _ _) rfl dX3_init_16 ?_
  refine w_aload_n hB 0 dX3_init_19 rfl rfl ?_
  refine w_iconst hB 4 (by decide) dX3_init_20 ?_
  refine w_newI hB hb (n := 272) sh_272 sl_272 sgm461.2 (by rw [mc461]) (by decide) (by decide) ⟨Nat.le_of_ble_eq_true rfl, Nat.le_of_ble_eq_true rfl⟩ dX3_init_21 ?_
  refine Wt.mem (M1 := mm462) rfl ?_
  refine w_putRF (M1 := mm463) (ty := .array .int) hB hb ff_X3_6 (hi rfl) sh_269 (by rw [mc462]; decide) q_356 (by decide +kernel) (nar_arr _ _) (fit_arr _ _) rfl dX3_init_23 ?_
  refine w_aload_n hB 0 dX3_init_26 rfl rfl ?_
  refine w_bipush hB 8 (by decide) dX3_init_27 ?_
  refine w_newI hB hb (n := 273) sh_273 sl_273 sgm463.2 (by rw [mc463]) (by decide) (by decide) ⟨Nat.le_of_ble_eq_true rfl, Nat.le_of_ble_eq_true rfl⟩ dX3_init_29 ?_
  refine Wt.mem (M1 := mm464) rfl ?_
  refine w_putRF (M1 := mm465) (ty := .array .int) hB hb ff_X3_7 (hi rfl) sh_269 (by rw [mc464]; decide) q_357 (by decide +kernel) (nar_arr _ _) (fit_arr _ _) rfl dX3_init_31 ?_
  refine w_aload_n hB 0 dX3_init_34 rfl rfl ?_
  refine w_bipush hB 64 (by decide) dX3_init_35 ?_
  refine w_newI hB hb (n := 274) sh_274 sl_274 sgm465.2 (by rw [mc465]) (by decide) (by decide) ⟨Nat.le_of_ble_eq_true rfl, Nat.le_of_ble_eq_true rfl⟩ dX3_init_37 ?_
  refine Wt.mem (M1 := mm466) rfl ?_
  refine w_putRF (M1 := mm467) (ty := .array .int) hB hb ff_X3_8 (hi rfl) sh_269 (by rw [mc466]; decide) q_358 (by decide +kernel) (nar_arr _ _) (fit_arr _ _) rfl dX3_init_39 ?_
  exact w_vret hB dX3_init_42
set_option maxRecDepth 100000 in
set_option maxHeartbeats 4000000 in
theorem k54 {K : Kt} {l : Launch} (hb : kP K = true) (hg : KBd K) : MT K l yX3_init cX3_init 1 none { frames := 1, cells := 5, slots := 88, locals := 20 } [vr 275] mm469 none mm479 5 88 := by
  refine MT_of (by decide) rfl (Nat.le_of_ble_eq_true rfl) (fun X _ hB hi => ?_)
  refine w_aload_n hB 0 dX3_init_0 rfl rfl ?_
  refine w_objinit hB (Or.inl (by decide)) q_348 q_43 q_oc (by decide) dX3_init_1 ?_
  refine w_aload_n hB 0 dX3_init_4 rfl rfl ?_
  refine w_bipush hB 8 (by decide) dX3_init_5 ?_
  refine w_newI hB hb (n := 276) sh_276 sl_276 sgm469.2 (by rw [mc469]) (by decide) (by decide) ⟨Nat.le_of_ble_eq_true rfl, Nat.le_of_ble_eq_true rfl⟩ dX3_init_7 ?_
  refine Wt.mem (M1 := mm470) rfl ?_
  refine w_putRF (M1 := mm471) (ty := .array .int) hB hb ff_X3_4 (hi rfl) sh_275 (by rw [mc470]; decide) q_354 (by decide +kernel) (nar_arr _ _) (fit_arr _ _) rfl dX3_init_9 ?_
  refine w_aload_n hB 0 dX3_init_12 rfl rfl ?_
  refine w_iconst hB 4 (by decide) dX3_init_13 ?_
  refine w_newI hB hb (n := 277) sh_277 sl_277 sgm471.2 (by rw [mc471]) (by decide) (by decide) ⟨Nat.le_of_ble_eq_true rfl, Nat.le_of_ble_eq_true rfl⟩ dX3_init_14 ?_
  refine Wt.mem (M1 := mm472) rfl ?_
  refine w_putRF (M1 := mm473) (ty := .array .int) hB hb ff_X3_5 (hi rfl) sh_275 (by rw [mc472]; decide) q_355 (by decide +kernel) (nar_arr _ _) (fit_arr _ _) rfl dX3_init_16 ?_
  refine w_aload_n hB 0 dX3_init_19 rfl rfl ?_
  refine w_iconst hB 4 (by decide) dX3_init_20 ?_
  refine w_newI hB hb (n := 278) sh_278 sl_278 sgm473.2 (by rw [mc473]) (by decide) (by decide) ⟨Nat.le_of_ble_eq_true rfl, Nat.le_of_ble_eq_true rfl⟩ dX3_init_21 ?_
  refine Wt.mem (M1 := mm474) rfl ?_
  refine w_putRF (M1 := mm475) (ty := .array .int) hB hb ff_X3_6 (hi rfl) sh_275 (by rw [mc474]; decide) q_356 (by decide +kernel) (nar_arr _ _) (fit_arr _ _) rfl dX3_init_23 ?_
  refine w_aload_n hB 0 dX3_init_26 rfl rfl ?_
  refine w_bipush hB 8 (by decide) dX3_init_27 ?_
  refine w_newI hB hb (n := 279) sh_279 sl_279 sgm475.2 (by rw [mc475]) (by decide) (by decide) ⟨Nat.le_of_ble_eq_true rfl, Nat.le_of_ble_eq_true rfl⟩ dX3_init_29 ?_
  refine Wt.mem (M1 := mm476) rfl ?_
  refine w_putRF (M1 := mm477) (ty := .array .int) hB hb ff_X3_7 (hi rfl) sh_275 (by rw [mc476]; decide) q_357 (by decide +kernel) (nar_arr _ _) (fit_arr _ _) rfl dX3_init_31 ?_
  refine w_aload_n hB 0 dX3_init_34 rfl rfl ?_
  refine w_bipush hB 64 (by decide) dX3_init_35 ?_
  refine w_newI hB hb (n := 280) sh_280 sl_280 sgm477.2 (by rw [mc477]) (by decide) (by decide) ⟨Nat.le_of_ble_eq_true rfl, Nat.le_of_ble_eq_true rfl⟩ dX3_init_37 ?_
  refine Wt.mem (M1 := mm478) rfl ?_
  refine w_putRF (M1 := mm479) (ty := .array .int) hB hb ff_X3_8 (hi rfl) sh_275 (by rw [mc478]; decide) q_358 (by decide +kernel) (nar_arr _ _) (fit_arr _ _) rfl dX3_init_39 ?_
  exact w_vret hB dX3_init_42
set_option maxRecDepth 100000 in
set_option maxHeartbeats 4000000 in
theorem k55 {K : Kt} {l : Launch} (hb : kP K = true) (hg : KBd K) : MT K l yX3_init cX3_init 1 none { frames := 1, cells := 5, slots := 88, locals := 20 } [vr 281] mm481 none mm491 5 88 := by
  refine MT_of (by decide) rfl (Nat.le_of_ble_eq_true rfl) (fun X _ hB hi => ?_)
  refine w_aload_n hB 0 dX3_init_0 rfl rfl ?_
  refine w_objinit hB (Or.inl (by decide)) q_348 q_43 q_oc (by decide) dX3_init_1 ?_
  refine w_aload_n hB 0 dX3_init_4 rfl rfl ?_
  refine w_bipush hB 8 (by decide) dX3_init_5 ?_
  refine w_newI hB hb (n := 282) sh_282 sl_282 sgm481.2 (by rw [mc481]) (by decide) (by decide) ⟨Nat.le_of_ble_eq_true rfl, Nat.le_of_ble_eq_true rfl⟩ dX3_init_7 ?_
  refine Wt.mem (M1 := mm482) rfl ?_
  refine w_putRF (M1 := mm483) (ty := .array .int) hB hb ff_X3_4 (hi rfl) sh_281 (by rw [mc482]; decide) q_354 (by decide +kernel) (nar_arr _ _) (fit_arr _ _) rfl dX3_init_9 ?_
  refine w_aload_n hB 0 dX3_init_12 rfl rfl ?_
  refine w_iconst hB 4 (by decide) dX3_init_13 ?_
  refine w_newI hB hb (n := 283) sh_283 sl_283 sgm483.2 (by rw [mc483]) (by decide) (by decide) ⟨Nat.le_of_ble_eq_true rfl, Nat.le_of_ble_eq_true rfl⟩ dX3_init_14 ?_
  refine Wt.mem (M1 := mm484) rfl ?_
  refine w_putRF (M1 := mm485) (ty := .array .int) hB hb ff_X3_5 (hi rfl) sh_281 (by rw [mc484]; decide) q_355 (by decide +kernel) (nar_arr _ _) (fit_arr _ _) rfl dX3_init_16 ?_
  refine w_aload_n hB 0 dX3_init_19 rfl rfl ?_
  refine w_iconst hB 4 (by decide) dX3_init_20 ?_
  refine w_newI hB hb (n := 284) sh_284 sl_284 sgm485.2 (by rw [mc485]) (by decide) (by decide) ⟨Nat.le_of_ble_eq_true rfl, Nat.le_of_ble_eq_true rfl⟩ dX3_init_21 ?_
  refine Wt.mem (M1 := mm486) rfl ?_
  refine w_putRF (M1 := mm487) (ty := .array .int) hB hb ff_X3_6 (hi rfl) sh_281 (by rw [mc486]; decide) q_356 (by decide +kernel) (nar_arr _ _) (fit_arr _ _) rfl dX3_init_23 ?_
  refine w_aload_n hB 0 dX3_init_26 rfl rfl ?_
  refine w_bipush hB 8 (by decide) dX3_init_27 ?_
  refine w_newI hB hb (n := 285) sh_285 sl_285 sgm487.2 (by rw [mc487]) (by decide) (by decide) ⟨Nat.le_of_ble_eq_true rfl, Nat.le_of_ble_eq_true rfl⟩ dX3_init_29 ?_
  refine Wt.mem (M1 := mm488) rfl ?_
  refine w_putRF (M1 := mm489) (ty := .array .int) hB hb ff_X3_7 (hi rfl) sh_281 (by rw [mc488]; decide) q_357 (by decide +kernel) (nar_arr _ _) (fit_arr _ _) rfl dX3_init_31 ?_
  refine w_aload_n hB 0 dX3_init_34 rfl rfl ?_
  refine w_bipush hB 64 (by decide) dX3_init_35 ?_
  refine w_newI hB hb (n := 286) sh_286 sl_286 sgm489.2 (by rw [mc489]) (by decide) (by decide) ⟨Nat.le_of_ble_eq_true rfl, Nat.le_of_ble_eq_true rfl⟩ dX3_init_37 ?_
  refine Wt.mem (M1 := mm490) rfl ?_
  refine w_putRF (M1 := mm491) (ty := .array .int) hB hb ff_X3_8 (hi rfl) sh_281 (by rw [mc490]; decide) q_358 (by decide +kernel) (nar_arr _ _) (fit_arr _ _) rfl dX3_init_39 ?_
  exact w_vret hB dX3_init_42
set_option maxRecDepth 100000 in
set_option maxHeartbeats 4000000 in
theorem k56 {K : Kt} {l : Launch} (hb : kP K = true) (hg : KBd K) : MT K l yX3_init cX3_init 1 none { frames := 1, cells := 5, slots := 88, locals := 20 } [vr 287] mm493 none mm503 5 88 := by
  refine MT_of (by decide) rfl (Nat.le_of_ble_eq_true rfl) (fun X _ hB hi => ?_)
  refine w_aload_n hB 0 dX3_init_0 rfl rfl ?_
  refine w_objinit hB (Or.inl (by decide)) q_348 q_43 q_oc (by decide) dX3_init_1 ?_
  refine w_aload_n hB 0 dX3_init_4 rfl rfl ?_
  refine w_bipush hB 8 (by decide) dX3_init_5 ?_
  refine w_newI hB hb (n := 288) sh_288 sl_288 sgm493.2 (by rw [mc493]) (by decide) (by decide) ⟨Nat.le_of_ble_eq_true rfl, Nat.le_of_ble_eq_true rfl⟩ dX3_init_7 ?_
  refine Wt.mem (M1 := mm494) rfl ?_
  refine w_putRF (M1 := mm495) (ty := .array .int) hB hb ff_X3_4 (hi rfl) sh_287 (by rw [mc494]; decide) q_354 (by decide +kernel) (nar_arr _ _) (fit_arr _ _) rfl dX3_init_9 ?_
  refine w_aload_n hB 0 dX3_init_12 rfl rfl ?_
  refine w_iconst hB 4 (by decide) dX3_init_13 ?_
  refine w_newI hB hb (n := 289) sh_289 sl_289 sgm495.2 (by rw [mc495]) (by decide) (by decide) ⟨Nat.le_of_ble_eq_true rfl, Nat.le_of_ble_eq_true rfl⟩ dX3_init_14 ?_
  refine Wt.mem (M1 := mm496) rfl ?_
  refine w_putRF (M1 := mm497) (ty := .array .int) hB hb ff_X3_5 (hi rfl) sh_287 (by rw [mc496]; decide) q_355 (by decide +kernel) (nar_arr _ _) (fit_arr _ _) rfl dX3_init_16 ?_
  refine w_aload_n hB 0 dX3_init_19 rfl rfl ?_
  refine w_iconst hB 4 (by decide) dX3_init_20 ?_
  refine w_newI hB hb (n := 290) sh_290 sl_290 sgm497.2 (by rw [mc497]) (by decide) (by decide) ⟨Nat.le_of_ble_eq_true rfl, Nat.le_of_ble_eq_true rfl⟩ dX3_init_21 ?_
  refine Wt.mem (M1 := mm498) rfl ?_
  refine w_putRF (M1 := mm499) (ty := .array .int) hB hb ff_X3_6 (hi rfl) sh_287 (by rw [mc498]; decide) q_356 (by decide +kernel) (nar_arr _ _) (fit_arr _ _) rfl dX3_init_23 ?_
  refine w_aload_n hB 0 dX3_init_26 rfl rfl ?_
  refine w_bipush hB 8 (by decide) dX3_init_27 ?_
  refine w_newI hB hb (n := 291) sh_291 sl_291 sgm499.2 (by rw [mc499]) (by decide) (by decide) ⟨Nat.le_of_ble_eq_true rfl, Nat.le_of_ble_eq_true rfl⟩ dX3_init_29 ?_
  refine Wt.mem (M1 := mm500) rfl ?_
  refine w_putRF (M1 := mm501) (ty := .array .int) hB hb ff_X3_7 (hi rfl) sh_287 (by rw [mc500]; decide) q_357 (by decide +kernel) (nar_arr _ _) (fit_arr _ _) rfl dX3_init_31 ?_
  refine w_aload_n hB 0 dX3_init_34 rfl rfl ?_
  refine w_bipush hB 64 (by decide) dX3_init_35 ?_
  refine w_newI hB hb (n := 292) sh_292 sl_292 sgm501.2 (by rw [mc501]) (by decide) (by decide) ⟨Nat.le_of_ble_eq_true rfl, Nat.le_of_ble_eq_true rfl⟩ dX3_init_37 ?_
  refine Wt.mem (M1 := mm502) rfl ?_
  refine w_putRF (M1 := mm503) (ty := .array .int) hB hb ff_X3_8 (hi rfl) sh_287 (by rw [mc502]; decide) q_358 (by decide +kernel) (nar_arr _ _) (fit_arr _ _) rfl dX3_init_39 ?_
  exact w_vret hB dX3_init_42
set_option maxRecDepth 100000 in
set_option maxHeartbeats 4000000 in
theorem k57 {K : Kt} {l : Launch} (hb : kP K = true) (hg : KBd K) : MT K l yX3_init cX3_init 1 none { frames := 1, cells := 5, slots := 88, locals := 20 } [vr 293] mm505 none mm515 5 88 := by
  refine MT_of (by decide) rfl (Nat.le_of_ble_eq_true rfl) (fun X _ hB hi => ?_)
  refine w_aload_n hB 0 dX3_init_0 rfl rfl ?_
  refine w_objinit hB (Or.inl (by decide)) q_348 q_43 q_oc (by decide) dX3_init_1 ?_
  refine w_aload_n hB 0 dX3_init_4 rfl rfl ?_
  refine w_bipush hB 8 (by decide) dX3_init_5 ?_
  refine w_newI hB hb (n := 294) sh_294 sl_294 sgm505.2 (by rw [mc505]) (by decide) (by decide) ⟨Nat.le_of_ble_eq_true rfl, Nat.le_of_ble_eq_true rfl⟩ dX3_init_7 ?_
  refine Wt.mem (M1 := mm506) rfl ?_
  refine w_putRF (M1 := mm507) (ty := .array .int) hB hb ff_X3_4 (hi rfl) sh_293 (by rw [mc506]; decide) q_354 (by decide +kernel) (nar_arr _ _) (fit_arr _ _) rfl dX3_init_9 ?_
  refine w_aload_n hB 0 dX3_init_12 rfl rfl ?_
  refine w_iconst hB 4 (by decide) dX3_init_13 ?_
  refine w_newI hB hb (n := 295) sh_295 sl_295 sgm507.2 (by rw [mc507]) (by decide) (by decide) ⟨Nat.le_of_ble_eq_true rfl, Nat.le_of_ble_eq_true rfl⟩ dX3_init_14 ?_
  refine Wt.mem (M1 := mm508) rfl ?_
  refine w_putRF (M1 := mm509) (ty := .array .int) hB hb ff_X3_5 (hi rfl) sh_293 (by rw [mc508]; decide) q_355 (by decide +kernel) (nar_arr _ _) (fit_arr _ _) rfl dX3_init_16 ?_
  refine w_aload_n hB 0 dX3_init_19 rfl rfl ?_
  refine w_iconst hB 4 (by decide) dX3_init_20 ?_
  refine w_newI hB hb (n := 296) sh_296 sl_296 sgm509.2 (by rw [mc509]) (by decide) (by decide) ⟨Nat.le_of_ble_eq_true rfl, Nat.le_of_ble_eq_true rfl⟩ dX3_init_21 ?_
  refine Wt.mem (M1 := mm510) rfl ?_
  refine w_putRF (M1 := mm511) (ty := .array .int) hB hb ff_X3_6 (hi rfl) sh_293 (by rw [mc510]; decide) q_356 (by decide +kernel) (nar_arr _ _) (fit_arr _ _) rfl dX3_init_23 ?_
  refine w_aload_n hB 0 dX3_init_26 rfl rfl ?_
  refine w_bipush hB 8 (by decide) dX3_init_27 ?_
  refine w_newI hB hb (n := 297) sh_297 sl_297 sgm511.2 (by rw [mc511]) (by decide) (by decide) ⟨Nat.le_of_ble_eq_true rfl, Nat.le_of_ble_eq_true rfl⟩ dX3_init_29 ?_
  refine Wt.mem (M1 := mm512) rfl ?_
  refine w_putRF (M1 := mm513) (ty := .array .int) hB hb ff_X3_7 (hi rfl) sh_293 (by rw [mc512]; decide) q_357 (by decide +kernel) (nar_arr _ _) (fit_arr _ _) rfl dX3_init_31 ?_
  refine w_aload_n hB 0 dX3_init_34 rfl rfl ?_
  refine w_bipush hB 64 (by decide) dX3_init_35 ?_
  refine w_newI hB hb (n := 298) sh_298 sl_298 sgm513.2 (by rw [mc513]) (by decide) (by decide) ⟨Nat.le_of_ble_eq_true rfl, Nat.le_of_ble_eq_true rfl⟩ dX3_init_37 ?_
  refine Wt.mem (M1 := mm514) rfl ?_
  refine w_putRF (M1 := mm515) (ty := .array .int) hB hb ff_X3_8 (hi rfl) sh_293 (by rw [mc514]; decide) q_358 (by decide +kernel) (nar_arr _ _) (fit_arr _ _) rfl dX3_init_39 ?_
  exact w_vret hB dX3_init_42
set_option maxRecDepth 100000 in
set_option maxHeartbeats 4000000 in
theorem k58 {K : Kt} {l : Launch} (hb : kP K = true) (hg : KBd K) : MT K l yX3_init cX3_init 1 none { frames := 1, cells := 5, slots := 88, locals := 20 } [vr 299] mm517 none mm527 5 88 := by
  refine MT_of (by decide) rfl (Nat.le_of_ble_eq_true rfl) (fun X _ hB hi => ?_)
  refine w_aload_n hB 0 dX3_init_0 rfl rfl ?_
  refine w_objinit hB (Or.inl (by decide)) q_348 q_43 q_oc (by decide) dX3_init_1 ?_
  refine w_aload_n hB 0 dX3_init_4 rfl rfl ?_
  refine w_bipush hB 8 (by decide) dX3_init_5 ?_
  refine w_newI hB hb (n := 300) sh_300 sl_300 sgm517.2 (by rw [mc517]) (by decide) (by decide) ⟨Nat.le_of_ble_eq_true rfl, Nat.le_of_ble_eq_true rfl⟩ dX3_init_7 ?_
  refine Wt.mem (M1 := mm518) rfl ?_
  refine w_putRF (M1 := mm519) (ty := .array .int) hB hb ff_X3_4 (hi rfl) sh_299 (by rw [mc518]; decide) q_354 (by decide +kernel) (nar_arr _ _) (fit_arr _ _) rfl dX3_init_9 ?_
  refine w_aload_n hB 0 dX3_init_12 rfl rfl ?_
  refine w_iconst hB 4 (by decide) dX3_init_13 ?_
  refine w_newI hB hb (n := 301) sh_301 sl_301 sgm519.2 (by rw [mc519]) (by decide) (by decide) ⟨Nat.le_of_ble_eq_true rfl, Nat.le_of_ble_eq_true rfl⟩ dX3_init_14 ?_
  refine Wt.mem (M1 := mm520) rfl ?_
  refine w_putRF (M1 := mm521) (ty := .array .int) hB hb ff_X3_5 (hi rfl) sh_299 (by rw [mc520]; decide) q_355 (by decide +kernel) (nar_arr _ _) (fit_arr _ _) rfl dX3_init_16 ?_
  refine w_aload_n hB 0 dX3_init_19 rfl rfl ?_
  refine w_iconst hB 4 (by decide) dX3_init_20 ?_
  refine w_newI hB hb (n := 302) sh_302 sl_302 sgm521.2 (by rw [mc521]) (by decide) (by decide) ⟨Nat.le_of_ble_eq_true rfl, Nat.le_of_ble_eq_true rfl⟩ dX3_init_21 ?_
  refine Wt.mem (M1 := mm522) rfl ?_
  refine w_putRF (M1 := mm523) (ty := .array .int) hB hb ff_X3_6 (hi rfl) sh_299 (by rw [mc522]; decide) q_356 (by decide +kernel) (nar_arr _ _) (fit_arr _ _) rfl dX3_init_23 ?_
  refine w_aload_n hB 0 dX3_init_26 rfl rfl ?_
  refine w_bipush hB 8 (by decide) dX3_init_27 ?_
  refine w_newI hB hb (n := 303) sh_303 sl_303 sgm523.2 (by rw [mc523]) (by decide) (by decide) ⟨Nat.le_of_ble_eq_true rfl, Nat.le_of_ble_eq_true rfl⟩ dX3_init_29 ?_
  refine Wt.mem (M1 := mm524) rfl ?_
  refine w_putRF (M1 := mm525) (ty := .array .int) hB hb ff_X3_7 (hi rfl) sh_299 (by rw [mc524]; decide) q_357 (by decide +kernel) (nar_arr _ _) (fit_arr _ _) rfl dX3_init_31 ?_
  refine w_aload_n hB 0 dX3_init_34 rfl rfl ?_
  refine w_bipush hB 64 (by decide) dX3_init_35 ?_
  refine w_newI hB hb (n := 304) sh_304 sl_304 sgm525.2 (by rw [mc525]) (by decide) (by decide) ⟨Nat.le_of_ble_eq_true rfl, Nat.le_of_ble_eq_true rfl⟩ dX3_init_37 ?_
  refine Wt.mem (M1 := mm526) rfl ?_
  refine w_putRF (M1 := mm527) (ty := .array .int) hB hb ff_X3_8 (hi rfl) sh_299 (by rw [mc526]; decide) q_358 (by decide +kernel) (nar_arr _ _) (fit_arr _ _) rfl dX3_init_39 ?_
  exact w_vret hB dX3_init_42
set_option maxRecDepth 100000 in
set_option maxHeartbeats 4000000 in
theorem k59 {K : Kt} {l : Launch} (hb : kP K = true) (hg : KBd K) : MT K l yX3_init cX3_init 1 none { frames := 1, cells := 5, slots := 88, locals := 20 } [vr 305] mm529 none mm539 5 88 := by
  refine MT_of (by decide) rfl (Nat.le_of_ble_eq_true rfl) (fun X _ hB hi => ?_)
  refine w_aload_n hB 0 dX3_init_0 rfl rfl ?_
  refine w_objinit hB (Or.inl (by decide)) q_348 q_43 q_oc (by decide) dX3_init_1 ?_
  refine w_aload_n hB 0 dX3_init_4 rfl rfl ?_
  refine w_bipush hB 8 (by decide) dX3_init_5 ?_
  refine w_newI hB hb (n := 306) sh_306 sl_306 sgm529.2 (by rw [mc529]) (by decide) (by decide) ⟨Nat.le_of_ble_eq_true rfl, Nat.le_of_ble_eq_true rfl⟩ dX3_init_7 ?_
  refine Wt.mem (M1 := mm530) rfl ?_
  refine w_putRF (M1 := mm531) (ty := .array .int) hB hb ff_X3_4 (hi rfl) sh_305 (by rw [mc530]; decide) q_354 (by decide +kernel) (nar_arr _ _) (fit_arr _ _) rfl dX3_init_9 ?_
  refine w_aload_n hB 0 dX3_init_12 rfl rfl ?_
  refine w_iconst hB 4 (by decide) dX3_init_13 ?_
  refine w_newI hB hb (n := 307) sh_307 sl_307 sgm531.2 (by rw [mc531]) (by decide) (by decide) ⟨Nat.le_of_ble_eq_true rfl, Nat.le_of_ble_eq_true rfl⟩ dX3_init_14 ?_
  refine Wt.mem (M1 := mm532) rfl ?_
  refine w_putRF (M1 := mm533) (ty := .array .int) hB hb ff_X3_5 (hi rfl) sh_305 (by rw [mc532]; decide) q_355 (by decide +kernel) (nar_arr _ _) (fit_arr _ _) rfl dX3_init_16 ?_
  refine w_aload_n hB 0 dX3_init_19 rfl rfl ?_
  refine w_iconst hB 4 (by decide) dX3_init_20 ?_
  refine w_newI hB hb (n := 308) sh_308 sl_308 sgm533.2 (by rw [mc533]) (by decide) (by decide) ⟨Nat.le_of_ble_eq_true rfl, Nat.le_of_ble_eq_true rfl⟩ dX3_init_21 ?_
  refine Wt.mem (M1 := mm534) rfl ?_
  refine w_putRF (M1 := mm535) (ty := .array .int) hB hb ff_X3_6 (hi rfl) sh_305 (by rw [mc534]; decide) q_356 (by decide +kernel) (nar_arr _ _) (fit_arr _ _) rfl dX3_init_23 ?_
  refine w_aload_n hB 0 dX3_init_26 rfl rfl ?_
  refine w_bipush hB 8 (by decide) dX3_init_27 ?_
  refine w_newI hB hb (n := 309) sh_309 sl_309 sgm535.2 (by rw [mc535]) (by decide) (by decide) ⟨Nat.le_of_ble_eq_true rfl, Nat.le_of_ble_eq_true rfl⟩ dX3_init_29 ?_
  refine Wt.mem (M1 := mm536) rfl ?_
  refine w_putRF (M1 := mm537) (ty := .array .int) hB hb ff_X3_7 (hi rfl) sh_305 (by rw [mc536]; decide) q_357 (by decide +kernel) (nar_arr _ _) (fit_arr _ _) rfl dX3_init_31 ?_
  refine w_aload_n hB 0 dX3_init_34 rfl rfl ?_
  refine w_bipush hB 64 (by decide) dX3_init_35 ?_
  refine w_newI hB hb (n := 310) sh_310 sl_310 sgm537.2 (by rw [mc537]) (by decide) (by decide) ⟨Nat.le_of_ble_eq_true rfl, Nat.le_of_ble_eq_true rfl⟩ dX3_init_37 ?_
  refine Wt.mem (M1 := mm538) rfl ?_
  refine w_putRF (M1 := mm539) (ty := .array .int) hB hb ff_X3_8 (hi rfl) sh_305 (by rw [mc538]; decide) q_358 (by decide +kernel) (nar_arr _ _) (fit_arr _ _) rfl dX3_init_39 ?_
  exact w_vret hB dX3_init_42
set_option maxRecDepth 100000 in
set_option maxHeartbeats 4000000 in
theorem k60 {K : Kt} {l : Launch} (hb : kP K = true) (hg : KBd K) : MT K l yX10_init cX10_init 2 none { frames := 4, cells := 246, slots := 3711, locals := 85 } [vr 64] mm1 none mm540 246 3711 := by
  refine MT_of (by decide) rfl (Nat.le_of_ble_eq_true rfl) (fun X _ hB hi => ?_)
  refine w_aload_n hB 0 dX10_init_0 rfl rfl ?_
  refine w_objinit hB (Or.inl (by decide)) q_42 q_43 q_oc (by decide) dX10_init_1 ?_
  refine w_aload_n hB 0 dX10_init_4 rfl rfl ?_
  refine w_sipush hB 600 (by decide) dX10_init_5 ?_
  refine w_newY hB hb (n := 65) sh_65 sl_65 sgm1.2 (by rw [mc1]) (by decide) (by decide) ⟨Nat.le_of_ble_eq_true rfl, Nat.le_of_ble_eq_true rfl⟩ dX10_init_8 ?_
  refine Wt.mem (M1 := mm2) rfl ?_
  refine w_putRF (M1 := mm3) (ty := .array .byte) hB hb ff_X10_0 (hi rfl) sh_64 (by rw [mc2]; decide) q_383 (by decide +kernel) (nar_arr _ _) (fit_arr _ _) rfl dX10_init_10 ?_
  refine w_aload_n hB 0 dX10_init_13 rfl rfl ?_
  refine w_newB hB hb (ci := 7) (N := 14) (n := 66) tyX9 rfl inG_X9 tyX9_ok dz_X9 q_45 q_46 q_10 (by rw [mc3]) sh_66 (by decide) sgm3.2 ⟨Nat.le_of_ble_eq_true rfl, Nat.le_of_ble_eq_true rfl⟩ dX10_init_14 ?_
  refine Wt.mem (M1 := mm4) rfl ?_
  refine w_dup hB rfl dX10_init_17 ?_
  refine w_callI (M1 := mm166) hB (n := 66) (As := []) (st := [vr 66, vr 64]) cw_X10_15 rfl q_48 (Or.inl (by decide)) (k20 hb hg) ⟨rfl, rfl⟩ (by decide) ⟨Nat.le_of_ble_eq_true rfl, Nat.le_of_ble_eq_true rfl⟩ rfl (Nat.le_of_ble_eq_true rfl) dX10_init_18 rfl ?_ (Or.inr (by rw [mc4, mc166]))
  refine w_putRN (M1 := mm167) (ty := .object "ReplayBooth$Told") hB hb ff_X10_2 sh_64 (by rw [mc166]; decide) q_385 (by decide +kernel) (nar_obj _ _) (fit_obj _ _) rfl dX10_init_21 ?_
  refine w_aload_n hB 0 dX10_init_24 rfl rfl ?_
  refine w_newB hB hb (ci := 7) (N := 14) (n := 137) tyX9 rfl inG_X9 tyX9_ok dz_X9 q_45 q_46 q_10 (by rw [mc167]) sh_137 (by decide) sgm167.2 ⟨Nat.le_of_ble_eq_true rfl, Nat.le_of_ble_eq_true rfl⟩ dX10_init_25 ?_
  refine Wt.mem (M1 := mm168) rfl ?_
  refine w_dup hB rfl dX10_init_28 ?_
  refine w_callI (M1 := mm330) hB (n := 137) (As := []) (st := [vr 137, vr 64]) cw_X10_15 rfl q_48 (Or.inl (by decide)) (k40 hb hg) ⟨rfl, rfl⟩ (by decide) ⟨Nat.le_of_ble_eq_true rfl, Nat.le_of_ble_eq_true rfl⟩ rfl (Nat.le_of_ble_eq_true rfl) dX10_init_29 rfl ?_ (Or.inr (by rw [mc168, mc330]))
  refine w_putRN (M1 := mm331) (ty := .object "ReplayBooth$Told") hB hb ff_X10_3 sh_64 (by rw [mc330]; decide) q_386 (by decide +kernel) (nar_obj _ _) (fit_obj _ _) rfl dX10_init_32 ?_
  refine w_aload_n hB 0 dX10_init_35 rfl rfl ?_
  refine w_newB hB hb (ci := 6) (N := 14) (n := 208) tyX7 rfl inG_X7 tyX7_ok dz_X7 q_269 q_270 q_16 (by rw [mc331]) sh_208 (by decide) sgm331.2 ⟨Nat.le_of_ble_eq_true rfl, Nat.le_of_ble_eq_true rfl⟩ dX10_init_36 ?_
  refine Wt.mem (M1 := mm332) rfl ?_
  refine w_dup hB rfl dX10_init_39 ?_
  refine w_aload_n hB 0 dX10_init_40 rfl rfl ?_
  refine w_getRB (v := 65) hB ff_X10_0 sh_64 (by rw [mc332]; decide) (by decide +kernel) q_383 dX10_init_41 ?_
  refine w_aload_n hB 0 dX10_init_44 rfl rfl ?_
  refine w_getRB (v := 137) hB ff_X10_3 sh_64 (by rw [mc332]; decide) (by decide +kernel) q_386 dX10_init_45 ?_
  refine w_callI (M1 := mm341) hB (n := 208) (As := [vr 65, vr 137]) (st := [vr 208, vr 64]) cw_X10_25 rfl q_272 (Or.inl (by decide)) (k41 hb hg) ⟨rfl, rfl⟩ (by decide) ⟨Nat.le_of_ble_eq_true rfl, Nat.le_of_ble_eq_true rfl⟩ rfl (Nat.le_of_ble_eq_true rfl) dX10_init_48 rfl ?_ (Or.inr (by rw [mc332, mc341]))
  refine w_putRF (M1 := mm342) (ty := .object "ReplayBooth$Reader") hB hb ff_X10_4 (hi rfl) sh_64 (by rw [mc341]; decide) q_387 (by decide +kernel) (nar_obj _ _) (fit_obj _ _) rfl dX10_init_51 ?_
  refine w_aload_n hB 0 dX10_init_54 rfl rfl ?_
  refine w_newB hB hb (ci := 3) (N := 4) (n := 212) tyX4 rfl inG_X4 tyX4_ok dz_X4 q_324 q_325 q_19 (by rw [mc342]) sh_212 (by decide) sgm342.2 ⟨Nat.le_of_ble_eq_true rfl, Nat.le_of_ble_eq_true rfl⟩ dX10_init_55 ?_
  refine Wt.mem (M1 := mm343) rfl ?_
  refine w_dup hB rfl dX10_init_58 ?_
  refine w_callIN (M1 := mm351) hB (n := 212) (As := []) (st := [vr 212, vr 64]) (na := 0) hg.2.1.2.2.2.2.1 q_19 q_328 ⟨by decide +kernel, by decide +kernel⟩ rfl q_327 (Or.inl (by decide)) (k44 hb hg) ⟨rfl, rfl⟩ (by decide) ⟨Nat.le_of_ble_eq_true rfl, Nat.le_of_ble_eq_true rfl⟩ rfl (Nat.le_of_ble_eq_true rfl) dX10_init_59 rfl ?_ (Or.inr (by rw [mc343, mc351]))
  refine w_putRF (M1 := mm352) (ty := .object "ReplayBooth$Judge") hB hb ff_X10_5 (hi rfl) sh_64 (by rw [mc351]; decide) q_388 (by decide +kernel) (nar_obj _ _) (fit_obj _ _) rfl dX10_init_62 ?_
  refine w_aload_n hB 0 dX10_init_65 rfl rfl ?_
  refine w_newB hB hb (ci := 2) (N := 10) (n := 217) tyX3 rfl inG_X3 tyX3_ok dz_X3 q_343 q_344 q_20 (by rw [mc352]) sh_217 (by decide) sgm352.2 ⟨Nat.le_of_ble_eq_true rfl, Nat.le_of_ble_eq_true rfl⟩ dX10_init_66 ?_
  refine Wt.mem (M1 := mm353) rfl ?_
  refine w_dup hB rfl dX10_init_69 ?_
  refine w_callIN (M1 := mm363) hB (n := 217) (As := []) (st := [vr 217, vr 64]) (na := 0) hg.2.1.2.2.2.2.2.2 q_20 q_347 ⟨by decide +kernel, by decide +kernel⟩ rfl q_346 (Or.inl (by decide)) (k45 hb hg) ⟨rfl, rfl⟩ (by decide) ⟨Nat.le_of_ble_eq_true rfl, Nat.le_of_ble_eq_true rfl⟩ rfl (Nat.le_of_ble_eq_true rfl) dX10_init_70 rfl ?_ (Or.inr (by rw [mc353, mc363]))
  refine w_putRF (M1 := mm364) (ty := .object "ReplayBooth$Day") hB hb ff_X10_6 (hi rfl) sh_64 (by rw [mc363]; decide) q_389 (by decide +kernel) (nar_obj _ _) (fit_obj _ _) rfl dX10_init_73 ?_
  refine w_aload_n hB 0 dX10_init_76 rfl rfl ?_
  refine w_bipush hB 12 (by decide) dX10_init_77 ?_
  refine w_newqB hB hb (c := 7) (n := 223) q_343 hg.2.2.2.2.2.2 rfl sh_223 (by decide) sl_223 sgm364.2 (by rw [mc364]) (by decide) (by decide) ⟨Nat.le_of_ble_eq_true rfl, Nat.le_of_ble_eq_true rfl⟩ dX10_init_79 ?_
  refine Wt.mem (M1 := mm365) rfl ?_
  refine w_putRF (M1 := mm366) (ty := .array (.object "ReplayBooth$Day")) hB hb ff_X10_7 (hi rfl) sh_64 (by rw [mc365]; decide) q_390 (by decide +kernel) (nar_arr _ _) (fit_arr _ _) rfl dX10_init_82 ?_
  refine w_aload_n hB 0 dX10_init_85 rfl rfl ?_
  refine w_iconst hB 2 (by decide) dX10_init_86 ?_
  refine w_newqB hB hb (c := 7) (n := 224) q_343 hg.2.2.2.2.2.2 rfl sh_224 (by decide) sl_224 sgm366.2 (by rw [mc366]) (by decide) (by decide) ⟨Nat.le_of_ble_eq_true rfl, Nat.le_of_ble_eq_true rfl⟩ dX10_init_87 ?_
  refine Wt.mem (M1 := mm367) rfl ?_
  refine w_putRF (M1 := mm368) (ty := .array (.object "ReplayBooth$Day")) hB hb ff_X10_10 (hi rfl) sh_64 (by rw [mc367]; decide) q_392 (by decide +kernel) (nar_arr _ _) (fit_arr _ _) rfl dX10_init_90 ?_
  refine w_aload_n hB 0 dX10_init_93 rfl rfl ?_
  refine w_iconst hB 2 (by decide) dX10_init_94 ?_
  refine w_newZ hB hb (n := 225) sh_225 sl_225 sgm368.2 (by rw [mc368]) (by decide) (by decide) ⟨Nat.le_of_ble_eq_true rfl, Nat.le_of_ble_eq_true rfl⟩ dX10_init_95 ?_
  refine Wt.mem (M1 := mm369) rfl ?_
  refine w_putRF (M1 := mm370) (ty := .array .boolean) hB hb ff_X10_11 (hi rfl) sh_64 (by rw [mc369]; decide) q_393 (by decide +kernel) (nar_arr _ _) (fit_arr _ _) rfl dX10_init_97 ?_
  refine w_aload_n hB 0 dX10_init_100 rfl rfl ?_
  refine w_bipush hB 16 (by decide) dX10_init_101 ?_
  refine w_newI hB hb (n := 226) sh_226 sl_226 sgm370.2 (by rw [mc370]) (by decide) (by decide) ⟨Nat.le_of_ble_eq_true rfl, Nat.le_of_ble_eq_true rfl⟩ dX10_init_103 ?_
  refine Wt.mem (M1 := mm371) rfl ?_
  refine w_putRF (M1 := mm372) (ty := .array .int) hB hb ff_X10_12 (hi rfl) sh_64 (by rw [mc371]; decide) q_394 (by decide +kernel) (nar_arr _ _) (fit_arr _ _) rfl dX10_init_105 ?_
  refine w_iconst hB 0 (by decide) dX10_init_108 ?_
  refine w_istore_n hB (L' := [(1, vi 0), (0, vr 64)]) dX10_init_109 rfl (by decide) rfl rfl ?_
  refine w_iload_n hB 0 dX10_init_110 rfl rfl ?_
  refine w_bipush hB 12 (by decide) dX10_init_111 ?_
  refine w_icmp_ge hB 135 dX10_init_113 (by decide) (fun hc => absurd hc (by decide)) (fun _ => ?_)
  refine w_aload_n hB 1 dX10_init_116 rfl rfl ?_
  refine w_getRB (v := 223) hB ff_X10_7 sh_64 (by rw [mc372]; decide) (by decide +kernel) q_390 dX10_init_117 ?_
  refine w_iload_n hB 0 dX10_init_120 rfl rfl ?_
  refine w_newB hB hb (ci := 2) (N := 10) (n := 227) tyX3 rfl inG_X3 tyX3_ok dz_X3 q_343 q_344 q_20 (by rw [mc372]) sh_227 (by decide) sgm372.2 ⟨Nat.le_of_ble_eq_true rfl, Nat.le_of_ble_eq_true rfl⟩ dX10_init_121 ?_
  refine Wt.mem (M1 := mm373) rfl ?_
  refine w_dup hB rfl dX10_init_124 ?_
  refine w_callIN (M1 := mm383) hB (n := 227) (As := []) (st := [vr 227, vi 0, vr 223]) (na := 0) hg.2.1.2.2.2.2.2.2 q_20 q_347 ⟨by decide +kernel, by decide +kernel⟩ rfl q_346 (Or.inl (by decide)) (k46 hb hg) ⟨rfl, rfl⟩ (by decide) ⟨Nat.le_of_ble_eq_true rfl, Nat.le_of_ble_eq_true rfl⟩ rfl (Nat.le_of_ble_eq_true rfl) dX10_init_125 rfl ?_ (Or.inr (by rw [mc373, mc383]))
  refine w_aastB (M1 := mm384) hB hb (c := 7) (ci := 2) sh_223 (by decide) (by rw [mc383]; decide) sh_227 (by rw [mc383]; decide) rfl (by decide) rfl sl_223 (by decide) (by rw [show (0 : Int32).toNatClampNeg = 0 by decide]; rfl) dX10_init_128 ?_
  refine w_iinc hB 0 (v := 1) (L' := [(1, vi 1), (0, vr 64)]) dX10_init_129 rfl (by decide) (by decide) (by decide) rfl ?_
  refine w_goto hB 110 dX10_init_132 (by decide) ?_
  refine w_iload_n hB 0 dX10_init_110 rfl rfl ?_
  refine w_bipush hB 12 (by decide) dX10_init_111 ?_
  refine w_icmp_ge hB 135 dX10_init_113 (by decide) (fun hc => absurd hc (by decide)) (fun _ => ?_)
  refine w_aload_n hB 1 dX10_init_116 rfl rfl ?_
  refine w_getRB (v := 223) hB ff_X10_7 sh_64 (by rw [mc384]; decide) (by decide +kernel) q_390 dX10_init_117 ?_
  refine w_iload_n hB 0 dX10_init_120 rfl rfl ?_
  refine w_newB hB hb (ci := 2) (N := 10) (n := 233) tyX3 rfl inG_X3 tyX3_ok dz_X3 q_343 q_344 q_20 (by rw [mc384]) sh_233 (by decide) sgm384.2 ⟨Nat.le_of_ble_eq_true rfl, Nat.le_of_ble_eq_true rfl⟩ dX10_init_121 ?_
  refine Wt.mem (M1 := mm385) rfl ?_
  refine w_dup hB rfl dX10_init_124 ?_
  refine w_callIN (M1 := mm395) hB (n := 233) (As := []) (st := [vr 233, vi 1, vr 223]) (na := 0) hg.2.1.2.2.2.2.2.2 q_20 q_347 ⟨by decide +kernel, by decide +kernel⟩ rfl q_346 (Or.inl (by decide)) (k47 hb hg) ⟨rfl, rfl⟩ (by decide) ⟨Nat.le_of_ble_eq_true rfl, Nat.le_of_ble_eq_true rfl⟩ rfl (Nat.le_of_ble_eq_true rfl) dX10_init_125 rfl ?_ (Or.inr (by rw [mc385, mc395]))
  refine w_aastB (M1 := mm396) hB hb (c := 7) (ci := 2) sh_223 (by decide) (by rw [mc395]; decide) sh_233 (by rw [mc395]; decide) rfl (by decide) rfl sl_223 (by decide) (by rw [show (1 : Int32).toNatClampNeg = 1 by decide]; rfl) dX10_init_128 ?_
  refine w_iinc hB 0 (v := 1) (L' := [(1, vi 2), (0, vr 64)]) dX10_init_129 rfl (by decide) (by decide) (by decide) rfl ?_
  refine w_goto hB 110 dX10_init_132 (by decide) ?_
  refine w_iload_n hB 0 dX10_init_110 rfl rfl ?_
  refine w_bipush hB 12 (by decide) dX10_init_111 ?_
  refine w_icmp_ge hB 135 dX10_init_113 (by decide) (fun hc => absurd hc (by decide)) (fun _ => ?_)
  refine w_aload_n hB 1 dX10_init_116 rfl rfl ?_
  refine w_getRB (v := 223) hB ff_X10_7 sh_64 (by rw [mc396]; decide) (by decide +kernel) q_390 dX10_init_117 ?_
  refine w_iload_n hB 0 dX10_init_120 rfl rfl ?_
  refine w_newB hB hb (ci := 2) (N := 10) (n := 239) tyX3 rfl inG_X3 tyX3_ok dz_X3 q_343 q_344 q_20 (by rw [mc396]) sh_239 (by decide) sgm396.2 ⟨Nat.le_of_ble_eq_true rfl, Nat.le_of_ble_eq_true rfl⟩ dX10_init_121 ?_
  refine Wt.mem (M1 := mm397) rfl ?_
  refine w_dup hB rfl dX10_init_124 ?_
  refine w_callIN (M1 := mm407) hB (n := 239) (As := []) (st := [vr 239, vi 2, vr 223]) (na := 0) hg.2.1.2.2.2.2.2.2 q_20 q_347 ⟨by decide +kernel, by decide +kernel⟩ rfl q_346 (Or.inl (by decide)) (k48 hb hg) ⟨rfl, rfl⟩ (by decide) ⟨Nat.le_of_ble_eq_true rfl, Nat.le_of_ble_eq_true rfl⟩ rfl (Nat.le_of_ble_eq_true rfl) dX10_init_125 rfl ?_ (Or.inr (by rw [mc397, mc407]))
  refine w_aastB (M1 := mm408) hB hb (c := 7) (ci := 2) sh_223 (by decide) (by rw [mc407]; decide) sh_239 (by rw [mc407]; decide) rfl (by decide) rfl sl_223 (by decide) (by rw [show (2 : Int32).toNatClampNeg = 2 by decide]; rfl) dX10_init_128 ?_
  refine w_iinc hB 0 (v := 1) (L' := [(1, vi 3), (0, vr 64)]) dX10_init_129 rfl (by decide) (by decide) (by decide) rfl ?_
  refine w_goto hB 110 dX10_init_132 (by decide) ?_
  refine w_iload_n hB 0 dX10_init_110 rfl rfl ?_
  refine w_bipush hB 12 (by decide) dX10_init_111 ?_
  refine w_icmp_ge hB 135 dX10_init_113 (by decide) (fun hc => absurd hc (by decide)) (fun _ => ?_)
  refine w_aload_n hB 1 dX10_init_116 rfl rfl ?_
  refine w_getRB (v := 223) hB ff_X10_7 sh_64 (by rw [mc408]; decide) (by decide +kernel) q_390 dX10_init_117 ?_
  refine w_iload_n hB 0 dX10_init_120 rfl rfl ?_
  refine w_newB hB hb (ci := 2) (N := 10) (n := 245) tyX3 rfl inG_X3 tyX3_ok dz_X3 q_343 q_344 q_20 (by rw [mc408]) sh_245 (by decide) sgm408.2 ⟨Nat.le_of_ble_eq_true rfl, Nat.le_of_ble_eq_true rfl⟩ dX10_init_121 ?_
  refine Wt.mem (M1 := mm409) rfl ?_
  refine w_dup hB rfl dX10_init_124 ?_
  refine w_callIN (M1 := mm419) hB (n := 245) (As := []) (st := [vr 245, vi 3, vr 223]) (na := 0) hg.2.1.2.2.2.2.2.2 q_20 q_347 ⟨by decide +kernel, by decide +kernel⟩ rfl q_346 (Or.inl (by decide)) (k49 hb hg) ⟨rfl, rfl⟩ (by decide) ⟨Nat.le_of_ble_eq_true rfl, Nat.le_of_ble_eq_true rfl⟩ rfl (Nat.le_of_ble_eq_true rfl) dX10_init_125 rfl ?_ (Or.inr (by rw [mc409, mc419]))
  refine w_aastB (M1 := mm420) hB hb (c := 7) (ci := 2) sh_223 (by decide) (by rw [mc419]; decide) sh_245 (by rw [mc419]; decide) rfl (by decide) rfl sl_223 (by decide) (by rw [show (3 : Int32).toNatClampNeg = 3 by decide]; rfl) dX10_init_128 ?_
  refine w_iinc hB 0 (v := 1) (L' := [(1, vi 4), (0, vr 64)]) dX10_init_129 rfl (by decide) (by decide) (by decide) rfl ?_
  refine w_goto hB 110 dX10_init_132 (by decide) ?_
  refine w_iload_n hB 0 dX10_init_110 rfl rfl ?_
  refine w_bipush hB 12 (by decide) dX10_init_111 ?_
  refine w_icmp_ge hB 135 dX10_init_113 (by decide) (fun hc => absurd hc (by decide)) (fun _ => ?_)
  refine w_aload_n hB 1 dX10_init_116 rfl rfl ?_
  refine w_getRB (v := 223) hB ff_X10_7 sh_64 (by rw [mc420]; decide) (by decide +kernel) q_390 dX10_init_117 ?_
  refine w_iload_n hB 0 dX10_init_120 rfl rfl ?_
  refine w_newB hB hb (ci := 2) (N := 10) (n := 251) tyX3 rfl inG_X3 tyX3_ok dz_X3 q_343 q_344 q_20 (by rw [mc420]) sh_251 (by decide) sgm420.2 ⟨Nat.le_of_ble_eq_true rfl, Nat.le_of_ble_eq_true rfl⟩ dX10_init_121 ?_
  refine Wt.mem (M1 := mm421) rfl ?_
  refine w_dup hB rfl dX10_init_124 ?_
  refine w_callIN (M1 := mm431) hB (n := 251) (As := []) (st := [vr 251, vi 4, vr 223]) (na := 0) hg.2.1.2.2.2.2.2.2 q_20 q_347 ⟨by decide +kernel, by decide +kernel⟩ rfl q_346 (Or.inl (by decide)) (k50 hb hg) ⟨rfl, rfl⟩ (by decide) ⟨Nat.le_of_ble_eq_true rfl, Nat.le_of_ble_eq_true rfl⟩ rfl (Nat.le_of_ble_eq_true rfl) dX10_init_125 rfl ?_ (Or.inr (by rw [mc421, mc431]))
  refine w_aastB (M1 := mm432) hB hb (c := 7) (ci := 2) sh_223 (by decide) (by rw [mc431]; decide) sh_251 (by rw [mc431]; decide) rfl (by decide) rfl sl_223 (by decide) (by rw [show (4 : Int32).toNatClampNeg = 4 by decide]; rfl) dX10_init_128 ?_
  refine w_iinc hB 0 (v := 1) (L' := [(1, vi 5), (0, vr 64)]) dX10_init_129 rfl (by decide) (by decide) (by decide) rfl ?_
  refine w_goto hB 110 dX10_init_132 (by decide) ?_
  refine w_iload_n hB 0 dX10_init_110 rfl rfl ?_
  refine w_bipush hB 12 (by decide) dX10_init_111 ?_
  refine w_icmp_ge hB 135 dX10_init_113 (by decide) (fun hc => absurd hc (by decide)) (fun _ => ?_)
  refine w_aload_n hB 1 dX10_init_116 rfl rfl ?_
  refine w_getRB (v := 223) hB ff_X10_7 sh_64 (by rw [mc432]; decide) (by decide +kernel) q_390 dX10_init_117 ?_
  refine w_iload_n hB 0 dX10_init_120 rfl rfl ?_
  refine w_newB hB hb (ci := 2) (N := 10) (n := 257) tyX3 rfl inG_X3 tyX3_ok dz_X3 q_343 q_344 q_20 (by rw [mc432]) sh_257 (by decide) sgm432.2 ⟨Nat.le_of_ble_eq_true rfl, Nat.le_of_ble_eq_true rfl⟩ dX10_init_121 ?_
  refine Wt.mem (M1 := mm433) rfl ?_
  refine w_dup hB rfl dX10_init_124 ?_
  refine w_callIN (M1 := mm443) hB (n := 257) (As := []) (st := [vr 257, vi 5, vr 223]) (na := 0) hg.2.1.2.2.2.2.2.2 q_20 q_347 ⟨by decide +kernel, by decide +kernel⟩ rfl q_346 (Or.inl (by decide)) (k51 hb hg) ⟨rfl, rfl⟩ (by decide) ⟨Nat.le_of_ble_eq_true rfl, Nat.le_of_ble_eq_true rfl⟩ rfl (Nat.le_of_ble_eq_true rfl) dX10_init_125 rfl ?_ (Or.inr (by rw [mc433, mc443]))
  refine w_aastB (M1 := mm444) hB hb (c := 7) (ci := 2) sh_223 (by decide) (by rw [mc443]; decide) sh_257 (by rw [mc443]; decide) rfl (by decide) rfl sl_223 (by decide) (by rw [show (5 : Int32).toNatClampNeg = 5 by decide]; rfl) dX10_init_128 ?_
  refine w_iinc hB 0 (v := 1) (L' := [(1, vi 6), (0, vr 64)]) dX10_init_129 rfl (by decide) (by decide) (by decide) rfl ?_
  refine w_goto hB 110 dX10_init_132 (by decide) ?_
  refine w_iload_n hB 0 dX10_init_110 rfl rfl ?_
  refine w_bipush hB 12 (by decide) dX10_init_111 ?_
  refine w_icmp_ge hB 135 dX10_init_113 (by decide) (fun hc => absurd hc (by decide)) (fun _ => ?_)
  refine w_aload_n hB 1 dX10_init_116 rfl rfl ?_
  refine w_getRB (v := 223) hB ff_X10_7 sh_64 (by rw [mc444]; decide) (by decide +kernel) q_390 dX10_init_117 ?_
  refine w_iload_n hB 0 dX10_init_120 rfl rfl ?_
  refine w_newB hB hb (ci := 2) (N := 10) (n := 263) tyX3 rfl inG_X3 tyX3_ok dz_X3 q_343 q_344 q_20 (by rw [mc444]) sh_263 (by decide) sgm444.2 ⟨Nat.le_of_ble_eq_true rfl, Nat.le_of_ble_eq_true rfl⟩ dX10_init_121 ?_
  refine Wt.mem (M1 := mm445) rfl ?_
  refine w_dup hB rfl dX10_init_124 ?_
  refine w_callIN (M1 := mm455) hB (n := 263) (As := []) (st := [vr 263, vi 6, vr 223]) (na := 0) hg.2.1.2.2.2.2.2.2 q_20 q_347 ⟨by decide +kernel, by decide +kernel⟩ rfl q_346 (Or.inl (by decide)) (k52 hb hg) ⟨rfl, rfl⟩ (by decide) ⟨Nat.le_of_ble_eq_true rfl, Nat.le_of_ble_eq_true rfl⟩ rfl (Nat.le_of_ble_eq_true rfl) dX10_init_125 rfl ?_ (Or.inr (by rw [mc445, mc455]))
  refine w_aastB (M1 := mm456) hB hb (c := 7) (ci := 2) sh_223 (by decide) (by rw [mc455]; decide) sh_263 (by rw [mc455]; decide) rfl (by decide) rfl sl_223 (by decide) (by rw [show (6 : Int32).toNatClampNeg = 6 by decide]; rfl) dX10_init_128 ?_
  refine w_iinc hB 0 (v := 1) (L' := [(1, vi 7), (0, vr 64)]) dX10_init_129 rfl (by decide) (by decide) (by decide) rfl ?_
  refine w_goto hB 110 dX10_init_132 (by decide) ?_
  refine w_iload_n hB 0 dX10_init_110 rfl rfl ?_
  refine w_bipush hB 12 (by decide) dX10_init_111 ?_
  refine w_icmp_ge hB 135 dX10_init_113 (by decide) (fun hc => absurd hc (by decide)) (fun _ => ?_)
  refine w_aload_n hB 1 dX10_init_116 rfl rfl ?_
  refine w_getRB (v := 223) hB ff_X10_7 sh_64 (by rw [mc456]; decide) (by decide +kernel) q_390 dX10_init_117 ?_
  refine w_iload_n hB 0 dX10_init_120 rfl rfl ?_
  refine w_newB hB hb (ci := 2) (N := 10) (n := 269) tyX3 rfl inG_X3 tyX3_ok dz_X3 q_343 q_344 q_20 (by rw [mc456]) sh_269 (by decide) sgm456.2 ⟨Nat.le_of_ble_eq_true rfl, Nat.le_of_ble_eq_true rfl⟩ dX10_init_121 ?_
  refine Wt.mem (M1 := mm457) rfl ?_
  refine w_dup hB rfl dX10_init_124 ?_
  refine w_callIN (M1 := mm467) hB (n := 269) (As := []) (st := [vr 269, vi 7, vr 223]) (na := 0) hg.2.1.2.2.2.2.2.2 q_20 q_347 ⟨by decide +kernel, by decide +kernel⟩ rfl q_346 (Or.inl (by decide)) (k53 hb hg) ⟨rfl, rfl⟩ (by decide) ⟨Nat.le_of_ble_eq_true rfl, Nat.le_of_ble_eq_true rfl⟩ rfl (Nat.le_of_ble_eq_true rfl) dX10_init_125 rfl ?_ (Or.inr (by rw [mc457, mc467]))
  refine w_aastB (M1 := mm468) hB hb (c := 7) (ci := 2) sh_223 (by decide) (by rw [mc467]; decide) sh_269 (by rw [mc467]; decide) rfl (by decide) rfl sl_223 (by decide) (by rw [show (7 : Int32).toNatClampNeg = 7 by decide]; rfl) dX10_init_128 ?_
  refine w_iinc hB 0 (v := 1) (L' := [(1, vi 8), (0, vr 64)]) dX10_init_129 rfl (by decide) (by decide) (by decide) rfl ?_
  refine w_goto hB 110 dX10_init_132 (by decide) ?_
  refine w_iload_n hB 0 dX10_init_110 rfl rfl ?_
  refine w_bipush hB 12 (by decide) dX10_init_111 ?_
  refine w_icmp_ge hB 135 dX10_init_113 (by decide) (fun hc => absurd hc (by decide)) (fun _ => ?_)
  refine w_aload_n hB 1 dX10_init_116 rfl rfl ?_
  refine w_getRB (v := 223) hB ff_X10_7 sh_64 (by rw [mc468]; decide) (by decide +kernel) q_390 dX10_init_117 ?_
  refine w_iload_n hB 0 dX10_init_120 rfl rfl ?_
  refine w_newB hB hb (ci := 2) (N := 10) (n := 275) tyX3 rfl inG_X3 tyX3_ok dz_X3 q_343 q_344 q_20 (by rw [mc468]) sh_275 (by decide) sgm468.2 ⟨Nat.le_of_ble_eq_true rfl, Nat.le_of_ble_eq_true rfl⟩ dX10_init_121 ?_
  refine Wt.mem (M1 := mm469) rfl ?_
  refine w_dup hB rfl dX10_init_124 ?_
  refine w_callIN (M1 := mm479) hB (n := 275) (As := []) (st := [vr 275, vi 8, vr 223]) (na := 0) hg.2.1.2.2.2.2.2.2 q_20 q_347 ⟨by decide +kernel, by decide +kernel⟩ rfl q_346 (Or.inl (by decide)) (k54 hb hg) ⟨rfl, rfl⟩ (by decide) ⟨Nat.le_of_ble_eq_true rfl, Nat.le_of_ble_eq_true rfl⟩ rfl (Nat.le_of_ble_eq_true rfl) dX10_init_125 rfl ?_ (Or.inr (by rw [mc469, mc479]))
  refine w_aastB (M1 := mm480) hB hb (c := 7) (ci := 2) sh_223 (by decide) (by rw [mc479]; decide) sh_275 (by rw [mc479]; decide) rfl (by decide) rfl sl_223 (by decide) (by rw [show (8 : Int32).toNatClampNeg = 8 by decide]; rfl) dX10_init_128 ?_
  refine w_iinc hB 0 (v := 1) (L' := [(1, vi 9), (0, vr 64)]) dX10_init_129 rfl (by decide) (by decide) (by decide) rfl ?_
  refine w_goto hB 110 dX10_init_132 (by decide) ?_
  refine w_iload_n hB 0 dX10_init_110 rfl rfl ?_
  refine w_bipush hB 12 (by decide) dX10_init_111 ?_
  refine w_icmp_ge hB 135 dX10_init_113 (by decide) (fun hc => absurd hc (by decide)) (fun _ => ?_)
  refine w_aload_n hB 1 dX10_init_116 rfl rfl ?_
  refine w_getRB (v := 223) hB ff_X10_7 sh_64 (by rw [mc480]; decide) (by decide +kernel) q_390 dX10_init_117 ?_
  refine w_iload_n hB 0 dX10_init_120 rfl rfl ?_
  refine w_newB hB hb (ci := 2) (N := 10) (n := 281) tyX3 rfl inG_X3 tyX3_ok dz_X3 q_343 q_344 q_20 (by rw [mc480]) sh_281 (by decide) sgm480.2 ⟨Nat.le_of_ble_eq_true rfl, Nat.le_of_ble_eq_true rfl⟩ dX10_init_121 ?_
  refine Wt.mem (M1 := mm481) rfl ?_
  refine w_dup hB rfl dX10_init_124 ?_
  refine w_callIN (M1 := mm491) hB (n := 281) (As := []) (st := [vr 281, vi 9, vr 223]) (na := 0) hg.2.1.2.2.2.2.2.2 q_20 q_347 ⟨by decide +kernel, by decide +kernel⟩ rfl q_346 (Or.inl (by decide)) (k55 hb hg) ⟨rfl, rfl⟩ (by decide) ⟨Nat.le_of_ble_eq_true rfl, Nat.le_of_ble_eq_true rfl⟩ rfl (Nat.le_of_ble_eq_true rfl) dX10_init_125 rfl ?_ (Or.inr (by rw [mc481, mc491]))
  refine w_aastB (M1 := mm492) hB hb (c := 7) (ci := 2) sh_223 (by decide) (by rw [mc491]; decide) sh_281 (by rw [mc491]; decide) rfl (by decide) rfl sl_223 (by decide) (by rw [show (9 : Int32).toNatClampNeg = 9 by decide]; rfl) dX10_init_128 ?_
  refine w_iinc hB 0 (v := 1) (L' := [(1, vi 10), (0, vr 64)]) dX10_init_129 rfl (by decide) (by decide) (by decide) rfl ?_
  refine w_goto hB 110 dX10_init_132 (by decide) ?_
  refine w_iload_n hB 0 dX10_init_110 rfl rfl ?_
  refine w_bipush hB 12 (by decide) dX10_init_111 ?_
  refine w_icmp_ge hB 135 dX10_init_113 (by decide) (fun hc => absurd hc (by decide)) (fun _ => ?_)
  refine w_aload_n hB 1 dX10_init_116 rfl rfl ?_
  refine w_getRB (v := 223) hB ff_X10_7 sh_64 (by rw [mc492]; decide) (by decide +kernel) q_390 dX10_init_117 ?_
  refine w_iload_n hB 0 dX10_init_120 rfl rfl ?_
  refine w_newB hB hb (ci := 2) (N := 10) (n := 287) tyX3 rfl inG_X3 tyX3_ok dz_X3 q_343 q_344 q_20 (by rw [mc492]) sh_287 (by decide) sgm492.2 ⟨Nat.le_of_ble_eq_true rfl, Nat.le_of_ble_eq_true rfl⟩ dX10_init_121 ?_
  refine Wt.mem (M1 := mm493) rfl ?_
  refine w_dup hB rfl dX10_init_124 ?_
  refine w_callIN (M1 := mm503) hB (n := 287) (As := []) (st := [vr 287, vi 10, vr 223]) (na := 0) hg.2.1.2.2.2.2.2.2 q_20 q_347 ⟨by decide +kernel, by decide +kernel⟩ rfl q_346 (Or.inl (by decide)) (k56 hb hg) ⟨rfl, rfl⟩ (by decide) ⟨Nat.le_of_ble_eq_true rfl, Nat.le_of_ble_eq_true rfl⟩ rfl (Nat.le_of_ble_eq_true rfl) dX10_init_125 rfl ?_ (Or.inr (by rw [mc493, mc503]))
  refine w_aastB (M1 := mm504) hB hb (c := 7) (ci := 2) sh_223 (by decide) (by rw [mc503]; decide) sh_287 (by rw [mc503]; decide) rfl (by decide) rfl sl_223 (by decide) (by rw [show (10 : Int32).toNatClampNeg = 10 by decide]; rfl) dX10_init_128 ?_
  refine w_iinc hB 0 (v := 1) (L' := [(1, vi 11), (0, vr 64)]) dX10_init_129 rfl (by decide) (by decide) (by decide) rfl ?_
  refine w_goto hB 110 dX10_init_132 (by decide) ?_
  refine w_iload_n hB 0 dX10_init_110 rfl rfl ?_
  refine w_bipush hB 12 (by decide) dX10_init_111 ?_
  refine w_icmp_ge hB 135 dX10_init_113 (by decide) (fun hc => absurd hc (by decide)) (fun _ => ?_)
  refine w_aload_n hB 1 dX10_init_116 rfl rfl ?_
  refine w_getRB (v := 223) hB ff_X10_7 sh_64 (by rw [mc504]; decide) (by decide +kernel) q_390 dX10_init_117 ?_
  refine w_iload_n hB 0 dX10_init_120 rfl rfl ?_
  refine w_newB hB hb (ci := 2) (N := 10) (n := 293) tyX3 rfl inG_X3 tyX3_ok dz_X3 q_343 q_344 q_20 (by rw [mc504]) sh_293 (by decide) sgm504.2 ⟨Nat.le_of_ble_eq_true rfl, Nat.le_of_ble_eq_true rfl⟩ dX10_init_121 ?_
  refine Wt.mem (M1 := mm505) rfl ?_
  refine w_dup hB rfl dX10_init_124 ?_
  refine w_callIN (M1 := mm515) hB (n := 293) (As := []) (st := [vr 293, vi 11, vr 223]) (na := 0) hg.2.1.2.2.2.2.2.2 q_20 q_347 ⟨by decide +kernel, by decide +kernel⟩ rfl q_346 (Or.inl (by decide)) (k57 hb hg) ⟨rfl, rfl⟩ (by decide) ⟨Nat.le_of_ble_eq_true rfl, Nat.le_of_ble_eq_true rfl⟩ rfl (Nat.le_of_ble_eq_true rfl) dX10_init_125 rfl ?_ (Or.inr (by rw [mc505, mc515]))
  refine w_aastB (M1 := mm516) hB hb (c := 7) (ci := 2) sh_223 (by decide) (by rw [mc515]; decide) sh_293 (by rw [mc515]; decide) rfl (by decide) rfl sl_223 (by decide) (by rw [show (11 : Int32).toNatClampNeg = 11 by decide]; rfl) dX10_init_128 ?_
  refine w_iinc hB 0 (v := 1) (L' := [(1, vi 12), (0, vr 64)]) dX10_init_129 rfl (by decide) (by decide) (by decide) rfl ?_
  refine w_goto hB 110 dX10_init_132 (by decide) ?_
  refine w_iload_n hB 0 dX10_init_110 rfl rfl ?_
  refine w_bipush hB 12 (by decide) dX10_init_111 ?_
  refine w_icmp_ge hB 135 dX10_init_113 (by decide) (fun _ => ?_) (fun hc => absurd (by decide) hc)
  refine w_iconst hB 0 (by decide) dX10_init_135 ?_
  refine w_istore_n hB (L' := [(1, vi 0), (0, vr 64)]) dX10_init_136 rfl (by decide) rfl rfl ?_
  refine w_iload_n hB 0 dX10_init_137 rfl rfl ?_
  refine w_iconst hB 2 (by decide) dX10_init_138 ?_
  refine w_icmp_ge hB 161 dX10_init_139 (by decide) (fun hc => absurd hc (by decide)) (fun _ => ?_)
  refine w_aload_n hB 1 dX10_init_142 rfl rfl ?_
  refine w_getRB (v := 224) hB ff_X10_10 sh_64 (by rw [mc516]; decide) (by decide +kernel) q_392 dX10_init_143 ?_
  refine w_iload_n hB 0 dX10_init_146 rfl rfl ?_
  refine w_newB hB hb (ci := 2) (N := 10) (n := 299) tyX3 rfl inG_X3 tyX3_ok dz_X3 q_343 q_344 q_20 (by rw [mc516]) sh_299 (by decide) sgm516.2 ⟨Nat.le_of_ble_eq_true rfl, Nat.le_of_ble_eq_true rfl⟩ dX10_init_147 ?_
  refine Wt.mem (M1 := mm517) rfl ?_
  refine w_dup hB rfl dX10_init_150 ?_
  refine w_callIN (M1 := mm527) hB (n := 299) (As := []) (st := [vr 299, vi 0, vr 224]) (na := 0) hg.2.1.2.2.2.2.2.2 q_20 q_347 ⟨by decide +kernel, by decide +kernel⟩ rfl q_346 (Or.inl (by decide)) (k58 hb hg) ⟨rfl, rfl⟩ (by decide) ⟨Nat.le_of_ble_eq_true rfl, Nat.le_of_ble_eq_true rfl⟩ rfl (Nat.le_of_ble_eq_true rfl) dX10_init_151 rfl ?_ (Or.inr (by rw [mc517, mc527]))
  refine w_aastB (M1 := mm528) hB hb (c := 7) (ci := 2) sh_224 (by decide) (by rw [mc527]; decide) sh_299 (by rw [mc527]; decide) rfl (by decide) rfl sl_224 (by decide) (by rw [show (0 : Int32).toNatClampNeg = 0 by decide]; rfl) dX10_init_154 ?_
  refine w_iinc hB 0 (v := 1) (L' := [(1, vi 1), (0, vr 64)]) dX10_init_155 rfl (by decide) (by decide) (by decide) rfl ?_
  refine w_goto hB 137 dX10_init_158 (by decide) ?_
  refine w_iload_n hB 0 dX10_init_137 rfl rfl ?_
  refine w_iconst hB 2 (by decide) dX10_init_138 ?_
  refine w_icmp_ge hB 161 dX10_init_139 (by decide) (fun hc => absurd hc (by decide)) (fun _ => ?_)
  refine w_aload_n hB 1 dX10_init_142 rfl rfl ?_
  refine w_getRB (v := 224) hB ff_X10_10 sh_64 (by rw [mc528]; decide) (by decide +kernel) q_392 dX10_init_143 ?_
  refine w_iload_n hB 0 dX10_init_146 rfl rfl ?_
  refine w_newB hB hb (ci := 2) (N := 10) (n := 305) tyX3 rfl inG_X3 tyX3_ok dz_X3 q_343 q_344 q_20 (by rw [mc528]) sh_305 (by decide) sgm528.2 ⟨Nat.le_of_ble_eq_true rfl, Nat.le_of_ble_eq_true rfl⟩ dX10_init_147 ?_
  refine Wt.mem (M1 := mm529) rfl ?_
  refine w_dup hB rfl dX10_init_150 ?_
  refine w_callIN (M1 := mm539) hB (n := 305) (As := []) (st := [vr 305, vi 1, vr 224]) (na := 0) hg.2.1.2.2.2.2.2.2 q_20 q_347 ⟨by decide +kernel, by decide +kernel⟩ rfl q_346 (Or.inl (by decide)) (k59 hb hg) ⟨rfl, rfl⟩ (by decide) ⟨Nat.le_of_ble_eq_true rfl, Nat.le_of_ble_eq_true rfl⟩ rfl (Nat.le_of_ble_eq_true rfl) dX10_init_151 rfl ?_ (Or.inr (by rw [mc529, mc539]))
  refine w_aastB (M1 := mm540) hB hb (c := 7) (ci := 2) sh_224 (by decide) (by rw [mc539]; decide) sh_305 (by rw [mc539]; decide) rfl (by decide) rfl sl_224 (by decide) (by rw [show (1 : Int32).toNatClampNeg = 1 by decide]; rfl) dX10_init_154 ?_
  refine w_iinc hB 0 (v := 1) (L' := [(1, vi 2), (0, vr 64)]) dX10_init_155 rfl (by decide) (by decide) (by decide) rfl ?_
  refine w_goto hB 137 dX10_init_158 (by decide) ?_
  refine w_iload_n hB 0 dX10_init_137 rfl rfl ?_
  refine w_iconst hB 2 (by decide) dX10_init_138 ?_
  refine w_icmp_ge hB 161 dX10_init_139 (by decide) (fun _ => ?_) (fun hc => absurd (by decide) hc)
  exact w_vret hB dX10_init_161
