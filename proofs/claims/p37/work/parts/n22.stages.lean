/-! stages of the memory -/
def Sg (M : Mem) (c : Nat) : Prop := M.2.2.2 = c ∧ Zr M
theorem sg_C {M M' : Mem} {c d : Nat} (h : Sg M c) (hd : c + 1 = d) (e : M' = cntM M) : Sg M' d := by
  subst hd; subst e; exact ⟨congrArg (· + 1) h.1, h.2.cntM⟩
theorem sg_R {M M' : Mem} {c : Nat} (n k x : Nat) (h : Sg M c) (e : M' = setR M n k x) (hb : Nat.blt n (64 + c) = true) : Sg M' c := by
  subst e; refine ⟨h.1, h.2.R ?_⟩; rw [h.1]; simpa [Nat.blt_eq] using hb
theorem sg_I {M M' : Mem} {c : Nat} (n k : Nat) (x : Int32) (h : Sg M c) (e : M' = setI M n k x) (hb : Nat.blt n (64 + c) = true) : Sg M' c := by
  subst e; refine ⟨h.1, h.2.I ?_⟩; rw [h.1]; simpa [Nat.blt_eq] using hb
theorem sg_F {M M' : Mem} {c : Nat} (n len : Nat) (x : Int32) (h : Sg M c) (e : M' = flM M n len x) (hb : Nat.blt n (64 + c) = true) : Sg M' c := by
  subst e; refine ⟨h.1, h.2.fl ?_⟩; rw [h.1]; simpa [Nat.blt_eq] using hb
def mm0 : Mem := (fun _ _ => 0, fun _ _ => 0, fun _ _ => 0, 0)
theorem sgm0 : Sg mm0 0 := ⟨rfl, fun _ _ _ => ⟨rfl, rfl, rfl⟩⟩
theorem mc0 : mm0.2.2.2 = 0 := sgm0.1
def mm1 : Mem := cntM mm0
theorem sgm1 : Sg mm1 1 := sg_C sgm0 rfl rfl
theorem mc1 : mm1.2.2.2 = 1 := sgm1.1
def mm2 : Mem := cntM mm1
theorem sgm2 : Sg mm2 2 := sg_C sgm1 rfl rfl
theorem mc2 : mm2.2.2.2 = 2 := sgm2.1
def mm3 : Mem := setR mm2 64 0 65
theorem sgm3 : Sg mm3 2 := sg_R 64 0 65 sgm2 rfl rfl
theorem mc3 : mm3.2.2.2 = 2 := sgm3.1
def mm4 : Mem := cntM mm3
theorem sgm4 : Sg mm4 3 := sg_C sgm3 rfl rfl
theorem mc4 : mm4.2.2.2 = 3 := sgm4.1
def mm5 : Mem := cntM mm4
theorem sgm5 : Sg mm5 4 := sg_C sgm4 rfl rfl
theorem mc5 : mm5.2.2.2 = 4 := sgm5.1
def mm6 : Mem := setR mm5 66 1 67
theorem sgm6 : Sg mm6 4 := sg_R 66 1 67 sgm5 rfl rfl
theorem mc6 : mm6.2.2.2 = 4 := sgm6.1
def mm7 : Mem := cntM mm6
theorem sgm7 : Sg mm7 5 := sg_C sgm6 rfl rfl
theorem mc7 : mm7.2.2.2 = 5 := sgm7.1
def mm8 : Mem := setR mm7 66 2 68
theorem sgm8 : Sg mm8 5 := sg_R 66 2 68 sgm7 rfl rfl
theorem mc8 : mm8.2.2.2 = 5 := sgm8.1
def mm9 : Mem := cntM mm8
theorem sgm9 : Sg mm9 6 := sg_C sgm8 rfl rfl
theorem mc9 : mm9.2.2.2 = 6 := sgm9.1
def mm10 : Mem := cntM mm9
theorem sgm10 : Sg mm10 7 := sg_C sgm9 rfl rfl
theorem mc10 : mm10.2.2.2 = 7 := sgm10.1
def mm11 : Mem := setR mm10 69 0 70
theorem sgm11 : Sg mm11 7 := sg_R 69 0 70 sgm10 rfl rfl
theorem mc11 : mm11.2.2.2 = 7 := sgm11.1
def mm12 : Mem := setR mm11 66 4 69
theorem sgm12 : Sg mm12 7 := sg_R 66 4 69 sgm11 rfl rfl
theorem mc12 : mm12.2.2.2 = 7 := sgm12.1
def mm13 : Mem := cntM mm12
theorem sgm13 : Sg mm13 8 := sg_C sgm12 rfl rfl
theorem mc13 : mm13.2.2.2 = 8 := sgm13.1
def mm14 : Mem := setR mm13 66 6 71
theorem sgm14 : Sg mm14 8 := sg_R 66 6 71 sgm13 rfl rfl
theorem mc14 : mm14.2.2.2 = 8 := sgm14.1
def mm15 : Mem := cntM mm14
theorem sgm15 : Sg mm15 9 := sg_C sgm14 rfl rfl
theorem mc15 : mm15.2.2.2 = 9 := sgm15.1
def mm16 : Mem := setR mm15 66 8 72
theorem sgm16 : Sg mm16 9 := sg_R 66 8 72 sgm15 rfl rfl
theorem mc16 : mm16.2.2.2 = 9 := sgm16.1
def mm17 : Mem := cntM mm16
theorem sgm17 : Sg mm17 10 := sg_C sgm16 rfl rfl
theorem mc17 : mm17.2.2.2 = 10 := sgm17.1
def mm18 : Mem := setR mm17 66 10 73
theorem sgm18 : Sg mm18 10 := sg_R 66 10 73 sgm17 rfl rfl
theorem mc18 : mm18.2.2.2 = 10 := sgm18.1
def mm19 : Mem := cntM mm18
theorem sgm19 : Sg mm19 11 := sg_C sgm18 rfl rfl
theorem mc19 : mm19.2.2.2 = 11 := sgm19.1
def mm20 : Mem := setR mm19 66 12 74
theorem sgm20 : Sg mm20 11 := sg_R 66 12 74 sgm19 rfl rfl
theorem mc20 : mm20.2.2.2 = 11 := sgm20.1
def mm21 : Mem := cntM mm20
theorem sgm21 : Sg mm21 12 := sg_C sgm20 rfl rfl
theorem mc21 : mm21.2.2.2 = 12 := sgm21.1
def mm22 : Mem := setR mm21 66 13 75
theorem sgm22 : Sg mm22 12 := sg_R 66 13 75 sgm21 rfl rfl
theorem mc22 : mm22.2.2.2 = 12 := sgm22.1
def mm23 : Mem := cntM mm22
theorem sgm23 : Sg mm23 13 := sg_C sgm22 rfl rfl
theorem mc23 : mm23.2.2.2 = 13 := sgm23.1
def mm24 : Mem := cntM mm23
theorem sgm24 : Sg mm24 14 := sg_C sgm23 rfl rfl
theorem mc24 : mm24.2.2.2 = 14 := sgm24.1
def mm25 : Mem := setR mm24 76 4 77
theorem sgm25 : Sg mm25 14 := sg_R 76 4 77 sgm24 rfl rfl
theorem mc25 : mm25.2.2.2 = 14 := sgm25.1
def mm26 : Mem := cntM mm25
theorem sgm26 : Sg mm26 15 := sg_C sgm25 rfl rfl
theorem mc26 : mm26.2.2.2 = 15 := sgm26.1
def mm27 : Mem := setR mm26 76 5 78
theorem sgm27 : Sg mm27 15 := sg_R 76 5 78 sgm26 rfl rfl
theorem mc27 : mm27.2.2.2 = 15 := sgm27.1
def mm28 : Mem := setR mm27 72 0 76
theorem sgm28 : Sg mm28 15 := sg_R 72 0 76 sgm27 rfl rfl
theorem mc28 : mm28.2.2.2 = 15 := sgm28.1
def mm29 : Mem := cntM mm28
theorem sgm29 : Sg mm29 16 := sg_C sgm28 rfl rfl
theorem mc29 : mm29.2.2.2 = 16 := sgm29.1
def mm30 : Mem := cntM mm29
theorem sgm30 : Sg mm30 17 := sg_C sgm29 rfl rfl
theorem mc30 : mm30.2.2.2 = 17 := sgm30.1
def mm31 : Mem := setR mm30 79 4 80
theorem sgm31 : Sg mm31 17 := sg_R 79 4 80 sgm30 rfl rfl
theorem mc31 : mm31.2.2.2 = 17 := sgm31.1
def mm32 : Mem := cntM mm31
theorem sgm32 : Sg mm32 18 := sg_C sgm31 rfl rfl
theorem mc32 : mm32.2.2.2 = 18 := sgm32.1
def mm33 : Mem := setR mm32 79 5 81
theorem sgm33 : Sg mm33 18 := sg_R 79 5 81 sgm32 rfl rfl
theorem mc33 : mm33.2.2.2 = 18 := sgm33.1
def mm34 : Mem := setR mm33 72 1 79
theorem sgm34 : Sg mm34 18 := sg_R 72 1 79 sgm33 rfl rfl
theorem mc34 : mm34.2.2.2 = 18 := sgm34.1
def mm35 : Mem := cntM mm34
theorem sgm35 : Sg mm35 19 := sg_C sgm34 rfl rfl
theorem mc35 : mm35.2.2.2 = 19 := sgm35.1
def mm36 : Mem := cntM mm35
theorem sgm36 : Sg mm36 20 := sg_C sgm35 rfl rfl
theorem mc36 : mm36.2.2.2 = 20 := sgm36.1
def mm37 : Mem := setR mm36 82 4 83
theorem sgm37 : Sg mm37 20 := sg_R 82 4 83 sgm36 rfl rfl
theorem mc37 : mm37.2.2.2 = 20 := sgm37.1
def mm38 : Mem := cntM mm37
theorem sgm38 : Sg mm38 21 := sg_C sgm37 rfl rfl
theorem mc38 : mm38.2.2.2 = 21 := sgm38.1
def mm39 : Mem := setR mm38 82 5 84
theorem sgm39 : Sg mm39 21 := sg_R 82 5 84 sgm38 rfl rfl
theorem mc39 : mm39.2.2.2 = 21 := sgm39.1
def mm40 : Mem := setR mm39 72 2 82
theorem sgm40 : Sg mm40 21 := sg_R 72 2 82 sgm39 rfl rfl
theorem mc40 : mm40.2.2.2 = 21 := sgm40.1
def mm41 : Mem := cntM mm40
theorem sgm41 : Sg mm41 22 := sg_C sgm40 rfl rfl
theorem mc41 : mm41.2.2.2 = 22 := sgm41.1
def mm42 : Mem := cntM mm41
theorem sgm42 : Sg mm42 23 := sg_C sgm41 rfl rfl
theorem mc42 : mm42.2.2.2 = 23 := sgm42.1
def mm43 : Mem := setR mm42 85 4 86
theorem sgm43 : Sg mm43 23 := sg_R 85 4 86 sgm42 rfl rfl
theorem mc43 : mm43.2.2.2 = 23 := sgm43.1
def mm44 : Mem := cntM mm43
theorem sgm44 : Sg mm44 24 := sg_C sgm43 rfl rfl
theorem mc44 : mm44.2.2.2 = 24 := sgm44.1
def mm45 : Mem := setR mm44 85 5 87
theorem sgm45 : Sg mm45 24 := sg_R 85 5 87 sgm44 rfl rfl
theorem mc45 : mm45.2.2.2 = 24 := sgm45.1
def mm46 : Mem := setR mm45 72 3 85
theorem sgm46 : Sg mm46 24 := sg_R 72 3 85 sgm45 rfl rfl
theorem mc46 : mm46.2.2.2 = 24 := sgm46.1
def mm47 : Mem := cntM mm46
theorem sgm47 : Sg mm47 25 := sg_C sgm46 rfl rfl
theorem mc47 : mm47.2.2.2 = 25 := sgm47.1
def mm48 : Mem := cntM mm47
theorem sgm48 : Sg mm48 26 := sg_C sgm47 rfl rfl
theorem mc48 : mm48.2.2.2 = 26 := sgm48.1
def mm49 : Mem := setR mm48 88 4 89
theorem sgm49 : Sg mm49 26 := sg_R 88 4 89 sgm48 rfl rfl
theorem mc49 : mm49.2.2.2 = 26 := sgm49.1
def mm50 : Mem := cntM mm49
theorem sgm50 : Sg mm50 27 := sg_C sgm49 rfl rfl
theorem mc50 : mm50.2.2.2 = 27 := sgm50.1
def mm51 : Mem := setR mm50 88 5 90
theorem sgm51 : Sg mm51 27 := sg_R 88 5 90 sgm50 rfl rfl
theorem mc51 : mm51.2.2.2 = 27 := sgm51.1
def mm52 : Mem := setR mm51 72 4 88
theorem sgm52 : Sg mm52 27 := sg_R 72 4 88 sgm51 rfl rfl
theorem mc52 : mm52.2.2.2 = 27 := sgm52.1
def mm53 : Mem := cntM mm52
theorem sgm53 : Sg mm53 28 := sg_C sgm52 rfl rfl
theorem mc53 : mm53.2.2.2 = 28 := sgm53.1
def mm54 : Mem := cntM mm53
theorem sgm54 : Sg mm54 29 := sg_C sgm53 rfl rfl
theorem mc54 : mm54.2.2.2 = 29 := sgm54.1
def mm55 : Mem := setR mm54 91 2 92
theorem sgm55 : Sg mm55 29 := sg_R 91 2 92 sgm54 rfl rfl
theorem mc55 : mm55.2.2.2 = 29 := sgm55.1
def mm56 : Mem := setR mm55 73 0 91
theorem sgm56 : Sg mm56 29 := sg_R 73 0 91 sgm55 rfl rfl
theorem mc56 : mm56.2.2.2 = 29 := sgm56.1
def mm57 : Mem := cntM mm56
theorem sgm57 : Sg mm57 30 := sg_C sgm56 rfl rfl
theorem mc57 : mm57.2.2.2 = 30 := sgm57.1
def mm58 : Mem := cntM mm57
theorem sgm58 : Sg mm58 31 := sg_C sgm57 rfl rfl
theorem mc58 : mm58.2.2.2 = 31 := sgm58.1
def mm59 : Mem := setR mm58 93 2 94
theorem sgm59 : Sg mm59 31 := sg_R 93 2 94 sgm58 rfl rfl
theorem mc59 : mm59.2.2.2 = 31 := sgm59.1
def mm60 : Mem := setR mm59 73 1 93
theorem sgm60 : Sg mm60 31 := sg_R 73 1 93 sgm59 rfl rfl
theorem mc60 : mm60.2.2.2 = 31 := sgm60.1
def mm61 : Mem := cntM mm60
theorem sgm61 : Sg mm61 32 := sg_C sgm60 rfl rfl
theorem mc61 : mm61.2.2.2 = 32 := sgm61.1
def mm62 : Mem := cntM mm61
theorem sgm62 : Sg mm62 33 := sg_C sgm61 rfl rfl
theorem mc62 : mm62.2.2.2 = 33 := sgm62.1
def mm63 : Mem := setR mm62 95 2 96
theorem sgm63 : Sg mm63 33 := sg_R 95 2 96 sgm62 rfl rfl
theorem mc63 : mm63.2.2.2 = 33 := sgm63.1
def mm64 : Mem := setR mm63 73 2 95
theorem sgm64 : Sg mm64 33 := sg_R 73 2 95 sgm63 rfl rfl
theorem mc64 : mm64.2.2.2 = 33 := sgm64.1
def mm65 : Mem := cntM mm64
theorem sgm65 : Sg mm65 34 := sg_C sgm64 rfl rfl
theorem mc65 : mm65.2.2.2 = 34 := sgm65.1
def mm66 : Mem := cntM mm65
theorem sgm66 : Sg mm66 35 := sg_C sgm65 rfl rfl
theorem mc66 : mm66.2.2.2 = 35 := sgm66.1
def mm67 : Mem := setR mm66 97 6 98
theorem sgm67 : Sg mm67 35 := sg_R 97 6 98 sgm66 rfl rfl
theorem mc67 : mm67.2.2.2 = 35 := sgm67.1
def mm68 : Mem := cntM mm67
theorem sgm68 : Sg mm68 36 := sg_C sgm67 rfl rfl
theorem mc68 : mm68.2.2.2 = 36 := sgm68.1
def mm69 : Mem := setR mm68 97 7 99
theorem sgm69 : Sg mm69 36 := sg_R 97 7 99 sgm68 rfl rfl
theorem mc69 : mm69.2.2.2 = 36 := sgm69.1
def mm70 : Mem := cntM mm69
theorem sgm70 : Sg mm70 37 := sg_C sgm69 rfl rfl
theorem mc70 : mm70.2.2.2 = 37 := sgm70.1
def mm71 : Mem := setR mm70 97 8 100
theorem sgm71 : Sg mm71 37 := sg_R 97 8 100 sgm70 rfl rfl
theorem mc71 : mm71.2.2.2 = 37 := sgm71.1
def mm72 : Mem := cntM mm71
theorem sgm72 : Sg mm72 38 := sg_C sgm71 rfl rfl
theorem mc72 : mm72.2.2.2 = 38 := sgm72.1
def mm73 : Mem := setR mm72 97 9 101
theorem sgm73 : Sg mm73 38 := sg_R 97 9 101 sgm72 rfl rfl
theorem mc73 : mm73.2.2.2 = 38 := sgm73.1
def mm74 : Mem := setR mm73 74 0 97
theorem sgm74 : Sg mm74 38 := sg_R 74 0 97 sgm73 rfl rfl
theorem mc74 : mm74.2.2.2 = 38 := sgm74.1
def mm75 : Mem := cntM mm74
theorem sgm75 : Sg mm75 39 := sg_C sgm74 rfl rfl
theorem mc75 : mm75.2.2.2 = 39 := sgm75.1
def mm76 : Mem := cntM mm75
theorem sgm76 : Sg mm76 40 := sg_C sgm75 rfl rfl
theorem mc76 : mm76.2.2.2 = 40 := sgm76.1
def mm77 : Mem := setR mm76 102 6 103
theorem sgm77 : Sg mm77 40 := sg_R 102 6 103 sgm76 rfl rfl
theorem mc77 : mm77.2.2.2 = 40 := sgm77.1
def mm78 : Mem := cntM mm77
theorem sgm78 : Sg mm78 41 := sg_C sgm77 rfl rfl
theorem mc78 : mm78.2.2.2 = 41 := sgm78.1
def mm79 : Mem := setR mm78 102 7 104
theorem sgm79 : Sg mm79 41 := sg_R 102 7 104 sgm78 rfl rfl
theorem mc79 : mm79.2.2.2 = 41 := sgm79.1
def mm80 : Mem := cntM mm79
theorem sgm80 : Sg mm80 42 := sg_C sgm79 rfl rfl
theorem mc80 : mm80.2.2.2 = 42 := sgm80.1
def mm81 : Mem := setR mm80 102 8 105
theorem sgm81 : Sg mm81 42 := sg_R 102 8 105 sgm80 rfl rfl
theorem mc81 : mm81.2.2.2 = 42 := sgm81.1
def mm82 : Mem := cntM mm81
theorem sgm82 : Sg mm82 43 := sg_C sgm81 rfl rfl
theorem mc82 : mm82.2.2.2 = 43 := sgm82.1
def mm83 : Mem := setR mm82 102 9 106
theorem sgm83 : Sg mm83 43 := sg_R 102 9 106 sgm82 rfl rfl
theorem mc83 : mm83.2.2.2 = 43 := sgm83.1
def mm84 : Mem := setR mm83 74 1 102
theorem sgm84 : Sg mm84 43 := sg_R 74 1 102 sgm83 rfl rfl
theorem mc84 : mm84.2.2.2 = 43 := sgm84.1
def mm85 : Mem := cntM mm84
theorem sgm85 : Sg mm85 44 := sg_C sgm84 rfl rfl
theorem mc85 : mm85.2.2.2 = 44 := sgm85.1
def mm86 : Mem := cntM mm85
theorem sgm86 : Sg mm86 45 := sg_C sgm85 rfl rfl
theorem mc86 : mm86.2.2.2 = 45 := sgm86.1
def mm87 : Mem := setR mm86 107 6 108
theorem sgm87 : Sg mm87 45 := sg_R 107 6 108 sgm86 rfl rfl
theorem mc87 : mm87.2.2.2 = 45 := sgm87.1
def mm88 : Mem := cntM mm87
theorem sgm88 : Sg mm88 46 := sg_C sgm87 rfl rfl
theorem mc88 : mm88.2.2.2 = 46 := sgm88.1
def mm89 : Mem := setR mm88 107 7 109
theorem sgm89 : Sg mm89 46 := sg_R 107 7 109 sgm88 rfl rfl
theorem mc89 : mm89.2.2.2 = 46 := sgm89.1
def mm90 : Mem := cntM mm89
theorem sgm90 : Sg mm90 47 := sg_C sgm89 rfl rfl
theorem mc90 : mm90.2.2.2 = 47 := sgm90.1
def mm91 : Mem := setR mm90 107 8 110
theorem sgm91 : Sg mm91 47 := sg_R 107 8 110 sgm90 rfl rfl
theorem mc91 : mm91.2.2.2 = 47 := sgm91.1
def mm92 : Mem := cntM mm91
theorem sgm92 : Sg mm92 48 := sg_C sgm91 rfl rfl
theorem mc92 : mm92.2.2.2 = 48 := sgm92.1
def mm93 : Mem := setR mm92 107 9 111
theorem sgm93 : Sg mm93 48 := sg_R 107 9 111 sgm92 rfl rfl
theorem mc93 : mm93.2.2.2 = 48 := sgm93.1
def mm94 : Mem := setR mm93 74 2 107
theorem sgm94 : Sg mm94 48 := sg_R 74 2 107 sgm93 rfl rfl
theorem mc94 : mm94.2.2.2 = 48 := sgm94.1
def mm95 : Mem := cntM mm94
theorem sgm95 : Sg mm95 49 := sg_C sgm94 rfl rfl
theorem mc95 : mm95.2.2.2 = 49 := sgm95.1
def mm96 : Mem := cntM mm95
theorem sgm96 : Sg mm96 50 := sg_C sgm95 rfl rfl
theorem mc96 : mm96.2.2.2 = 50 := sgm96.1
def mm97 : Mem := setR mm96 112 6 113
theorem sgm97 : Sg mm97 50 := sg_R 112 6 113 sgm96 rfl rfl
theorem mc97 : mm97.2.2.2 = 50 := sgm97.1
def mm98 : Mem := cntM mm97
theorem sgm98 : Sg mm98 51 := sg_C sgm97 rfl rfl
theorem mc98 : mm98.2.2.2 = 51 := sgm98.1
def mm99 : Mem := setR mm98 112 7 114
theorem sgm99 : Sg mm99 51 := sg_R 112 7 114 sgm98 rfl rfl
theorem mc99 : mm99.2.2.2 = 51 := sgm99.1
def mm100 : Mem := cntM mm99
theorem sgm100 : Sg mm100 52 := sg_C sgm99 rfl rfl
theorem mc100 : mm100.2.2.2 = 52 := sgm100.1
def mm101 : Mem := setR mm100 112 8 115
theorem sgm101 : Sg mm101 52 := sg_R 112 8 115 sgm100 rfl rfl
theorem mc101 : mm101.2.2.2 = 52 := sgm101.1
def mm102 : Mem := cntM mm101
theorem sgm102 : Sg mm102 53 := sg_C sgm101 rfl rfl
theorem mc102 : mm102.2.2.2 = 53 := sgm102.1
def mm103 : Mem := setR mm102 112 9 116
theorem sgm103 : Sg mm103 53 := sg_R 112 9 116 sgm102 rfl rfl
theorem mc103 : mm103.2.2.2 = 53 := sgm103.1
def mm104 : Mem := setR mm103 74 3 112
theorem sgm104 : Sg mm104 53 := sg_R 74 3 112 sgm103 rfl rfl
theorem mc104 : mm104.2.2.2 = 53 := sgm104.1
def mm105 : Mem := cntM mm104
theorem sgm105 : Sg mm105 54 := sg_C sgm104 rfl rfl
theorem mc105 : mm105.2.2.2 = 54 := sgm105.1
def mm106 : Mem := cntM mm105
theorem sgm106 : Sg mm106 55 := sg_C sgm105 rfl rfl
theorem mc106 : mm106.2.2.2 = 55 := sgm106.1
def mm107 : Mem := setR mm106 117 6 118
theorem sgm107 : Sg mm107 55 := sg_R 117 6 118 sgm106 rfl rfl
theorem mc107 : mm107.2.2.2 = 55 := sgm107.1
def mm108 : Mem := cntM mm107
theorem sgm108 : Sg mm108 56 := sg_C sgm107 rfl rfl
theorem mc108 : mm108.2.2.2 = 56 := sgm108.1
def mm109 : Mem := setR mm108 117 7 119
theorem sgm109 : Sg mm109 56 := sg_R 117 7 119 sgm108 rfl rfl
theorem mc109 : mm109.2.2.2 = 56 := sgm109.1
def mm110 : Mem := cntM mm109
theorem sgm110 : Sg mm110 57 := sg_C sgm109 rfl rfl
theorem mc110 : mm110.2.2.2 = 57 := sgm110.1
def mm111 : Mem := setR mm110 117 8 120
theorem sgm111 : Sg mm111 57 := sg_R 117 8 120 sgm110 rfl rfl
theorem mc111 : mm111.2.2.2 = 57 := sgm111.1
def mm112 : Mem := cntM mm111
theorem sgm112 : Sg mm112 58 := sg_C sgm111 rfl rfl
theorem mc112 : mm112.2.2.2 = 58 := sgm112.1
def mm113 : Mem := setR mm112 117 9 121
theorem sgm113 : Sg mm113 58 := sg_R 117 9 121 sgm112 rfl rfl
theorem mc113 : mm113.2.2.2 = 58 := sgm113.1
def mm114 : Mem := setR mm113 74 4 117
theorem sgm114 : Sg mm114 58 := sg_R 74 4 117 sgm113 rfl rfl
theorem mc114 : mm114.2.2.2 = 58 := sgm114.1
def mm115 : Mem := cntM mm114
theorem sgm115 : Sg mm115 59 := sg_C sgm114 rfl rfl
theorem mc115 : mm115.2.2.2 = 59 := sgm115.1
def mm116 : Mem := cntM mm115
theorem sgm116 : Sg mm116 60 := sg_C sgm115 rfl rfl
theorem mc116 : mm116.2.2.2 = 60 := sgm116.1
def mm117 : Mem := setR mm116 122 6 123
theorem sgm117 : Sg mm117 60 := sg_R 122 6 123 sgm116 rfl rfl
theorem mc117 : mm117.2.2.2 = 60 := sgm117.1
def mm118 : Mem := cntM mm117
theorem sgm118 : Sg mm118 61 := sg_C sgm117 rfl rfl
theorem mc118 : mm118.2.2.2 = 61 := sgm118.1
def mm119 : Mem := setR mm118 122 7 124
theorem sgm119 : Sg mm119 61 := sg_R 122 7 124 sgm118 rfl rfl
theorem mc119 : mm119.2.2.2 = 61 := sgm119.1
def mm120 : Mem := cntM mm119
theorem sgm120 : Sg mm120 62 := sg_C sgm119 rfl rfl
theorem mc120 : mm120.2.2.2 = 62 := sgm120.1
def mm121 : Mem := setR mm120 122 8 125
theorem sgm121 : Sg mm121 62 := sg_R 122 8 125 sgm120 rfl rfl
theorem mc121 : mm121.2.2.2 = 62 := sgm121.1
def mm122 : Mem := cntM mm121
theorem sgm122 : Sg mm122 63 := sg_C sgm121 rfl rfl
theorem mc122 : mm122.2.2.2 = 63 := sgm122.1
def mm123 : Mem := setR mm122 122 9 126
theorem sgm123 : Sg mm123 63 := sg_R 122 9 126 sgm122 rfl rfl
theorem mc123 : mm123.2.2.2 = 63 := sgm123.1
def mm124 : Mem := setR mm123 74 5 122
theorem sgm124 : Sg mm124 63 := sg_R 74 5 122 sgm123 rfl rfl
theorem mc124 : mm124.2.2.2 = 63 := sgm124.1
def mm125 : Mem := cntM mm124
theorem sgm125 : Sg mm125 64 := sg_C sgm124 rfl rfl
theorem mc125 : mm125.2.2.2 = 64 := sgm125.1
def mm126 : Mem := cntM mm125
theorem sgm126 : Sg mm126 65 := sg_C sgm125 rfl rfl
theorem mc126 : mm126.2.2.2 = 65 := sgm126.1
def mm127 : Mem := setR mm126 127 6 128
theorem sgm127 : Sg mm127 65 := sg_R 127 6 128 sgm126 rfl rfl
theorem mc127 : mm127.2.2.2 = 65 := sgm127.1
def mm128 : Mem := cntM mm127
theorem sgm128 : Sg mm128 66 := sg_C sgm127 rfl rfl
theorem mc128 : mm128.2.2.2 = 66 := sgm128.1
def mm129 : Mem := setR mm128 127 7 129
theorem sgm129 : Sg mm129 66 := sg_R 127 7 129 sgm128 rfl rfl
theorem mc129 : mm129.2.2.2 = 66 := sgm129.1
def mm130 : Mem := cntM mm129
theorem sgm130 : Sg mm130 67 := sg_C sgm129 rfl rfl
theorem mc130 : mm130.2.2.2 = 67 := sgm130.1
def mm131 : Mem := setR mm130 127 8 130
theorem sgm131 : Sg mm131 67 := sg_R 127 8 130 sgm130 rfl rfl
theorem mc131 : mm131.2.2.2 = 67 := sgm131.1
def mm132 : Mem := cntM mm131
theorem sgm132 : Sg mm132 68 := sg_C sgm131 rfl rfl
theorem mc132 : mm132.2.2.2 = 68 := sgm132.1
def mm133 : Mem := setR mm132 127 9 131
theorem sgm133 : Sg mm133 68 := sg_R 127 9 131 sgm132 rfl rfl
theorem mc133 : mm133.2.2.2 = 68 := sgm133.1
def mm134 : Mem := setR mm133 74 6 127
theorem sgm134 : Sg mm134 68 := sg_R 74 6 127 sgm133 rfl rfl
theorem mc134 : mm134.2.2.2 = 68 := sgm134.1
def mm135 : Mem := cntM mm134
theorem sgm135 : Sg mm135 69 := sg_C sgm134 rfl rfl
theorem mc135 : mm135.2.2.2 = 69 := sgm135.1
def mm136 : Mem := cntM mm135
theorem sgm136 : Sg mm136 70 := sg_C sgm135 rfl rfl
theorem mc136 : mm136.2.2.2 = 70 := sgm136.1
def mm137 : Mem := setR mm136 132 6 133
theorem sgm137 : Sg mm137 70 := sg_R 132 6 133 sgm136 rfl rfl
theorem mc137 : mm137.2.2.2 = 70 := sgm137.1
def mm138 : Mem := cntM mm137
theorem sgm138 : Sg mm138 71 := sg_C sgm137 rfl rfl
theorem mc138 : mm138.2.2.2 = 71 := sgm138.1
def mm139 : Mem := setR mm138 132 7 134
theorem sgm139 : Sg mm139 71 := sg_R 132 7 134 sgm138 rfl rfl
theorem mc139 : mm139.2.2.2 = 71 := sgm139.1
def mm140 : Mem := cntM mm139
theorem sgm140 : Sg mm140 72 := sg_C sgm139 rfl rfl
theorem mc140 : mm140.2.2.2 = 72 := sgm140.1
def mm141 : Mem := setR mm140 132 8 135
theorem sgm141 : Sg mm141 72 := sg_R 132 8 135 sgm140 rfl rfl
theorem mc141 : mm141.2.2.2 = 72 := sgm141.1
def mm142 : Mem := cntM mm141
theorem sgm142 : Sg mm142 73 := sg_C sgm141 rfl rfl
theorem mc142 : mm142.2.2.2 = 73 := sgm142.1
def mm143 : Mem := setR mm142 132 9 136
theorem sgm143 : Sg mm143 73 := sg_R 132 9 136 sgm142 rfl rfl
theorem mc143 : mm143.2.2.2 = 73 := sgm143.1
def mm144 : Mem := setR mm143 74 7 132
theorem sgm144 : Sg mm144 73 := sg_R 74 7 132 sgm143 rfl rfl
theorem mc144 : mm144.2.2.2 = 73 := sgm144.1
def mm145 : Mem := setI mm144 66 0 0
theorem sgm145 : Sg mm145 73 := sg_I 66 0 0 sgm144 rfl rfl
theorem mc145 : mm145.2.2.2 = 73 := sgm145.1
def mm146 : Mem := setI mm145 66 3 0
theorem sgm146 : Sg mm146 73 := sg_I 66 3 0 sgm145 rfl rfl
theorem mc146 : mm146.2.2.2 = 73 := sgm146.1
def mm147 : Mem := flM mm146 70 100 268435456
theorem sgm147 : Sg mm147 73 := sg_F 70 100 268435456 sgm146 rfl rfl
theorem mc147 : mm147.2.2.2 = 73 := sgm147.1
def mm148 : Mem := setI mm147 70 0 0
theorem sgm148 : Sg mm148 73 := sg_I 70 0 0 sgm147 rfl rfl
theorem mc148 : mm148.2.2.2 = 73 := sgm148.1
def mm149 : Mem := setI mm148 70 11 0
theorem sgm149 : Sg mm149 73 := sg_I 70 11 0 sgm148 rfl rfl
theorem mc149 : mm149.2.2.2 = 73 := sgm149.1
def mm150 : Mem := setI mm149 70 22 0
theorem sgm150 : Sg mm150 73 := sg_I 70 22 0 sgm149 rfl rfl
theorem mc150 : mm150.2.2.2 = 73 := sgm150.1
def mm151 : Mem := setI mm150 70 33 0
theorem sgm151 : Sg mm151 73 := sg_I 70 33 0 sgm150 rfl rfl
theorem mc151 : mm151.2.2.2 = 73 := sgm151.1
def mm152 : Mem := setI mm151 70 44 0
theorem sgm152 : Sg mm152 73 := sg_I 70 44 0 sgm151 rfl rfl
theorem mc152 : mm152.2.2.2 = 73 := sgm152.1
def mm153 : Mem := setI mm152 70 55 0
theorem sgm153 : Sg mm153 73 := sg_I 70 55 0 sgm152 rfl rfl
theorem mc153 : mm153.2.2.2 = 73 := sgm153.1
def mm154 : Mem := setI mm153 70 66 0
theorem sgm154 : Sg mm154 73 := sg_I 70 66 0 sgm153 rfl rfl
theorem mc154 : mm154.2.2.2 = 73 := sgm154.1
def mm155 : Mem := setI mm154 70 77 0
theorem sgm155 : Sg mm155 73 := sg_I 70 77 0 sgm154 rfl rfl
theorem mc155 : mm155.2.2.2 = 73 := sgm155.1
def mm156 : Mem := setI mm155 70 88 0
theorem sgm156 : Sg mm156 73 := sg_I 70 88 0 sgm155 rfl rfl
theorem mc156 : mm156.2.2.2 = 73 := sgm156.1
def mm157 : Mem := setI mm156 70 99 0
theorem sgm157 : Sg mm157 73 := sg_I 70 99 0 sgm156 rfl rfl
theorem mc157 : mm157.2.2.2 = 73 := sgm157.1
def mm158 : Mem := setI mm157 69 1 0
theorem sgm158 : Sg mm158 73 := sg_I 69 1 0 sgm157 rfl rfl
theorem mc158 : mm158.2.2.2 = 73 := sgm158.1
def mm159 : Mem := setI mm158 66 5 0
theorem sgm159 : Sg mm159 73 := sg_I 66 5 0 sgm158 rfl rfl
theorem mc159 : mm159.2.2.2 = 73 := sgm159.1
def mm160 : Mem := setI mm159 66 7 0
theorem sgm160 : Sg mm160 73 := sg_I 66 7 0 sgm159 rfl rfl
theorem mc160 : mm160.2.2.2 = 73 := sgm160.1
def mm161 : Mem := setI mm160 66 9 0
theorem sgm161 : Sg mm161 73 := sg_I 66 9 0 sgm160 rfl rfl
theorem mc161 : mm161.2.2.2 = 73 := sgm161.1
def mm162 : Mem := setI mm161 66 11 0
theorem sgm162 : Sg mm162 73 := sg_I 66 11 0 sgm161 rfl rfl
theorem mc162 : mm162.2.2.2 = 73 := sgm162.1
def mm163 : Mem := setI mm162 75 0 60
theorem sgm163 : Sg mm163 73 := sg_I 75 0 60 sgm162 rfl rfl
theorem mc163 : mm163.2.2.2 = 73 := sgm163.1
def mm164 : Mem := setI mm163 75 1 0
theorem sgm164 : Sg mm164 73 := sg_I 75 1 0 sgm163 rfl rfl
theorem mc164 : mm164.2.2.2 = 73 := sgm164.1
def mm165 : Mem := setI mm164 75 2 1000
theorem sgm165 : Sg mm165 73 := sg_I 75 2 1000 sgm164 rfl rfl
theorem mc165 : mm165.2.2.2 = 73 := sgm165.1
def mm166 : Mem := setI mm165 75 3 1
theorem sgm166 : Sg mm166 73 := sg_I 75 3 1 sgm165 rfl rfl
theorem mc166 : mm166.2.2.2 = 73 := sgm166.1
def mm167 : Mem := setR mm166 64 2 66
theorem sgm167 : Sg mm167 73 := sg_R 64 2 66 sgm166 rfl rfl
theorem mc167 : mm167.2.2.2 = 73 := sgm167.1
def mm168 : Mem := cntM mm167
theorem sgm168 : Sg mm168 74 := sg_C sgm167 rfl rfl
theorem mc168 : mm168.2.2.2 = 74 := sgm168.1
def mm169 : Mem := cntM mm168
theorem sgm169 : Sg mm169 75 := sg_C sgm168 rfl rfl
theorem mc169 : mm169.2.2.2 = 75 := sgm169.1
def mm170 : Mem := setR mm169 137 1 138
theorem sgm170 : Sg mm170 75 := sg_R 137 1 138 sgm169 rfl rfl
theorem mc170 : mm170.2.2.2 = 75 := sgm170.1
def mm171 : Mem := cntM mm170
theorem sgm171 : Sg mm171 76 := sg_C sgm170 rfl rfl
theorem mc171 : mm171.2.2.2 = 76 := sgm171.1
def mm172 : Mem := setR mm171 137 2 139
theorem sgm172 : Sg mm172 76 := sg_R 137 2 139 sgm171 rfl rfl
theorem mc172 : mm172.2.2.2 = 76 := sgm172.1
def mm173 : Mem := cntM mm172
theorem sgm173 : Sg mm173 77 := sg_C sgm172 rfl rfl
theorem mc173 : mm173.2.2.2 = 77 := sgm173.1
def mm174 : Mem := cntM mm173
theorem sgm174 : Sg mm174 78 := sg_C sgm173 rfl rfl
theorem mc174 : mm174.2.2.2 = 78 := sgm174.1
def mm175 : Mem := setR mm174 140 0 141
theorem sgm175 : Sg mm175 78 := sg_R 140 0 141 sgm174 rfl rfl
theorem mc175 : mm175.2.2.2 = 78 := sgm175.1
def mm176 : Mem := setR mm175 137 4 140
theorem sgm176 : Sg mm176 78 := sg_R 137 4 140 sgm175 rfl rfl
theorem mc176 : mm176.2.2.2 = 78 := sgm176.1
def mm177 : Mem := cntM mm176
theorem sgm177 : Sg mm177 79 := sg_C sgm176 rfl rfl
theorem mc177 : mm177.2.2.2 = 79 := sgm177.1
def mm178 : Mem := setR mm177 137 6 142
theorem sgm178 : Sg mm178 79 := sg_R 137 6 142 sgm177 rfl rfl
theorem mc178 : mm178.2.2.2 = 79 := sgm178.1
def mm179 : Mem := cntM mm178
theorem sgm179 : Sg mm179 80 := sg_C sgm178 rfl rfl
theorem mc179 : mm179.2.2.2 = 80 := sgm179.1
def mm180 : Mem := setR mm179 137 8 143
theorem sgm180 : Sg mm180 80 := sg_R 137 8 143 sgm179 rfl rfl
theorem mc180 : mm180.2.2.2 = 80 := sgm180.1
def mm181 : Mem := cntM mm180
theorem sgm181 : Sg mm181 81 := sg_C sgm180 rfl rfl
theorem mc181 : mm181.2.2.2 = 81 := sgm181.1
def mm182 : Mem := setR mm181 137 10 144
theorem sgm182 : Sg mm182 81 := sg_R 137 10 144 sgm181 rfl rfl
theorem mc182 : mm182.2.2.2 = 81 := sgm182.1
def mm183 : Mem := cntM mm182
theorem sgm183 : Sg mm183 82 := sg_C sgm182 rfl rfl
theorem mc183 : mm183.2.2.2 = 82 := sgm183.1
def mm184 : Mem := setR mm183 137 12 145
theorem sgm184 : Sg mm184 82 := sg_R 137 12 145 sgm183 rfl rfl
theorem mc184 : mm184.2.2.2 = 82 := sgm184.1
def mm185 : Mem := cntM mm184
theorem sgm185 : Sg mm185 83 := sg_C sgm184 rfl rfl
theorem mc185 : mm185.2.2.2 = 83 := sgm185.1
def mm186 : Mem := setR mm185 137 13 146
theorem sgm186 : Sg mm186 83 := sg_R 137 13 146 sgm185 rfl rfl
theorem mc186 : mm186.2.2.2 = 83 := sgm186.1
def mm187 : Mem := cntM mm186
theorem sgm187 : Sg mm187 84 := sg_C sgm186 rfl rfl
theorem mc187 : mm187.2.2.2 = 84 := sgm187.1
def mm188 : Mem := cntM mm187
theorem sgm188 : Sg mm188 85 := sg_C sgm187 rfl rfl
theorem mc188 : mm188.2.2.2 = 85 := sgm188.1
def mm189 : Mem := setR mm188 147 4 148
theorem sgm189 : Sg mm189 85 := sg_R 147 4 148 sgm188 rfl rfl
theorem mc189 : mm189.2.2.2 = 85 := sgm189.1
def mm190 : Mem := cntM mm189
theorem sgm190 : Sg mm190 86 := sg_C sgm189 rfl rfl
theorem mc190 : mm190.2.2.2 = 86 := sgm190.1
def mm191 : Mem := setR mm190 147 5 149
theorem sgm191 : Sg mm191 86 := sg_R 147 5 149 sgm190 rfl rfl
theorem mc191 : mm191.2.2.2 = 86 := sgm191.1
def mm192 : Mem := setR mm191 143 0 147
theorem sgm192 : Sg mm192 86 := sg_R 143 0 147 sgm191 rfl rfl
theorem mc192 : mm192.2.2.2 = 86 := sgm192.1
def mm193 : Mem := cntM mm192
theorem sgm193 : Sg mm193 87 := sg_C sgm192 rfl rfl
theorem mc193 : mm193.2.2.2 = 87 := sgm193.1
def mm194 : Mem := cntM mm193
theorem sgm194 : Sg mm194 88 := sg_C sgm193 rfl rfl
theorem mc194 : mm194.2.2.2 = 88 := sgm194.1
def mm195 : Mem := setR mm194 150 4 151
theorem sgm195 : Sg mm195 88 := sg_R 150 4 151 sgm194 rfl rfl
theorem mc195 : mm195.2.2.2 = 88 := sgm195.1
def mm196 : Mem := cntM mm195
theorem sgm196 : Sg mm196 89 := sg_C sgm195 rfl rfl
theorem mc196 : mm196.2.2.2 = 89 := sgm196.1
def mm197 : Mem := setR mm196 150 5 152
theorem sgm197 : Sg mm197 89 := sg_R 150 5 152 sgm196 rfl rfl
theorem mc197 : mm197.2.2.2 = 89 := sgm197.1
def mm198 : Mem := setR mm197 143 1 150
theorem sgm198 : Sg mm198 89 := sg_R 143 1 150 sgm197 rfl rfl
theorem mc198 : mm198.2.2.2 = 89 := sgm198.1
def mm199 : Mem := cntM mm198
theorem sgm199 : Sg mm199 90 := sg_C sgm198 rfl rfl
theorem mc199 : mm199.2.2.2 = 90 := sgm199.1
def mm200 : Mem := cntM mm199
theorem sgm200 : Sg mm200 91 := sg_C sgm199 rfl rfl
theorem mc200 : mm200.2.2.2 = 91 := sgm200.1
def mm201 : Mem := setR mm200 153 4 154
theorem sgm201 : Sg mm201 91 := sg_R 153 4 154 sgm200 rfl rfl
theorem mc201 : mm201.2.2.2 = 91 := sgm201.1
def mm202 : Mem := cntM mm201
theorem sgm202 : Sg mm202 92 := sg_C sgm201 rfl rfl
theorem mc202 : mm202.2.2.2 = 92 := sgm202.1
def mm203 : Mem := setR mm202 153 5 155
theorem sgm203 : Sg mm203 92 := sg_R 153 5 155 sgm202 rfl rfl
theorem mc203 : mm203.2.2.2 = 92 := sgm203.1
def mm204 : Mem := setR mm203 143 2 153
theorem sgm204 : Sg mm204 92 := sg_R 143 2 153 sgm203 rfl rfl
theorem mc204 : mm204.2.2.2 = 92 := sgm204.1
def mm205 : Mem := cntM mm204
theorem sgm205 : Sg mm205 93 := sg_C sgm204 rfl rfl
theorem mc205 : mm205.2.2.2 = 93 := sgm205.1
def mm206 : Mem := cntM mm205
theorem sgm206 : Sg mm206 94 := sg_C sgm205 rfl rfl
theorem mc206 : mm206.2.2.2 = 94 := sgm206.1
def mm207 : Mem := setR mm206 156 4 157
theorem sgm207 : Sg mm207 94 := sg_R 156 4 157 sgm206 rfl rfl
theorem mc207 : mm207.2.2.2 = 94 := sgm207.1
def mm208 : Mem := cntM mm207
theorem sgm208 : Sg mm208 95 := sg_C sgm207 rfl rfl
theorem mc208 : mm208.2.2.2 = 95 := sgm208.1
def mm209 : Mem := setR mm208 156 5 158
theorem sgm209 : Sg mm209 95 := sg_R 156 5 158 sgm208 rfl rfl
theorem mc209 : mm209.2.2.2 = 95 := sgm209.1
def mm210 : Mem := setR mm209 143 3 156
theorem sgm210 : Sg mm210 95 := sg_R 143 3 156 sgm209 rfl rfl
theorem mc210 : mm210.2.2.2 = 95 := sgm210.1
def mm211 : Mem := cntM mm210
theorem sgm211 : Sg mm211 96 := sg_C sgm210 rfl rfl
theorem mc211 : mm211.2.2.2 = 96 := sgm211.1
def mm212 : Mem := cntM mm211
theorem sgm212 : Sg mm212 97 := sg_C sgm211 rfl rfl
theorem mc212 : mm212.2.2.2 = 97 := sgm212.1
def mm213 : Mem := setR mm212 159 4 160
theorem sgm213 : Sg mm213 97 := sg_R 159 4 160 sgm212 rfl rfl
theorem mc213 : mm213.2.2.2 = 97 := sgm213.1
def mm214 : Mem := cntM mm213
theorem sgm214 : Sg mm214 98 := sg_C sgm213 rfl rfl
theorem mc214 : mm214.2.2.2 = 98 := sgm214.1
def mm215 : Mem := setR mm214 159 5 161
theorem sgm215 : Sg mm215 98 := sg_R 159 5 161 sgm214 rfl rfl
theorem mc215 : mm215.2.2.2 = 98 := sgm215.1
def mm216 : Mem := setR mm215 143 4 159
theorem sgm216 : Sg mm216 98 := sg_R 143 4 159 sgm215 rfl rfl
theorem mc216 : mm216.2.2.2 = 98 := sgm216.1
def mm217 : Mem := cntM mm216
theorem sgm217 : Sg mm217 99 := sg_C sgm216 rfl rfl
theorem mc217 : mm217.2.2.2 = 99 := sgm217.1
def mm218 : Mem := cntM mm217
theorem sgm218 : Sg mm218 100 := sg_C sgm217 rfl rfl
theorem mc218 : mm218.2.2.2 = 100 := sgm218.1
def mm219 : Mem := setR mm218 162 2 163
theorem sgm219 : Sg mm219 100 := sg_R 162 2 163 sgm218 rfl rfl
theorem mc219 : mm219.2.2.2 = 100 := sgm219.1
def mm220 : Mem := setR mm219 144 0 162
theorem sgm220 : Sg mm220 100 := sg_R 144 0 162 sgm219 rfl rfl
theorem mc220 : mm220.2.2.2 = 100 := sgm220.1
def mm221 : Mem := cntM mm220
theorem sgm221 : Sg mm221 101 := sg_C sgm220 rfl rfl
theorem mc221 : mm221.2.2.2 = 101 := sgm221.1
def mm222 : Mem := cntM mm221
theorem sgm222 : Sg mm222 102 := sg_C sgm221 rfl rfl
theorem mc222 : mm222.2.2.2 = 102 := sgm222.1
def mm223 : Mem := setR mm222 164 2 165
theorem sgm223 : Sg mm223 102 := sg_R 164 2 165 sgm222 rfl rfl
theorem mc223 : mm223.2.2.2 = 102 := sgm223.1
def mm224 : Mem := setR mm223 144 1 164
theorem sgm224 : Sg mm224 102 := sg_R 144 1 164 sgm223 rfl rfl
theorem mc224 : mm224.2.2.2 = 102 := sgm224.1
def mm225 : Mem := cntM mm224
theorem sgm225 : Sg mm225 103 := sg_C sgm224 rfl rfl
theorem mc225 : mm225.2.2.2 = 103 := sgm225.1
def mm226 : Mem := cntM mm225
theorem sgm226 : Sg mm226 104 := sg_C sgm225 rfl rfl
theorem mc226 : mm226.2.2.2 = 104 := sgm226.1
def mm227 : Mem := setR mm226 166 2 167
theorem sgm227 : Sg mm227 104 := sg_R 166 2 167 sgm226 rfl rfl
theorem mc227 : mm227.2.2.2 = 104 := sgm227.1
def mm228 : Mem := setR mm227 144 2 166
theorem sgm228 : Sg mm228 104 := sg_R 144 2 166 sgm227 rfl rfl
theorem mc228 : mm228.2.2.2 = 104 := sgm228.1
def mm229 : Mem := cntM mm228
theorem sgm229 : Sg mm229 105 := sg_C sgm228 rfl rfl
theorem mc229 : mm229.2.2.2 = 105 := sgm229.1
def mm230 : Mem := cntM mm229
theorem sgm230 : Sg mm230 106 := sg_C sgm229 rfl rfl
theorem mc230 : mm230.2.2.2 = 106 := sgm230.1
def mm231 : Mem := setR mm230 168 6 169
theorem sgm231 : Sg mm231 106 := sg_R 168 6 169 sgm230 rfl rfl
theorem mc231 : mm231.2.2.2 = 106 := sgm231.1
def mm232 : Mem := cntM mm231
theorem sgm232 : Sg mm232 107 := sg_C sgm231 rfl rfl
theorem mc232 : mm232.2.2.2 = 107 := sgm232.1
def mm233 : Mem := setR mm232 168 7 170
theorem sgm233 : Sg mm233 107 := sg_R 168 7 170 sgm232 rfl rfl
theorem mc233 : mm233.2.2.2 = 107 := sgm233.1
def mm234 : Mem := cntM mm233
theorem sgm234 : Sg mm234 108 := sg_C sgm233 rfl rfl
theorem mc234 : mm234.2.2.2 = 108 := sgm234.1
def mm235 : Mem := setR mm234 168 8 171
theorem sgm235 : Sg mm235 108 := sg_R 168 8 171 sgm234 rfl rfl
theorem mc235 : mm235.2.2.2 = 108 := sgm235.1
def mm236 : Mem := cntM mm235
theorem sgm236 : Sg mm236 109 := sg_C sgm235 rfl rfl
theorem mc236 : mm236.2.2.2 = 109 := sgm236.1
def mm237 : Mem := setR mm236 168 9 172
theorem sgm237 : Sg mm237 109 := sg_R 168 9 172 sgm236 rfl rfl
theorem mc237 : mm237.2.2.2 = 109 := sgm237.1
def mm238 : Mem := setR mm237 145 0 168
theorem sgm238 : Sg mm238 109 := sg_R 145 0 168 sgm237 rfl rfl
theorem mc238 : mm238.2.2.2 = 109 := sgm238.1
def mm239 : Mem := cntM mm238
theorem sgm239 : Sg mm239 110 := sg_C sgm238 rfl rfl
theorem mc239 : mm239.2.2.2 = 110 := sgm239.1
def mm240 : Mem := cntM mm239
theorem sgm240 : Sg mm240 111 := sg_C sgm239 rfl rfl
theorem mc240 : mm240.2.2.2 = 111 := sgm240.1
def mm241 : Mem := setR mm240 173 6 174
theorem sgm241 : Sg mm241 111 := sg_R 173 6 174 sgm240 rfl rfl
theorem mc241 : mm241.2.2.2 = 111 := sgm241.1
def mm242 : Mem := cntM mm241
theorem sgm242 : Sg mm242 112 := sg_C sgm241 rfl rfl
theorem mc242 : mm242.2.2.2 = 112 := sgm242.1
def mm243 : Mem := setR mm242 173 7 175
theorem sgm243 : Sg mm243 112 := sg_R 173 7 175 sgm242 rfl rfl
theorem mc243 : mm243.2.2.2 = 112 := sgm243.1
def mm244 : Mem := cntM mm243
theorem sgm244 : Sg mm244 113 := sg_C sgm243 rfl rfl
theorem mc244 : mm244.2.2.2 = 113 := sgm244.1
def mm245 : Mem := setR mm244 173 8 176
theorem sgm245 : Sg mm245 113 := sg_R 173 8 176 sgm244 rfl rfl
theorem mc245 : mm245.2.2.2 = 113 := sgm245.1
def mm246 : Mem := cntM mm245
theorem sgm246 : Sg mm246 114 := sg_C sgm245 rfl rfl
theorem mc246 : mm246.2.2.2 = 114 := sgm246.1
def mm247 : Mem := setR mm246 173 9 177
theorem sgm247 : Sg mm247 114 := sg_R 173 9 177 sgm246 rfl rfl
theorem mc247 : mm247.2.2.2 = 114 := sgm247.1
def mm248 : Mem := setR mm247 145 1 173
theorem sgm248 : Sg mm248 114 := sg_R 145 1 173 sgm247 rfl rfl
theorem mc248 : mm248.2.2.2 = 114 := sgm248.1
def mm249 : Mem := cntM mm248
theorem sgm249 : Sg mm249 115 := sg_C sgm248 rfl rfl
theorem mc249 : mm249.2.2.2 = 115 := sgm249.1
def mm250 : Mem := cntM mm249
theorem sgm250 : Sg mm250 116 := sg_C sgm249 rfl rfl
theorem mc250 : mm250.2.2.2 = 116 := sgm250.1
def mm251 : Mem := setR mm250 178 6 179
theorem sgm251 : Sg mm251 116 := sg_R 178 6 179 sgm250 rfl rfl
theorem mc251 : mm251.2.2.2 = 116 := sgm251.1
def mm252 : Mem := cntM mm251
theorem sgm252 : Sg mm252 117 := sg_C sgm251 rfl rfl
theorem mc252 : mm252.2.2.2 = 117 := sgm252.1
def mm253 : Mem := setR mm252 178 7 180
theorem sgm253 : Sg mm253 117 := sg_R 178 7 180 sgm252 rfl rfl
theorem mc253 : mm253.2.2.2 = 117 := sgm253.1
def mm254 : Mem := cntM mm253
theorem sgm254 : Sg mm254 118 := sg_C sgm253 rfl rfl
theorem mc254 : mm254.2.2.2 = 118 := sgm254.1
def mm255 : Mem := setR mm254 178 8 181
theorem sgm255 : Sg mm255 118 := sg_R 178 8 181 sgm254 rfl rfl
theorem mc255 : mm255.2.2.2 = 118 := sgm255.1
def mm256 : Mem := cntM mm255
theorem sgm256 : Sg mm256 119 := sg_C sgm255 rfl rfl
theorem mc256 : mm256.2.2.2 = 119 := sgm256.1
def mm257 : Mem := setR mm256 178 9 182
theorem sgm257 : Sg mm257 119 := sg_R 178 9 182 sgm256 rfl rfl
theorem mc257 : mm257.2.2.2 = 119 := sgm257.1
def mm258 : Mem := setR mm257 145 2 178
theorem sgm258 : Sg mm258 119 := sg_R 145 2 178 sgm257 rfl rfl
theorem mc258 : mm258.2.2.2 = 119 := sgm258.1
def mm259 : Mem := cntM mm258
theorem sgm259 : Sg mm259 120 := sg_C sgm258 rfl rfl
theorem mc259 : mm259.2.2.2 = 120 := sgm259.1
def mm260 : Mem := cntM mm259
theorem sgm260 : Sg mm260 121 := sg_C sgm259 rfl rfl
theorem mc260 : mm260.2.2.2 = 121 := sgm260.1
def mm261 : Mem := setR mm260 183 6 184
theorem sgm261 : Sg mm261 121 := sg_R 183 6 184 sgm260 rfl rfl
theorem mc261 : mm261.2.2.2 = 121 := sgm261.1
def mm262 : Mem := cntM mm261
theorem sgm262 : Sg mm262 122 := sg_C sgm261 rfl rfl
theorem mc262 : mm262.2.2.2 = 122 := sgm262.1
def mm263 : Mem := setR mm262 183 7 185
theorem sgm263 : Sg mm263 122 := sg_R 183 7 185 sgm262 rfl rfl
theorem mc263 : mm263.2.2.2 = 122 := sgm263.1
def mm264 : Mem := cntM mm263
theorem sgm264 : Sg mm264 123 := sg_C sgm263 rfl rfl
theorem mc264 : mm264.2.2.2 = 123 := sgm264.1
def mm265 : Mem := setR mm264 183 8 186
theorem sgm265 : Sg mm265 123 := sg_R 183 8 186 sgm264 rfl rfl
theorem mc265 : mm265.2.2.2 = 123 := sgm265.1
def mm266 : Mem := cntM mm265
theorem sgm266 : Sg mm266 124 := sg_C sgm265 rfl rfl
theorem mc266 : mm266.2.2.2 = 124 := sgm266.1
def mm267 : Mem := setR mm266 183 9 187
theorem sgm267 : Sg mm267 124 := sg_R 183 9 187 sgm266 rfl rfl
theorem mc267 : mm267.2.2.2 = 124 := sgm267.1
def mm268 : Mem := setR mm267 145 3 183
theorem sgm268 : Sg mm268 124 := sg_R 145 3 183 sgm267 rfl rfl
theorem mc268 : mm268.2.2.2 = 124 := sgm268.1
def mm269 : Mem := cntM mm268
theorem sgm269 : Sg mm269 125 := sg_C sgm268 rfl rfl
theorem mc269 : mm269.2.2.2 = 125 := sgm269.1
def mm270 : Mem := cntM mm269
theorem sgm270 : Sg mm270 126 := sg_C sgm269 rfl rfl
theorem mc270 : mm270.2.2.2 = 126 := sgm270.1
def mm271 : Mem := setR mm270 188 6 189
theorem sgm271 : Sg mm271 126 := sg_R 188 6 189 sgm270 rfl rfl
theorem mc271 : mm271.2.2.2 = 126 := sgm271.1
def mm272 : Mem := cntM mm271
theorem sgm272 : Sg mm272 127 := sg_C sgm271 rfl rfl
theorem mc272 : mm272.2.2.2 = 127 := sgm272.1
def mm273 : Mem := setR mm272 188 7 190
theorem sgm273 : Sg mm273 127 := sg_R 188 7 190 sgm272 rfl rfl
theorem mc273 : mm273.2.2.2 = 127 := sgm273.1
def mm274 : Mem := cntM mm273
theorem sgm274 : Sg mm274 128 := sg_C sgm273 rfl rfl
theorem mc274 : mm274.2.2.2 = 128 := sgm274.1
def mm275 : Mem := setR mm274 188 8 191
theorem sgm275 : Sg mm275 128 := sg_R 188 8 191 sgm274 rfl rfl
theorem mc275 : mm275.2.2.2 = 128 := sgm275.1
def mm276 : Mem := cntM mm275
theorem sgm276 : Sg mm276 129 := sg_C sgm275 rfl rfl
theorem mc276 : mm276.2.2.2 = 129 := sgm276.1
def mm277 : Mem := setR mm276 188 9 192
theorem sgm277 : Sg mm277 129 := sg_R 188 9 192 sgm276 rfl rfl
theorem mc277 : mm277.2.2.2 = 129 := sgm277.1
def mm278 : Mem := setR mm277 145 4 188
theorem sgm278 : Sg mm278 129 := sg_R 145 4 188 sgm277 rfl rfl
theorem mc278 : mm278.2.2.2 = 129 := sgm278.1
def mm279 : Mem := cntM mm278
theorem sgm279 : Sg mm279 130 := sg_C sgm278 rfl rfl
theorem mc279 : mm279.2.2.2 = 130 := sgm279.1
def mm280 : Mem := cntM mm279
theorem sgm280 : Sg mm280 131 := sg_C sgm279 rfl rfl
theorem mc280 : mm280.2.2.2 = 131 := sgm280.1
def mm281 : Mem := setR mm280 193 6 194
theorem sgm281 : Sg mm281 131 := sg_R 193 6 194 sgm280 rfl rfl
theorem mc281 : mm281.2.2.2 = 131 := sgm281.1
def mm282 : Mem := cntM mm281
theorem sgm282 : Sg mm282 132 := sg_C sgm281 rfl rfl
theorem mc282 : mm282.2.2.2 = 132 := sgm282.1
def mm283 : Mem := setR mm282 193 7 195
theorem sgm283 : Sg mm283 132 := sg_R 193 7 195 sgm282 rfl rfl
theorem mc283 : mm283.2.2.2 = 132 := sgm283.1
def mm284 : Mem := cntM mm283
theorem sgm284 : Sg mm284 133 := sg_C sgm283 rfl rfl
theorem mc284 : mm284.2.2.2 = 133 := sgm284.1
def mm285 : Mem := setR mm284 193 8 196
theorem sgm285 : Sg mm285 133 := sg_R 193 8 196 sgm284 rfl rfl
theorem mc285 : mm285.2.2.2 = 133 := sgm285.1
def mm286 : Mem := cntM mm285
theorem sgm286 : Sg mm286 134 := sg_C sgm285 rfl rfl
theorem mc286 : mm286.2.2.2 = 134 := sgm286.1
def mm287 : Mem := setR mm286 193 9 197
theorem sgm287 : Sg mm287 134 := sg_R 193 9 197 sgm286 rfl rfl
theorem mc287 : mm287.2.2.2 = 134 := sgm287.1
def mm288 : Mem := setR mm287 145 5 193
theorem sgm288 : Sg mm288 134 := sg_R 145 5 193 sgm287 rfl rfl
theorem mc288 : mm288.2.2.2 = 134 := sgm288.1
def mm289 : Mem := cntM mm288
theorem sgm289 : Sg mm289 135 := sg_C sgm288 rfl rfl
theorem mc289 : mm289.2.2.2 = 135 := sgm289.1
def mm290 : Mem := cntM mm289
theorem sgm290 : Sg mm290 136 := sg_C sgm289 rfl rfl
theorem mc290 : mm290.2.2.2 = 136 := sgm290.1
def mm291 : Mem := setR mm290 198 6 199
theorem sgm291 : Sg mm291 136 := sg_R 198 6 199 sgm290 rfl rfl
theorem mc291 : mm291.2.2.2 = 136 := sgm291.1
def mm292 : Mem := cntM mm291
theorem sgm292 : Sg mm292 137 := sg_C sgm291 rfl rfl
theorem mc292 : mm292.2.2.2 = 137 := sgm292.1
def mm293 : Mem := setR mm292 198 7 200
theorem sgm293 : Sg mm293 137 := sg_R 198 7 200 sgm292 rfl rfl
theorem mc293 : mm293.2.2.2 = 137 := sgm293.1
def mm294 : Mem := cntM mm293
theorem sgm294 : Sg mm294 138 := sg_C sgm293 rfl rfl
theorem mc294 : mm294.2.2.2 = 138 := sgm294.1
def mm295 : Mem := setR mm294 198 8 201
theorem sgm295 : Sg mm295 138 := sg_R 198 8 201 sgm294 rfl rfl
theorem mc295 : mm295.2.2.2 = 138 := sgm295.1
def mm296 : Mem := cntM mm295
theorem sgm296 : Sg mm296 139 := sg_C sgm295 rfl rfl
theorem mc296 : mm296.2.2.2 = 139 := sgm296.1
def mm297 : Mem := setR mm296 198 9 202
theorem sgm297 : Sg mm297 139 := sg_R 198 9 202 sgm296 rfl rfl
theorem mc297 : mm297.2.2.2 = 139 := sgm297.1
def mm298 : Mem := setR mm297 145 6 198
theorem sgm298 : Sg mm298 139 := sg_R 145 6 198 sgm297 rfl rfl
theorem mc298 : mm298.2.2.2 = 139 := sgm298.1
def mm299 : Mem := cntM mm298
theorem sgm299 : Sg mm299 140 := sg_C sgm298 rfl rfl
theorem mc299 : mm299.2.2.2 = 140 := sgm299.1
def mm300 : Mem := cntM mm299
theorem sgm300 : Sg mm300 141 := sg_C sgm299 rfl rfl
theorem mc300 : mm300.2.2.2 = 141 := sgm300.1
def mm301 : Mem := setR mm300 203 6 204
theorem sgm301 : Sg mm301 141 := sg_R 203 6 204 sgm300 rfl rfl
theorem mc301 : mm301.2.2.2 = 141 := sgm301.1
def mm302 : Mem := cntM mm301
theorem sgm302 : Sg mm302 142 := sg_C sgm301 rfl rfl
theorem mc302 : mm302.2.2.2 = 142 := sgm302.1
def mm303 : Mem := setR mm302 203 7 205
theorem sgm303 : Sg mm303 142 := sg_R 203 7 205 sgm302 rfl rfl
theorem mc303 : mm303.2.2.2 = 142 := sgm303.1
def mm304 : Mem := cntM mm303
theorem sgm304 : Sg mm304 143 := sg_C sgm303 rfl rfl
theorem mc304 : mm304.2.2.2 = 143 := sgm304.1
def mm305 : Mem := setR mm304 203 8 206
theorem sgm305 : Sg mm305 143 := sg_R 203 8 206 sgm304 rfl rfl
theorem mc305 : mm305.2.2.2 = 143 := sgm305.1
def mm306 : Mem := cntM mm305
theorem sgm306 : Sg mm306 144 := sg_C sgm305 rfl rfl
theorem mc306 : mm306.2.2.2 = 144 := sgm306.1
def mm307 : Mem := setR mm306 203 9 207
theorem sgm307 : Sg mm307 144 := sg_R 203 9 207 sgm306 rfl rfl
theorem mc307 : mm307.2.2.2 = 144 := sgm307.1
def mm308 : Mem := setR mm307 145 7 203
theorem sgm308 : Sg mm308 144 := sg_R 145 7 203 sgm307 rfl rfl
theorem mc308 : mm308.2.2.2 = 144 := sgm308.1
def mm309 : Mem := setI mm308 137 0 0
theorem sgm309 : Sg mm309 144 := sg_I 137 0 0 sgm308 rfl rfl
theorem mc309 : mm309.2.2.2 = 144 := sgm309.1
def mm310 : Mem := setI mm309 137 3 0
theorem sgm310 : Sg mm310 144 := sg_I 137 3 0 sgm309 rfl rfl
theorem mc310 : mm310.2.2.2 = 144 := sgm310.1
def mm311 : Mem := flM mm310 141 100 268435456
theorem sgm311 : Sg mm311 144 := sg_F 141 100 268435456 sgm310 rfl rfl
theorem mc311 : mm311.2.2.2 = 144 := sgm311.1
def mm312 : Mem := setI mm311 141 0 0
theorem sgm312 : Sg mm312 144 := sg_I 141 0 0 sgm311 rfl rfl
theorem mc312 : mm312.2.2.2 = 144 := sgm312.1
def mm313 : Mem := setI mm312 141 11 0
theorem sgm313 : Sg mm313 144 := sg_I 141 11 0 sgm312 rfl rfl
theorem mc313 : mm313.2.2.2 = 144 := sgm313.1
def mm314 : Mem := setI mm313 141 22 0
theorem sgm314 : Sg mm314 144 := sg_I 141 22 0 sgm313 rfl rfl
theorem mc314 : mm314.2.2.2 = 144 := sgm314.1
def mm315 : Mem := setI mm314 141 33 0
theorem sgm315 : Sg mm315 144 := sg_I 141 33 0 sgm314 rfl rfl
theorem mc315 : mm315.2.2.2 = 144 := sgm315.1
def mm316 : Mem := setI mm315 141 44 0
theorem sgm316 : Sg mm316 144 := sg_I 141 44 0 sgm315 rfl rfl
theorem mc316 : mm316.2.2.2 = 144 := sgm316.1
def mm317 : Mem := setI mm316 141 55 0
theorem sgm317 : Sg mm317 144 := sg_I 141 55 0 sgm316 rfl rfl
theorem mc317 : mm317.2.2.2 = 144 := sgm317.1
def mm318 : Mem := setI mm317 141 66 0
theorem sgm318 : Sg mm318 144 := sg_I 141 66 0 sgm317 rfl rfl
theorem mc318 : mm318.2.2.2 = 144 := sgm318.1
def mm319 : Mem := setI mm318 141 77 0
theorem sgm319 : Sg mm319 144 := sg_I 141 77 0 sgm318 rfl rfl
theorem mc319 : mm319.2.2.2 = 144 := sgm319.1
def mm320 : Mem := setI mm319 141 88 0
theorem sgm320 : Sg mm320 144 := sg_I 141 88 0 sgm319 rfl rfl
theorem mc320 : mm320.2.2.2 = 144 := sgm320.1
def mm321 : Mem := setI mm320 141 99 0
theorem sgm321 : Sg mm321 144 := sg_I 141 99 0 sgm320 rfl rfl
theorem mc321 : mm321.2.2.2 = 144 := sgm321.1
def mm322 : Mem := setI mm321 140 1 0
theorem sgm322 : Sg mm322 144 := sg_I 140 1 0 sgm321 rfl rfl
theorem mc322 : mm322.2.2.2 = 144 := sgm322.1
def mm323 : Mem := setI mm322 137 5 0
theorem sgm323 : Sg mm323 144 := sg_I 137 5 0 sgm322 rfl rfl
theorem mc323 : mm323.2.2.2 = 144 := sgm323.1
def mm324 : Mem := setI mm323 137 7 0
theorem sgm324 : Sg mm324 144 := sg_I 137 7 0 sgm323 rfl rfl
theorem mc324 : mm324.2.2.2 = 144 := sgm324.1
def mm325 : Mem := setI mm324 137 9 0
theorem sgm325 : Sg mm325 144 := sg_I 137 9 0 sgm324 rfl rfl
theorem mc325 : mm325.2.2.2 = 144 := sgm325.1
def mm326 : Mem := setI mm325 137 11 0
theorem sgm326 : Sg mm326 144 := sg_I 137 11 0 sgm325 rfl rfl
theorem mc326 : mm326.2.2.2 = 144 := sgm326.1
def mm327 : Mem := setI mm326 146 0 60
theorem sgm327 : Sg mm327 144 := sg_I 146 0 60 sgm326 rfl rfl
theorem mc327 : mm327.2.2.2 = 144 := sgm327.1
def mm328 : Mem := setI mm327 146 1 0
theorem sgm328 : Sg mm328 144 := sg_I 146 1 0 sgm327 rfl rfl
theorem mc328 : mm328.2.2.2 = 144 := sgm328.1
def mm329 : Mem := setI mm328 146 2 1000
theorem sgm329 : Sg mm329 144 := sg_I 146 2 1000 sgm328 rfl rfl
theorem mc329 : mm329.2.2.2 = 144 := sgm329.1
def mm330 : Mem := setI mm329 146 3 1
theorem sgm330 : Sg mm330 144 := sg_I 146 3 1 sgm329 rfl rfl
theorem mc330 : mm330.2.2.2 = 144 := sgm330.1
def mm331 : Mem := setR mm330 64 3 137
theorem sgm331 : Sg mm331 144 := sg_R 64 3 137 sgm330 rfl rfl
theorem mc331 : mm331.2.2.2 = 144 := sgm331.1
def mm332 : Mem := cntM mm331
theorem sgm332 : Sg mm332 145 := sg_C sgm331 rfl rfl
theorem mc332 : mm332.2.2.2 = 145 := sgm332.1
def mm333 : Mem := setR mm332 208 4 1
theorem sgm333 : Sg mm333 145 := sg_R 208 4 1 sgm332 rfl rfl
theorem mc333 : mm333.2.2.2 = 145 := sgm333.1
def mm334 : Mem := cntM mm333
theorem sgm334 : Sg mm334 146 := sg_C sgm333 rfl rfl
theorem mc334 : mm334.2.2.2 = 146 := sgm334.1
def mm335 : Mem := setR mm334 208 10 209
theorem sgm335 : Sg mm335 146 := sg_R 208 10 209 sgm334 rfl rfl
theorem mc335 : mm335.2.2.2 = 146 := sgm335.1
def mm336 : Mem := cntM mm335
theorem sgm336 : Sg mm336 147 := sg_C sgm335 rfl rfl
theorem mc336 : mm336.2.2.2 = 147 := sgm336.1
def mm337 : Mem := setR mm336 208 11 210
theorem sgm337 : Sg mm337 147 := sg_R 208 11 210 sgm336 rfl rfl
theorem mc337 : mm337.2.2.2 = 147 := sgm337.1
def mm338 : Mem := cntM mm337
theorem sgm338 : Sg mm338 148 := sg_C sgm337 rfl rfl
theorem mc338 : mm338.2.2.2 = 148 := sgm338.1
def mm339 : Mem := setR mm338 208 12 211
theorem sgm339 : Sg mm339 148 := sg_R 208 12 211 sgm338 rfl rfl
theorem mc339 : mm339.2.2.2 = 148 := sgm339.1
def mm340 : Mem := setR mm339 208 0 65
theorem sgm340 : Sg mm340 148 := sg_R 208 0 65 sgm339 rfl rfl
theorem mc340 : mm340.2.2.2 = 148 := sgm340.1
def mm341 : Mem := setR mm340 208 1 137
theorem sgm341 : Sg mm341 148 := sg_R 208 1 137 sgm340 rfl rfl
theorem mc341 : mm341.2.2.2 = 148 := sgm341.1
def mm342 : Mem := setR mm341 64 4 208
theorem sgm342 : Sg mm342 148 := sg_R 64 4 208 sgm341 rfl rfl
theorem mc342 : mm342.2.2.2 = 148 := sgm342.1
def mm343 : Mem := cntM mm342
theorem sgm343 : Sg mm343 149 := sg_C sgm342 rfl rfl
theorem mc343 : mm343.2.2.2 = 149 := sgm343.1
def mm344 : Mem := cntM mm343
theorem sgm344 : Sg mm344 150 := sg_C sgm343 rfl rfl
theorem mc344 : mm344.2.2.2 = 150 := sgm344.1
def mm345 : Mem := cntM mm344
theorem sgm345 : Sg mm345 151 := sg_C sgm344 rfl rfl
theorem mc345 : mm345.2.2.2 = 151 := sgm345.1
def mm346 : Mem := setR mm345 213 0 214
theorem sgm346 : Sg mm346 151 := sg_R 213 0 214 sgm345 rfl rfl
theorem mc346 : mm346.2.2.2 = 151 := sgm346.1
def mm347 : Mem := setR mm346 212 0 213
theorem sgm347 : Sg mm347 151 := sg_R 212 0 213 sgm346 rfl rfl
theorem mc347 : mm347.2.2.2 = 151 := sgm347.1
def mm348 : Mem := cntM mm347
theorem sgm348 : Sg mm348 152 := sg_C sgm347 rfl rfl
theorem mc348 : mm348.2.2.2 = 152 := sgm348.1
def mm349 : Mem := cntM mm348
theorem sgm349 : Sg mm349 153 := sg_C sgm348 rfl rfl
theorem mc349 : mm349.2.2.2 = 153 := sgm349.1
def mm350 : Mem := setR mm349 215 0 216
theorem sgm350 : Sg mm350 153 := sg_R 215 0 216 sgm349 rfl rfl
theorem mc350 : mm350.2.2.2 = 153 := sgm350.1
def mm351 : Mem := setR mm350 212 1 215
theorem sgm351 : Sg mm351 153 := sg_R 212 1 215 sgm350 rfl rfl
theorem mc351 : mm351.2.2.2 = 153 := sgm351.1
def mm352 : Mem := setR mm351 64 5 212
theorem sgm352 : Sg mm352 153 := sg_R 64 5 212 sgm351 rfl rfl
theorem mc352 : mm352.2.2.2 = 153 := sgm352.1
def mm353 : Mem := cntM mm352
theorem sgm353 : Sg mm353 154 := sg_C sgm352 rfl rfl
theorem mc353 : mm353.2.2.2 = 154 := sgm353.1
def mm354 : Mem := cntM mm353
theorem sgm354 : Sg mm354 155 := sg_C sgm353 rfl rfl
theorem mc354 : mm354.2.2.2 = 155 := sgm354.1
def mm355 : Mem := setR mm354 217 4 218
theorem sgm355 : Sg mm355 155 := sg_R 217 4 218 sgm354 rfl rfl
theorem mc355 : mm355.2.2.2 = 155 := sgm355.1
def mm356 : Mem := cntM mm355
theorem sgm356 : Sg mm356 156 := sg_C sgm355 rfl rfl
theorem mc356 : mm356.2.2.2 = 156 := sgm356.1
def mm357 : Mem := setR mm356 217 5 219
theorem sgm357 : Sg mm357 156 := sg_R 217 5 219 sgm356 rfl rfl
theorem mc357 : mm357.2.2.2 = 156 := sgm357.1
def mm358 : Mem := cntM mm357
theorem sgm358 : Sg mm358 157 := sg_C sgm357 rfl rfl
theorem mc358 : mm358.2.2.2 = 157 := sgm358.1
def mm359 : Mem := setR mm358 217 6 220
theorem sgm359 : Sg mm359 157 := sg_R 217 6 220 sgm358 rfl rfl
theorem mc359 : mm359.2.2.2 = 157 := sgm359.1
def mm360 : Mem := cntM mm359
theorem sgm360 : Sg mm360 158 := sg_C sgm359 rfl rfl
theorem mc360 : mm360.2.2.2 = 158 := sgm360.1
def mm361 : Mem := setR mm360 217 7 221
theorem sgm361 : Sg mm361 158 := sg_R 217 7 221 sgm360 rfl rfl
theorem mc361 : mm361.2.2.2 = 158 := sgm361.1
def mm362 : Mem := cntM mm361
theorem sgm362 : Sg mm362 159 := sg_C sgm361 rfl rfl
theorem mc362 : mm362.2.2.2 = 159 := sgm362.1
def mm363 : Mem := setR mm362 217 8 222
theorem sgm363 : Sg mm363 159 := sg_R 217 8 222 sgm362 rfl rfl
theorem mc363 : mm363.2.2.2 = 159 := sgm363.1
def mm364 : Mem := setR mm363 64 6 217
theorem sgm364 : Sg mm364 159 := sg_R 64 6 217 sgm363 rfl rfl
theorem mc364 : mm364.2.2.2 = 159 := sgm364.1
def mm365 : Mem := cntM mm364
theorem sgm365 : Sg mm365 160 := sg_C sgm364 rfl rfl
theorem mc365 : mm365.2.2.2 = 160 := sgm365.1
def mm366 : Mem := setR mm365 64 7 223
theorem sgm366 : Sg mm366 160 := sg_R 64 7 223 sgm365 rfl rfl
theorem mc366 : mm366.2.2.2 = 160 := sgm366.1
def mm367 : Mem := cntM mm366
theorem sgm367 : Sg mm367 161 := sg_C sgm366 rfl rfl
theorem mc367 : mm367.2.2.2 = 161 := sgm367.1
def mm368 : Mem := setR mm367 64 10 224
theorem sgm368 : Sg mm368 161 := sg_R 64 10 224 sgm367 rfl rfl
theorem mc368 : mm368.2.2.2 = 161 := sgm368.1
def mm369 : Mem := cntM mm368
theorem sgm369 : Sg mm369 162 := sg_C sgm368 rfl rfl
theorem mc369 : mm369.2.2.2 = 162 := sgm369.1
def mm370 : Mem := setR mm369 64 11 225
theorem sgm370 : Sg mm370 162 := sg_R 64 11 225 sgm369 rfl rfl
theorem mc370 : mm370.2.2.2 = 162 := sgm370.1
def mm371 : Mem := cntM mm370
theorem sgm371 : Sg mm371 163 := sg_C sgm370 rfl rfl
theorem mc371 : mm371.2.2.2 = 163 := sgm371.1
def mm372 : Mem := setR mm371 64 12 226
theorem sgm372 : Sg mm372 163 := sg_R 64 12 226 sgm371 rfl rfl
theorem mc372 : mm372.2.2.2 = 163 := sgm372.1
def mm373 : Mem := cntM mm372
theorem sgm373 : Sg mm373 164 := sg_C sgm372 rfl rfl
theorem mc373 : mm373.2.2.2 = 164 := sgm373.1
def mm374 : Mem := cntM mm373
theorem sgm374 : Sg mm374 165 := sg_C sgm373 rfl rfl
theorem mc374 : mm374.2.2.2 = 165 := sgm374.1
def mm375 : Mem := setR mm374 227 4 228
theorem sgm375 : Sg mm375 165 := sg_R 227 4 228 sgm374 rfl rfl
theorem mc375 : mm375.2.2.2 = 165 := sgm375.1
def mm376 : Mem := cntM mm375
theorem sgm376 : Sg mm376 166 := sg_C sgm375 rfl rfl
theorem mc376 : mm376.2.2.2 = 166 := sgm376.1
def mm377 : Mem := setR mm376 227 5 229
theorem sgm377 : Sg mm377 166 := sg_R 227 5 229 sgm376 rfl rfl
theorem mc377 : mm377.2.2.2 = 166 := sgm377.1
def mm378 : Mem := cntM mm377
theorem sgm378 : Sg mm378 167 := sg_C sgm377 rfl rfl
theorem mc378 : mm378.2.2.2 = 167 := sgm378.1
def mm379 : Mem := setR mm378 227 6 230
theorem sgm379 : Sg mm379 167 := sg_R 227 6 230 sgm378 rfl rfl
theorem mc379 : mm379.2.2.2 = 167 := sgm379.1
def mm380 : Mem := cntM mm379
theorem sgm380 : Sg mm380 168 := sg_C sgm379 rfl rfl
theorem mc380 : mm380.2.2.2 = 168 := sgm380.1
def mm381 : Mem := setR mm380 227 7 231
theorem sgm381 : Sg mm381 168 := sg_R 227 7 231 sgm380 rfl rfl
theorem mc381 : mm381.2.2.2 = 168 := sgm381.1
def mm382 : Mem := cntM mm381
theorem sgm382 : Sg mm382 169 := sg_C sgm381 rfl rfl
theorem mc382 : mm382.2.2.2 = 169 := sgm382.1
def mm383 : Mem := setR mm382 227 8 232
theorem sgm383 : Sg mm383 169 := sg_R 227 8 232 sgm382 rfl rfl
theorem mc383 : mm383.2.2.2 = 169 := sgm383.1
def mm384 : Mem := setR mm383 223 0 227
theorem sgm384 : Sg mm384 169 := sg_R 223 0 227 sgm383 rfl rfl
theorem mc384 : mm384.2.2.2 = 169 := sgm384.1
def mm385 : Mem := cntM mm384
theorem sgm385 : Sg mm385 170 := sg_C sgm384 rfl rfl
theorem mc385 : mm385.2.2.2 = 170 := sgm385.1
def mm386 : Mem := cntM mm385
theorem sgm386 : Sg mm386 171 := sg_C sgm385 rfl rfl
theorem mc386 : mm386.2.2.2 = 171 := sgm386.1
def mm387 : Mem := setR mm386 233 4 234
theorem sgm387 : Sg mm387 171 := sg_R 233 4 234 sgm386 rfl rfl
theorem mc387 : mm387.2.2.2 = 171 := sgm387.1
def mm388 : Mem := cntM mm387
theorem sgm388 : Sg mm388 172 := sg_C sgm387 rfl rfl
theorem mc388 : mm388.2.2.2 = 172 := sgm388.1
def mm389 : Mem := setR mm388 233 5 235
theorem sgm389 : Sg mm389 172 := sg_R 233 5 235 sgm388 rfl rfl
theorem mc389 : mm389.2.2.2 = 172 := sgm389.1
def mm390 : Mem := cntM mm389
theorem sgm390 : Sg mm390 173 := sg_C sgm389 rfl rfl
theorem mc390 : mm390.2.2.2 = 173 := sgm390.1
def mm391 : Mem := setR mm390 233 6 236
theorem sgm391 : Sg mm391 173 := sg_R 233 6 236 sgm390 rfl rfl
theorem mc391 : mm391.2.2.2 = 173 := sgm391.1
def mm392 : Mem := cntM mm391
theorem sgm392 : Sg mm392 174 := sg_C sgm391 rfl rfl
theorem mc392 : mm392.2.2.2 = 174 := sgm392.1
def mm393 : Mem := setR mm392 233 7 237
theorem sgm393 : Sg mm393 174 := sg_R 233 7 237 sgm392 rfl rfl
theorem mc393 : mm393.2.2.2 = 174 := sgm393.1
def mm394 : Mem := cntM mm393
theorem sgm394 : Sg mm394 175 := sg_C sgm393 rfl rfl
theorem mc394 : mm394.2.2.2 = 175 := sgm394.1
def mm395 : Mem := setR mm394 233 8 238
theorem sgm395 : Sg mm395 175 := sg_R 233 8 238 sgm394 rfl rfl
theorem mc395 : mm395.2.2.2 = 175 := sgm395.1
def mm396 : Mem := setR mm395 223 1 233
theorem sgm396 : Sg mm396 175 := sg_R 223 1 233 sgm395 rfl rfl
theorem mc396 : mm396.2.2.2 = 175 := sgm396.1
def mm397 : Mem := cntM mm396
theorem sgm397 : Sg mm397 176 := sg_C sgm396 rfl rfl
theorem mc397 : mm397.2.2.2 = 176 := sgm397.1
def mm398 : Mem := cntM mm397
theorem sgm398 : Sg mm398 177 := sg_C sgm397 rfl rfl
theorem mc398 : mm398.2.2.2 = 177 := sgm398.1
def mm399 : Mem := setR mm398 239 4 240
theorem sgm399 : Sg mm399 177 := sg_R 239 4 240 sgm398 rfl rfl
theorem mc399 : mm399.2.2.2 = 177 := sgm399.1
def mm400 : Mem := cntM mm399
theorem sgm400 : Sg mm400 178 := sg_C sgm399 rfl rfl
theorem mc400 : mm400.2.2.2 = 178 := sgm400.1
def mm401 : Mem := setR mm400 239 5 241
theorem sgm401 : Sg mm401 178 := sg_R 239 5 241 sgm400 rfl rfl
theorem mc401 : mm401.2.2.2 = 178 := sgm401.1
def mm402 : Mem := cntM mm401
theorem sgm402 : Sg mm402 179 := sg_C sgm401 rfl rfl
theorem mc402 : mm402.2.2.2 = 179 := sgm402.1
def mm403 : Mem := setR mm402 239 6 242
theorem sgm403 : Sg mm403 179 := sg_R 239 6 242 sgm402 rfl rfl
theorem mc403 : mm403.2.2.2 = 179 := sgm403.1
def mm404 : Mem := cntM mm403
theorem sgm404 : Sg mm404 180 := sg_C sgm403 rfl rfl
theorem mc404 : mm404.2.2.2 = 180 := sgm404.1
def mm405 : Mem := setR mm404 239 7 243
theorem sgm405 : Sg mm405 180 := sg_R 239 7 243 sgm404 rfl rfl
theorem mc405 : mm405.2.2.2 = 180 := sgm405.1
def mm406 : Mem := cntM mm405
theorem sgm406 : Sg mm406 181 := sg_C sgm405 rfl rfl
theorem mc406 : mm406.2.2.2 = 181 := sgm406.1
def mm407 : Mem := setR mm406 239 8 244
theorem sgm407 : Sg mm407 181 := sg_R 239 8 244 sgm406 rfl rfl
theorem mc407 : mm407.2.2.2 = 181 := sgm407.1
def mm408 : Mem := setR mm407 223 2 239
theorem sgm408 : Sg mm408 181 := sg_R 223 2 239 sgm407 rfl rfl
theorem mc408 : mm408.2.2.2 = 181 := sgm408.1
def mm409 : Mem := cntM mm408
theorem sgm409 : Sg mm409 182 := sg_C sgm408 rfl rfl
theorem mc409 : mm409.2.2.2 = 182 := sgm409.1
def mm410 : Mem := cntM mm409
theorem sgm410 : Sg mm410 183 := sg_C sgm409 rfl rfl
theorem mc410 : mm410.2.2.2 = 183 := sgm410.1
def mm411 : Mem := setR mm410 245 4 246
theorem sgm411 : Sg mm411 183 := sg_R 245 4 246 sgm410 rfl rfl
theorem mc411 : mm411.2.2.2 = 183 := sgm411.1
def mm412 : Mem := cntM mm411
theorem sgm412 : Sg mm412 184 := sg_C sgm411 rfl rfl
theorem mc412 : mm412.2.2.2 = 184 := sgm412.1
def mm413 : Mem := setR mm412 245 5 247
theorem sgm413 : Sg mm413 184 := sg_R 245 5 247 sgm412 rfl rfl
theorem mc413 : mm413.2.2.2 = 184 := sgm413.1
def mm414 : Mem := cntM mm413
theorem sgm414 : Sg mm414 185 := sg_C sgm413 rfl rfl
theorem mc414 : mm414.2.2.2 = 185 := sgm414.1
def mm415 : Mem := setR mm414 245 6 248
theorem sgm415 : Sg mm415 185 := sg_R 245 6 248 sgm414 rfl rfl
theorem mc415 : mm415.2.2.2 = 185 := sgm415.1
def mm416 : Mem := cntM mm415
theorem sgm416 : Sg mm416 186 := sg_C sgm415 rfl rfl
theorem mc416 : mm416.2.2.2 = 186 := sgm416.1
def mm417 : Mem := setR mm416 245 7 249
theorem sgm417 : Sg mm417 186 := sg_R 245 7 249 sgm416 rfl rfl
theorem mc417 : mm417.2.2.2 = 186 := sgm417.1
def mm418 : Mem := cntM mm417
theorem sgm418 : Sg mm418 187 := sg_C sgm417 rfl rfl
theorem mc418 : mm418.2.2.2 = 187 := sgm418.1
def mm419 : Mem := setR mm418 245 8 250
theorem sgm419 : Sg mm419 187 := sg_R 245 8 250 sgm418 rfl rfl
theorem mc419 : mm419.2.2.2 = 187 := sgm419.1
def mm420 : Mem := setR mm419 223 3 245
theorem sgm420 : Sg mm420 187 := sg_R 223 3 245 sgm419 rfl rfl
theorem mc420 : mm420.2.2.2 = 187 := sgm420.1
def mm421 : Mem := cntM mm420
theorem sgm421 : Sg mm421 188 := sg_C sgm420 rfl rfl
theorem mc421 : mm421.2.2.2 = 188 := sgm421.1
def mm422 : Mem := cntM mm421
theorem sgm422 : Sg mm422 189 := sg_C sgm421 rfl rfl
theorem mc422 : mm422.2.2.2 = 189 := sgm422.1
def mm423 : Mem := setR mm422 251 4 252
theorem sgm423 : Sg mm423 189 := sg_R 251 4 252 sgm422 rfl rfl
theorem mc423 : mm423.2.2.2 = 189 := sgm423.1
def mm424 : Mem := cntM mm423
theorem sgm424 : Sg mm424 190 := sg_C sgm423 rfl rfl
theorem mc424 : mm424.2.2.2 = 190 := sgm424.1
def mm425 : Mem := setR mm424 251 5 253
theorem sgm425 : Sg mm425 190 := sg_R 251 5 253 sgm424 rfl rfl
theorem mc425 : mm425.2.2.2 = 190 := sgm425.1
def mm426 : Mem := cntM mm425
theorem sgm426 : Sg mm426 191 := sg_C sgm425 rfl rfl
theorem mc426 : mm426.2.2.2 = 191 := sgm426.1
def mm427 : Mem := setR mm426 251 6 254
theorem sgm427 : Sg mm427 191 := sg_R 251 6 254 sgm426 rfl rfl
theorem mc427 : mm427.2.2.2 = 191 := sgm427.1
def mm428 : Mem := cntM mm427
theorem sgm428 : Sg mm428 192 := sg_C sgm427 rfl rfl
theorem mc428 : mm428.2.2.2 = 192 := sgm428.1
def mm429 : Mem := setR mm428 251 7 255
theorem sgm429 : Sg mm429 192 := sg_R 251 7 255 sgm428 rfl rfl
theorem mc429 : mm429.2.2.2 = 192 := sgm429.1
def mm430 : Mem := cntM mm429
theorem sgm430 : Sg mm430 193 := sg_C sgm429 rfl rfl
theorem mc430 : mm430.2.2.2 = 193 := sgm430.1
def mm431 : Mem := setR mm430 251 8 256
theorem sgm431 : Sg mm431 193 := sg_R 251 8 256 sgm430 rfl rfl
theorem mc431 : mm431.2.2.2 = 193 := sgm431.1
def mm432 : Mem := setR mm431 223 4 251
theorem sgm432 : Sg mm432 193 := sg_R 223 4 251 sgm431 rfl rfl
theorem mc432 : mm432.2.2.2 = 193 := sgm432.1
def mm433 : Mem := cntM mm432
theorem sgm433 : Sg mm433 194 := sg_C sgm432 rfl rfl
theorem mc433 : mm433.2.2.2 = 194 := sgm433.1
def mm434 : Mem := cntM mm433
theorem sgm434 : Sg mm434 195 := sg_C sgm433 rfl rfl
theorem mc434 : mm434.2.2.2 = 195 := sgm434.1
def mm435 : Mem := setR mm434 257 4 258
theorem sgm435 : Sg mm435 195 := sg_R 257 4 258 sgm434 rfl rfl
theorem mc435 : mm435.2.2.2 = 195 := sgm435.1
def mm436 : Mem := cntM mm435
theorem sgm436 : Sg mm436 196 := sg_C sgm435 rfl rfl
theorem mc436 : mm436.2.2.2 = 196 := sgm436.1
def mm437 : Mem := setR mm436 257 5 259
theorem sgm437 : Sg mm437 196 := sg_R 257 5 259 sgm436 rfl rfl
theorem mc437 : mm437.2.2.2 = 196 := sgm437.1
def mm438 : Mem := cntM mm437
theorem sgm438 : Sg mm438 197 := sg_C sgm437 rfl rfl
theorem mc438 : mm438.2.2.2 = 197 := sgm438.1
def mm439 : Mem := setR mm438 257 6 260
theorem sgm439 : Sg mm439 197 := sg_R 257 6 260 sgm438 rfl rfl
theorem mc439 : mm439.2.2.2 = 197 := sgm439.1
def mm440 : Mem := cntM mm439
theorem sgm440 : Sg mm440 198 := sg_C sgm439 rfl rfl
theorem mc440 : mm440.2.2.2 = 198 := sgm440.1
def mm441 : Mem := setR mm440 257 7 261
theorem sgm441 : Sg mm441 198 := sg_R 257 7 261 sgm440 rfl rfl
theorem mc441 : mm441.2.2.2 = 198 := sgm441.1
def mm442 : Mem := cntM mm441
theorem sgm442 : Sg mm442 199 := sg_C sgm441 rfl rfl
theorem mc442 : mm442.2.2.2 = 199 := sgm442.1
def mm443 : Mem := setR mm442 257 8 262
theorem sgm443 : Sg mm443 199 := sg_R 257 8 262 sgm442 rfl rfl
theorem mc443 : mm443.2.2.2 = 199 := sgm443.1
def mm444 : Mem := setR mm443 223 5 257
theorem sgm444 : Sg mm444 199 := sg_R 223 5 257 sgm443 rfl rfl
theorem mc444 : mm444.2.2.2 = 199 := sgm444.1
def mm445 : Mem := cntM mm444
theorem sgm445 : Sg mm445 200 := sg_C sgm444 rfl rfl
theorem mc445 : mm445.2.2.2 = 200 := sgm445.1
def mm446 : Mem := cntM mm445
theorem sgm446 : Sg mm446 201 := sg_C sgm445 rfl rfl
theorem mc446 : mm446.2.2.2 = 201 := sgm446.1
def mm447 : Mem := setR mm446 263 4 264
theorem sgm447 : Sg mm447 201 := sg_R 263 4 264 sgm446 rfl rfl
theorem mc447 : mm447.2.2.2 = 201 := sgm447.1
def mm448 : Mem := cntM mm447
theorem sgm448 : Sg mm448 202 := sg_C sgm447 rfl rfl
theorem mc448 : mm448.2.2.2 = 202 := sgm448.1
def mm449 : Mem := setR mm448 263 5 265
theorem sgm449 : Sg mm449 202 := sg_R 263 5 265 sgm448 rfl rfl
theorem mc449 : mm449.2.2.2 = 202 := sgm449.1
def mm450 : Mem := cntM mm449
theorem sgm450 : Sg mm450 203 := sg_C sgm449 rfl rfl
theorem mc450 : mm450.2.2.2 = 203 := sgm450.1
def mm451 : Mem := setR mm450 263 6 266
theorem sgm451 : Sg mm451 203 := sg_R 263 6 266 sgm450 rfl rfl
theorem mc451 : mm451.2.2.2 = 203 := sgm451.1
def mm452 : Mem := cntM mm451
theorem sgm452 : Sg mm452 204 := sg_C sgm451 rfl rfl
theorem mc452 : mm452.2.2.2 = 204 := sgm452.1
def mm453 : Mem := setR mm452 263 7 267
theorem sgm453 : Sg mm453 204 := sg_R 263 7 267 sgm452 rfl rfl
theorem mc453 : mm453.2.2.2 = 204 := sgm453.1
def mm454 : Mem := cntM mm453
theorem sgm454 : Sg mm454 205 := sg_C sgm453 rfl rfl
theorem mc454 : mm454.2.2.2 = 205 := sgm454.1
def mm455 : Mem := setR mm454 263 8 268
theorem sgm455 : Sg mm455 205 := sg_R 263 8 268 sgm454 rfl rfl
theorem mc455 : mm455.2.2.2 = 205 := sgm455.1
def mm456 : Mem := setR mm455 223 6 263
theorem sgm456 : Sg mm456 205 := sg_R 223 6 263 sgm455 rfl rfl
theorem mc456 : mm456.2.2.2 = 205 := sgm456.1
def mm457 : Mem := cntM mm456
theorem sgm457 : Sg mm457 206 := sg_C sgm456 rfl rfl
theorem mc457 : mm457.2.2.2 = 206 := sgm457.1
def mm458 : Mem := cntM mm457
theorem sgm458 : Sg mm458 207 := sg_C sgm457 rfl rfl
theorem mc458 : mm458.2.2.2 = 207 := sgm458.1
def mm459 : Mem := setR mm458 269 4 270
theorem sgm459 : Sg mm459 207 := sg_R 269 4 270 sgm458 rfl rfl
theorem mc459 : mm459.2.2.2 = 207 := sgm459.1
def mm460 : Mem := cntM mm459
theorem sgm460 : Sg mm460 208 := sg_C sgm459 rfl rfl
theorem mc460 : mm460.2.2.2 = 208 := sgm460.1
def mm461 : Mem := setR mm460 269 5 271
theorem sgm461 : Sg mm461 208 := sg_R 269 5 271 sgm460 rfl rfl
theorem mc461 : mm461.2.2.2 = 208 := sgm461.1
def mm462 : Mem := cntM mm461
theorem sgm462 : Sg mm462 209 := sg_C sgm461 rfl rfl
theorem mc462 : mm462.2.2.2 = 209 := sgm462.1
def mm463 : Mem := setR mm462 269 6 272
theorem sgm463 : Sg mm463 209 := sg_R 269 6 272 sgm462 rfl rfl
theorem mc463 : mm463.2.2.2 = 209 := sgm463.1
def mm464 : Mem := cntM mm463
theorem sgm464 : Sg mm464 210 := sg_C sgm463 rfl rfl
theorem mc464 : mm464.2.2.2 = 210 := sgm464.1
def mm465 : Mem := setR mm464 269 7 273
theorem sgm465 : Sg mm465 210 := sg_R 269 7 273 sgm464 rfl rfl
theorem mc465 : mm465.2.2.2 = 210 := sgm465.1
def mm466 : Mem := cntM mm465
theorem sgm466 : Sg mm466 211 := sg_C sgm465 rfl rfl
theorem mc466 : mm466.2.2.2 = 211 := sgm466.1
def mm467 : Mem := setR mm466 269 8 274
theorem sgm467 : Sg mm467 211 := sg_R 269 8 274 sgm466 rfl rfl
theorem mc467 : mm467.2.2.2 = 211 := sgm467.1
def mm468 : Mem := setR mm467 223 7 269
theorem sgm468 : Sg mm468 211 := sg_R 223 7 269 sgm467 rfl rfl
theorem mc468 : mm468.2.2.2 = 211 := sgm468.1
def mm469 : Mem := cntM mm468
theorem sgm469 : Sg mm469 212 := sg_C sgm468 rfl rfl
theorem mc469 : mm469.2.2.2 = 212 := sgm469.1
def mm470 : Mem := cntM mm469
theorem sgm470 : Sg mm470 213 := sg_C sgm469 rfl rfl
theorem mc470 : mm470.2.2.2 = 213 := sgm470.1
def mm471 : Mem := setR mm470 275 4 276
theorem sgm471 : Sg mm471 213 := sg_R 275 4 276 sgm470 rfl rfl
theorem mc471 : mm471.2.2.2 = 213 := sgm471.1
def mm472 : Mem := cntM mm471
theorem sgm472 : Sg mm472 214 := sg_C sgm471 rfl rfl
theorem mc472 : mm472.2.2.2 = 214 := sgm472.1
def mm473 : Mem := setR mm472 275 5 277
theorem sgm473 : Sg mm473 214 := sg_R 275 5 277 sgm472 rfl rfl
theorem mc473 : mm473.2.2.2 = 214 := sgm473.1
def mm474 : Mem := cntM mm473
theorem sgm474 : Sg mm474 215 := sg_C sgm473 rfl rfl
theorem mc474 : mm474.2.2.2 = 215 := sgm474.1
def mm475 : Mem := setR mm474 275 6 278
theorem sgm475 : Sg mm475 215 := sg_R 275 6 278 sgm474 rfl rfl
theorem mc475 : mm475.2.2.2 = 215 := sgm475.1
def mm476 : Mem := cntM mm475
theorem sgm476 : Sg mm476 216 := sg_C sgm475 rfl rfl
theorem mc476 : mm476.2.2.2 = 216 := sgm476.1
def mm477 : Mem := setR mm476 275 7 279
theorem sgm477 : Sg mm477 216 := sg_R 275 7 279 sgm476 rfl rfl
theorem mc477 : mm477.2.2.2 = 216 := sgm477.1
def mm478 : Mem := cntM mm477
theorem sgm478 : Sg mm478 217 := sg_C sgm477 rfl rfl
theorem mc478 : mm478.2.2.2 = 217 := sgm478.1
def mm479 : Mem := setR mm478 275 8 280
theorem sgm479 : Sg mm479 217 := sg_R 275 8 280 sgm478 rfl rfl
theorem mc479 : mm479.2.2.2 = 217 := sgm479.1
def mm480 : Mem := setR mm479 223 8 275
theorem sgm480 : Sg mm480 217 := sg_R 223 8 275 sgm479 rfl rfl
theorem mc480 : mm480.2.2.2 = 217 := sgm480.1
def mm481 : Mem := cntM mm480
theorem sgm481 : Sg mm481 218 := sg_C sgm480 rfl rfl
theorem mc481 : mm481.2.2.2 = 218 := sgm481.1
def mm482 : Mem := cntM mm481
theorem sgm482 : Sg mm482 219 := sg_C sgm481 rfl rfl
theorem mc482 : mm482.2.2.2 = 219 := sgm482.1
def mm483 : Mem := setR mm482 281 4 282
theorem sgm483 : Sg mm483 219 := sg_R 281 4 282 sgm482 rfl rfl
theorem mc483 : mm483.2.2.2 = 219 := sgm483.1
def mm484 : Mem := cntM mm483
theorem sgm484 : Sg mm484 220 := sg_C sgm483 rfl rfl
theorem mc484 : mm484.2.2.2 = 220 := sgm484.1
def mm485 : Mem := setR mm484 281 5 283
theorem sgm485 : Sg mm485 220 := sg_R 281 5 283 sgm484 rfl rfl
theorem mc485 : mm485.2.2.2 = 220 := sgm485.1
def mm486 : Mem := cntM mm485
theorem sgm486 : Sg mm486 221 := sg_C sgm485 rfl rfl
theorem mc486 : mm486.2.2.2 = 221 := sgm486.1
def mm487 : Mem := setR mm486 281 6 284
theorem sgm487 : Sg mm487 221 := sg_R 281 6 284 sgm486 rfl rfl
theorem mc487 : mm487.2.2.2 = 221 := sgm487.1
def mm488 : Mem := cntM mm487
theorem sgm488 : Sg mm488 222 := sg_C sgm487 rfl rfl
theorem mc488 : mm488.2.2.2 = 222 := sgm488.1
def mm489 : Mem := setR mm488 281 7 285
theorem sgm489 : Sg mm489 222 := sg_R 281 7 285 sgm488 rfl rfl
theorem mc489 : mm489.2.2.2 = 222 := sgm489.1
def mm490 : Mem := cntM mm489
theorem sgm490 : Sg mm490 223 := sg_C sgm489 rfl rfl
theorem mc490 : mm490.2.2.2 = 223 := sgm490.1
def mm491 : Mem := setR mm490 281 8 286
theorem sgm491 : Sg mm491 223 := sg_R 281 8 286 sgm490 rfl rfl
theorem mc491 : mm491.2.2.2 = 223 := sgm491.1
def mm492 : Mem := setR mm491 223 9 281
theorem sgm492 : Sg mm492 223 := sg_R 223 9 281 sgm491 rfl rfl
theorem mc492 : mm492.2.2.2 = 223 := sgm492.1
def mm493 : Mem := cntM mm492
theorem sgm493 : Sg mm493 224 := sg_C sgm492 rfl rfl
theorem mc493 : mm493.2.2.2 = 224 := sgm493.1
def mm494 : Mem := cntM mm493
theorem sgm494 : Sg mm494 225 := sg_C sgm493 rfl rfl
theorem mc494 : mm494.2.2.2 = 225 := sgm494.1
def mm495 : Mem := setR mm494 287 4 288
theorem sgm495 : Sg mm495 225 := sg_R 287 4 288 sgm494 rfl rfl
theorem mc495 : mm495.2.2.2 = 225 := sgm495.1
def mm496 : Mem := cntM mm495
theorem sgm496 : Sg mm496 226 := sg_C sgm495 rfl rfl
theorem mc496 : mm496.2.2.2 = 226 := sgm496.1
def mm497 : Mem := setR mm496 287 5 289
theorem sgm497 : Sg mm497 226 := sg_R 287 5 289 sgm496 rfl rfl
theorem mc497 : mm497.2.2.2 = 226 := sgm497.1
def mm498 : Mem := cntM mm497
theorem sgm498 : Sg mm498 227 := sg_C sgm497 rfl rfl
theorem mc498 : mm498.2.2.2 = 227 := sgm498.1
def mm499 : Mem := setR mm498 287 6 290
theorem sgm499 : Sg mm499 227 := sg_R 287 6 290 sgm498 rfl rfl
theorem mc499 : mm499.2.2.2 = 227 := sgm499.1
def mm500 : Mem := cntM mm499
theorem sgm500 : Sg mm500 228 := sg_C sgm499 rfl rfl
theorem mc500 : mm500.2.2.2 = 228 := sgm500.1
def mm501 : Mem := setR mm500 287 7 291
theorem sgm501 : Sg mm501 228 := sg_R 287 7 291 sgm500 rfl rfl
theorem mc501 : mm501.2.2.2 = 228 := sgm501.1
def mm502 : Mem := cntM mm501
theorem sgm502 : Sg mm502 229 := sg_C sgm501 rfl rfl
theorem mc502 : mm502.2.2.2 = 229 := sgm502.1
def mm503 : Mem := setR mm502 287 8 292
theorem sgm503 : Sg mm503 229 := sg_R 287 8 292 sgm502 rfl rfl
theorem mc503 : mm503.2.2.2 = 229 := sgm503.1
def mm504 : Mem := setR mm503 223 10 287
theorem sgm504 : Sg mm504 229 := sg_R 223 10 287 sgm503 rfl rfl
theorem mc504 : mm504.2.2.2 = 229 := sgm504.1
def mm505 : Mem := cntM mm504
theorem sgm505 : Sg mm505 230 := sg_C sgm504 rfl rfl
theorem mc505 : mm505.2.2.2 = 230 := sgm505.1
def mm506 : Mem := cntM mm505
theorem sgm506 : Sg mm506 231 := sg_C sgm505 rfl rfl
theorem mc506 : mm506.2.2.2 = 231 := sgm506.1
def mm507 : Mem := setR mm506 293 4 294
theorem sgm507 : Sg mm507 231 := sg_R 293 4 294 sgm506 rfl rfl
theorem mc507 : mm507.2.2.2 = 231 := sgm507.1
def mm508 : Mem := cntM mm507
theorem sgm508 : Sg mm508 232 := sg_C sgm507 rfl rfl
theorem mc508 : mm508.2.2.2 = 232 := sgm508.1
def mm509 : Mem := setR mm508 293 5 295
theorem sgm509 : Sg mm509 232 := sg_R 293 5 295 sgm508 rfl rfl
theorem mc509 : mm509.2.2.2 = 232 := sgm509.1
def mm510 : Mem := cntM mm509
theorem sgm510 : Sg mm510 233 := sg_C sgm509 rfl rfl
theorem mc510 : mm510.2.2.2 = 233 := sgm510.1
def mm511 : Mem := setR mm510 293 6 296
theorem sgm511 : Sg mm511 233 := sg_R 293 6 296 sgm510 rfl rfl
theorem mc511 : mm511.2.2.2 = 233 := sgm511.1
def mm512 : Mem := cntM mm511
theorem sgm512 : Sg mm512 234 := sg_C sgm511 rfl rfl
theorem mc512 : mm512.2.2.2 = 234 := sgm512.1
def mm513 : Mem := setR mm512 293 7 297
theorem sgm513 : Sg mm513 234 := sg_R 293 7 297 sgm512 rfl rfl
theorem mc513 : mm513.2.2.2 = 234 := sgm513.1
def mm514 : Mem := cntM mm513
theorem sgm514 : Sg mm514 235 := sg_C sgm513 rfl rfl
theorem mc514 : mm514.2.2.2 = 235 := sgm514.1
def mm515 : Mem := setR mm514 293 8 298
theorem sgm515 : Sg mm515 235 := sg_R 293 8 298 sgm514 rfl rfl
theorem mc515 : mm515.2.2.2 = 235 := sgm515.1
def mm516 : Mem := setR mm515 223 11 293
theorem sgm516 : Sg mm516 235 := sg_R 223 11 293 sgm515 rfl rfl
theorem mc516 : mm516.2.2.2 = 235 := sgm516.1
def mm517 : Mem := cntM mm516
theorem sgm517 : Sg mm517 236 := sg_C sgm516 rfl rfl
theorem mc517 : mm517.2.2.2 = 236 := sgm517.1
def mm518 : Mem := cntM mm517
theorem sgm518 : Sg mm518 237 := sg_C sgm517 rfl rfl
theorem mc518 : mm518.2.2.2 = 237 := sgm518.1
def mm519 : Mem := setR mm518 299 4 300
theorem sgm519 : Sg mm519 237 := sg_R 299 4 300 sgm518 rfl rfl
theorem mc519 : mm519.2.2.2 = 237 := sgm519.1
def mm520 : Mem := cntM mm519
theorem sgm520 : Sg mm520 238 := sg_C sgm519 rfl rfl
theorem mc520 : mm520.2.2.2 = 238 := sgm520.1
def mm521 : Mem := setR mm520 299 5 301
theorem sgm521 : Sg mm521 238 := sg_R 299 5 301 sgm520 rfl rfl
theorem mc521 : mm521.2.2.2 = 238 := sgm521.1
def mm522 : Mem := cntM mm521
theorem sgm522 : Sg mm522 239 := sg_C sgm521 rfl rfl
theorem mc522 : mm522.2.2.2 = 239 := sgm522.1
def mm523 : Mem := setR mm522 299 6 302
theorem sgm523 : Sg mm523 239 := sg_R 299 6 302 sgm522 rfl rfl
theorem mc523 : mm523.2.2.2 = 239 := sgm523.1
def mm524 : Mem := cntM mm523
theorem sgm524 : Sg mm524 240 := sg_C sgm523 rfl rfl
theorem mc524 : mm524.2.2.2 = 240 := sgm524.1
def mm525 : Mem := setR mm524 299 7 303
theorem sgm525 : Sg mm525 240 := sg_R 299 7 303 sgm524 rfl rfl
theorem mc525 : mm525.2.2.2 = 240 := sgm525.1
def mm526 : Mem := cntM mm525
theorem sgm526 : Sg mm526 241 := sg_C sgm525 rfl rfl
theorem mc526 : mm526.2.2.2 = 241 := sgm526.1
def mm527 : Mem := setR mm526 299 8 304
theorem sgm527 : Sg mm527 241 := sg_R 299 8 304 sgm526 rfl rfl
theorem mc527 : mm527.2.2.2 = 241 := sgm527.1
def mm528 : Mem := setR mm527 224 0 299
theorem sgm528 : Sg mm528 241 := sg_R 224 0 299 sgm527 rfl rfl
theorem mc528 : mm528.2.2.2 = 241 := sgm528.1
def mm529 : Mem := cntM mm528
theorem sgm529 : Sg mm529 242 := sg_C sgm528 rfl rfl
theorem mc529 : mm529.2.2.2 = 242 := sgm529.1
def mm530 : Mem := cntM mm529
theorem sgm530 : Sg mm530 243 := sg_C sgm529 rfl rfl
theorem mc530 : mm530.2.2.2 = 243 := sgm530.1
def mm531 : Mem := setR mm530 305 4 306
theorem sgm531 : Sg mm531 243 := sg_R 305 4 306 sgm530 rfl rfl
theorem mc531 : mm531.2.2.2 = 243 := sgm531.1
def mm532 : Mem := cntM mm531
theorem sgm532 : Sg mm532 244 := sg_C sgm531 rfl rfl
theorem mc532 : mm532.2.2.2 = 244 := sgm532.1
def mm533 : Mem := setR mm532 305 5 307
theorem sgm533 : Sg mm533 244 := sg_R 305 5 307 sgm532 rfl rfl
theorem mc533 : mm533.2.2.2 = 244 := sgm533.1
def mm534 : Mem := cntM mm533
theorem sgm534 : Sg mm534 245 := sg_C sgm533 rfl rfl
theorem mc534 : mm534.2.2.2 = 245 := sgm534.1
def mm535 : Mem := setR mm534 305 6 308
theorem sgm535 : Sg mm535 245 := sg_R 305 6 308 sgm534 rfl rfl
theorem mc535 : mm535.2.2.2 = 245 := sgm535.1
def mm536 : Mem := cntM mm535
theorem sgm536 : Sg mm536 246 := sg_C sgm535 rfl rfl
theorem mc536 : mm536.2.2.2 = 246 := sgm536.1
def mm537 : Mem := setR mm536 305 7 309
theorem sgm537 : Sg mm537 246 := sg_R 305 7 309 sgm536 rfl rfl
theorem mc537 : mm537.2.2.2 = 246 := sgm537.1
def mm538 : Mem := cntM mm537
theorem sgm538 : Sg mm538 247 := sg_C sgm537 rfl rfl
theorem mc538 : mm538.2.2.2 = 247 := sgm538.1
def mm539 : Mem := setR mm538 305 8 310
theorem sgm539 : Sg mm539 247 := sg_R 305 8 310 sgm538 rfl rfl
theorem mc539 : mm539.2.2.2 = 247 := sgm539.1
def mm540 : Mem := setR mm539 224 1 305
theorem sgm540 : Sg mm540 247 := sg_R 224 1 305 sgm539 rfl rfl
theorem mc540 : mm540.2.2.2 = 247 := sgm540.1
