/-! stages of the memory -/
def Sg (M : Mem) (c : Nat) : Prop := M.2.2.2 = c ∧ Zr M
theorem sg_C {M M' : Mem} {c d : Nat} (h : Sg M c) (hd : c + 1 = d) (e : M' = cnt M) : Sg M' d := by
  subst hd; subst e; exact ⟨congrArg (· + 1) h.1, h.2.cnt⟩
theorem sg_R {M M' : Mem} {c : Nat} (n k x : Nat) (h : Sg M c) (e : M' = setR M n k x) (hb : Nat.blt n (64 + c) = true) : Sg M' c := by
  subst e; refine ⟨h.1, h.2.R ?_⟩; rw [h.1]; simpa [Nat.blt_eq] using hb
theorem sg_I {M M' : Mem} {c : Nat} (n k : Nat) (x : Int32) (h : Sg M c) (e : M' = setI M n k x) (hb : Nat.blt n (64 + c) = true) : Sg M' c := by
  subst e; refine ⟨h.1, h.2.I ?_⟩; rw [h.1]; simpa [Nat.blt_eq] using hb
theorem sg_F {M M' : Mem} {c : Nat} (n len : Nat) (x : Int32) (h : Sg M c) (e : M' = flM M n len x) (hb : Nat.blt n (64 + c) = true) : Sg M' c := by
  subst e; refine ⟨h.1, h.2.fl ?_⟩; rw [h.1]; simpa [Nat.blt_eq] using hb
def mm0 : Mem := (fun _ _ => 0, fun _ _ => 0, fun _ _ => 0, 0)
theorem sg0 : Sg mm0 0 := ⟨rfl, fun _ _ _ => ⟨rfl, rfl, rfl⟩⟩
theorem mc0 : mm0.2.2.2 = 0 := sg0.1
def mm1 : Mem := cnt mm0
theorem sg1 : Sg mm1 1 := sg_C sg0 rfl rfl
theorem mc1 : mm1.2.2.2 = 1 := sg1.1
def mm2 : Mem := cnt mm1
theorem sg2 : Sg mm2 2 := sg_C sg1 rfl rfl
theorem mc2 : mm2.2.2.2 = 2 := sg2.1
def mm3 : Mem := setR mm2 64 0 65
theorem sg3 : Sg mm3 2 := sg_R 64 0 65 sg2 rfl rfl
theorem mc3 : mm3.2.2.2 = 2 := sg3.1
def mm4 : Mem := cnt mm3
theorem sg4 : Sg mm4 3 := sg_C sg3 rfl rfl
theorem mc4 : mm4.2.2.2 = 3 := sg4.1
def mm5 : Mem := cnt mm4
theorem sg5 : Sg mm5 4 := sg_C sg4 rfl rfl
theorem mc5 : mm5.2.2.2 = 4 := sg5.1
def mm6 : Mem := setR mm5 66 1 67
theorem sg6 : Sg mm6 4 := sg_R 66 1 67 sg5 rfl rfl
theorem mc6 : mm6.2.2.2 = 4 := sg6.1
def mm7 : Mem := cnt mm6
theorem sg7 : Sg mm7 5 := sg_C sg6 rfl rfl
theorem mc7 : mm7.2.2.2 = 5 := sg7.1
def mm8 : Mem := setR mm7 66 2 68
theorem sg8 : Sg mm8 5 := sg_R 66 2 68 sg7 rfl rfl
theorem mc8 : mm8.2.2.2 = 5 := sg8.1
def mm9 : Mem := cnt mm8
theorem sg9 : Sg mm9 6 := sg_C sg8 rfl rfl
theorem mc9 : mm9.2.2.2 = 6 := sg9.1
def mm10 : Mem := cnt mm9
theorem sg10 : Sg mm10 7 := sg_C sg9 rfl rfl
theorem mc10 : mm10.2.2.2 = 7 := sg10.1
def mm11 : Mem := setR mm10 69 0 70
theorem sg11 : Sg mm11 7 := sg_R 69 0 70 sg10 rfl rfl
theorem mc11 : mm11.2.2.2 = 7 := sg11.1
def mm12 : Mem := setR mm11 66 4 69
theorem sg12 : Sg mm12 7 := sg_R 66 4 69 sg11 rfl rfl
theorem mc12 : mm12.2.2.2 = 7 := sg12.1
def mm13 : Mem := cnt mm12
theorem sg13 : Sg mm13 8 := sg_C sg12 rfl rfl
theorem mc13 : mm13.2.2.2 = 8 := sg13.1
def mm14 : Mem := setR mm13 66 6 71
theorem sg14 : Sg mm14 8 := sg_R 66 6 71 sg13 rfl rfl
theorem mc14 : mm14.2.2.2 = 8 := sg14.1
def mm15 : Mem := cnt mm14
theorem sg15 : Sg mm15 9 := sg_C sg14 rfl rfl
theorem mc15 : mm15.2.2.2 = 9 := sg15.1
def mm16 : Mem := setR mm15 66 8 72
theorem sg16 : Sg mm16 9 := sg_R 66 8 72 sg15 rfl rfl
theorem mc16 : mm16.2.2.2 = 9 := sg16.1
def mm17 : Mem := cnt mm16
theorem sg17 : Sg mm17 10 := sg_C sg16 rfl rfl
theorem mc17 : mm17.2.2.2 = 10 := sg17.1
def mm18 : Mem := setR mm17 66 10 73
theorem sg18 : Sg mm18 10 := sg_R 66 10 73 sg17 rfl rfl
theorem mc18 : mm18.2.2.2 = 10 := sg18.1
def mm19 : Mem := cnt mm18
theorem sg19 : Sg mm19 11 := sg_C sg18 rfl rfl
theorem mc19 : mm19.2.2.2 = 11 := sg19.1
def mm20 : Mem := setR mm19 66 12 74
theorem sg20 : Sg mm20 11 := sg_R 66 12 74 sg19 rfl rfl
theorem mc20 : mm20.2.2.2 = 11 := sg20.1
def mm21 : Mem := cnt mm20
theorem sg21 : Sg mm21 12 := sg_C sg20 rfl rfl
theorem mc21 : mm21.2.2.2 = 12 := sg21.1
def mm22 : Mem := setR mm21 66 13 75
theorem sg22 : Sg mm22 12 := sg_R 66 13 75 sg21 rfl rfl
theorem mc22 : mm22.2.2.2 = 12 := sg22.1
def mm23 : Mem := cnt mm22
theorem sg23 : Sg mm23 13 := sg_C sg22 rfl rfl
theorem mc23 : mm23.2.2.2 = 13 := sg23.1
def mm24 : Mem := cnt mm23
theorem sg24 : Sg mm24 14 := sg_C sg23 rfl rfl
theorem mc24 : mm24.2.2.2 = 14 := sg24.1
def mm25 : Mem := setR mm24 76 4 77
theorem sg25 : Sg mm25 14 := sg_R 76 4 77 sg24 rfl rfl
theorem mc25 : mm25.2.2.2 = 14 := sg25.1
def mm26 : Mem := cnt mm25
theorem sg26 : Sg mm26 15 := sg_C sg25 rfl rfl
theorem mc26 : mm26.2.2.2 = 15 := sg26.1
def mm27 : Mem := setR mm26 76 5 78
theorem sg27 : Sg mm27 15 := sg_R 76 5 78 sg26 rfl rfl
theorem mc27 : mm27.2.2.2 = 15 := sg27.1
def mm28 : Mem := setR mm27 72 0 76
theorem sg28 : Sg mm28 15 := sg_R 72 0 76 sg27 rfl rfl
theorem mc28 : mm28.2.2.2 = 15 := sg28.1
def mm29 : Mem := cnt mm28
theorem sg29 : Sg mm29 16 := sg_C sg28 rfl rfl
theorem mc29 : mm29.2.2.2 = 16 := sg29.1
def mm30 : Mem := cnt mm29
theorem sg30 : Sg mm30 17 := sg_C sg29 rfl rfl
theorem mc30 : mm30.2.2.2 = 17 := sg30.1
def mm31 : Mem := setR mm30 79 4 80
theorem sg31 : Sg mm31 17 := sg_R 79 4 80 sg30 rfl rfl
theorem mc31 : mm31.2.2.2 = 17 := sg31.1
def mm32 : Mem := cnt mm31
theorem sg32 : Sg mm32 18 := sg_C sg31 rfl rfl
theorem mc32 : mm32.2.2.2 = 18 := sg32.1
def mm33 : Mem := setR mm32 79 5 81
theorem sg33 : Sg mm33 18 := sg_R 79 5 81 sg32 rfl rfl
theorem mc33 : mm33.2.2.2 = 18 := sg33.1
def mm34 : Mem := setR mm33 72 1 79
theorem sg34 : Sg mm34 18 := sg_R 72 1 79 sg33 rfl rfl
theorem mc34 : mm34.2.2.2 = 18 := sg34.1
def mm35 : Mem := cnt mm34
theorem sg35 : Sg mm35 19 := sg_C sg34 rfl rfl
theorem mc35 : mm35.2.2.2 = 19 := sg35.1
def mm36 : Mem := cnt mm35
theorem sg36 : Sg mm36 20 := sg_C sg35 rfl rfl
theorem mc36 : mm36.2.2.2 = 20 := sg36.1
def mm37 : Mem := setR mm36 82 4 83
theorem sg37 : Sg mm37 20 := sg_R 82 4 83 sg36 rfl rfl
theorem mc37 : mm37.2.2.2 = 20 := sg37.1
def mm38 : Mem := cnt mm37
theorem sg38 : Sg mm38 21 := sg_C sg37 rfl rfl
theorem mc38 : mm38.2.2.2 = 21 := sg38.1
def mm39 : Mem := setR mm38 82 5 84
theorem sg39 : Sg mm39 21 := sg_R 82 5 84 sg38 rfl rfl
theorem mc39 : mm39.2.2.2 = 21 := sg39.1
def mm40 : Mem := setR mm39 72 2 82
theorem sg40 : Sg mm40 21 := sg_R 72 2 82 sg39 rfl rfl
theorem mc40 : mm40.2.2.2 = 21 := sg40.1
def mm41 : Mem := cnt mm40
theorem sg41 : Sg mm41 22 := sg_C sg40 rfl rfl
theorem mc41 : mm41.2.2.2 = 22 := sg41.1
def mm42 : Mem := cnt mm41
theorem sg42 : Sg mm42 23 := sg_C sg41 rfl rfl
theorem mc42 : mm42.2.2.2 = 23 := sg42.1
def mm43 : Mem := setR mm42 85 4 86
theorem sg43 : Sg mm43 23 := sg_R 85 4 86 sg42 rfl rfl
theorem mc43 : mm43.2.2.2 = 23 := sg43.1
def mm44 : Mem := cnt mm43
theorem sg44 : Sg mm44 24 := sg_C sg43 rfl rfl
theorem mc44 : mm44.2.2.2 = 24 := sg44.1
def mm45 : Mem := setR mm44 85 5 87
theorem sg45 : Sg mm45 24 := sg_R 85 5 87 sg44 rfl rfl
theorem mc45 : mm45.2.2.2 = 24 := sg45.1
def mm46 : Mem := setR mm45 72 3 85
theorem sg46 : Sg mm46 24 := sg_R 72 3 85 sg45 rfl rfl
theorem mc46 : mm46.2.2.2 = 24 := sg46.1
def mm47 : Mem := cnt mm46
theorem sg47 : Sg mm47 25 := sg_C sg46 rfl rfl
theorem mc47 : mm47.2.2.2 = 25 := sg47.1
def mm48 : Mem := cnt mm47
theorem sg48 : Sg mm48 26 := sg_C sg47 rfl rfl
theorem mc48 : mm48.2.2.2 = 26 := sg48.1
def mm49 : Mem := setR mm48 88 4 89
theorem sg49 : Sg mm49 26 := sg_R 88 4 89 sg48 rfl rfl
theorem mc49 : mm49.2.2.2 = 26 := sg49.1
def mm50 : Mem := cnt mm49
theorem sg50 : Sg mm50 27 := sg_C sg49 rfl rfl
theorem mc50 : mm50.2.2.2 = 27 := sg50.1
def mm51 : Mem := setR mm50 88 5 90
theorem sg51 : Sg mm51 27 := sg_R 88 5 90 sg50 rfl rfl
theorem mc51 : mm51.2.2.2 = 27 := sg51.1
def mm52 : Mem := setR mm51 72 4 88
theorem sg52 : Sg mm52 27 := sg_R 72 4 88 sg51 rfl rfl
theorem mc52 : mm52.2.2.2 = 27 := sg52.1
def mm53 : Mem := cnt mm52
theorem sg53 : Sg mm53 28 := sg_C sg52 rfl rfl
theorem mc53 : mm53.2.2.2 = 28 := sg53.1
def mm54 : Mem := cnt mm53
theorem sg54 : Sg mm54 29 := sg_C sg53 rfl rfl
theorem mc54 : mm54.2.2.2 = 29 := sg54.1
def mm55 : Mem := setR mm54 91 2 92
theorem sg55 : Sg mm55 29 := sg_R 91 2 92 sg54 rfl rfl
theorem mc55 : mm55.2.2.2 = 29 := sg55.1
def mm56 : Mem := setR mm55 73 0 91
theorem sg56 : Sg mm56 29 := sg_R 73 0 91 sg55 rfl rfl
theorem mc56 : mm56.2.2.2 = 29 := sg56.1
def mm57 : Mem := cnt mm56
theorem sg57 : Sg mm57 30 := sg_C sg56 rfl rfl
theorem mc57 : mm57.2.2.2 = 30 := sg57.1
def mm58 : Mem := cnt mm57
theorem sg58 : Sg mm58 31 := sg_C sg57 rfl rfl
theorem mc58 : mm58.2.2.2 = 31 := sg58.1
def mm59 : Mem := setR mm58 93 2 94
theorem sg59 : Sg mm59 31 := sg_R 93 2 94 sg58 rfl rfl
theorem mc59 : mm59.2.2.2 = 31 := sg59.1
def mm60 : Mem := setR mm59 73 1 93
theorem sg60 : Sg mm60 31 := sg_R 73 1 93 sg59 rfl rfl
theorem mc60 : mm60.2.2.2 = 31 := sg60.1
def mm61 : Mem := cnt mm60
theorem sg61 : Sg mm61 32 := sg_C sg60 rfl rfl
theorem mc61 : mm61.2.2.2 = 32 := sg61.1
def mm62 : Mem := cnt mm61
theorem sg62 : Sg mm62 33 := sg_C sg61 rfl rfl
theorem mc62 : mm62.2.2.2 = 33 := sg62.1
def mm63 : Mem := setR mm62 95 2 96
theorem sg63 : Sg mm63 33 := sg_R 95 2 96 sg62 rfl rfl
theorem mc63 : mm63.2.2.2 = 33 := sg63.1
def mm64 : Mem := setR mm63 73 2 95
theorem sg64 : Sg mm64 33 := sg_R 73 2 95 sg63 rfl rfl
theorem mc64 : mm64.2.2.2 = 33 := sg64.1
def mm65 : Mem := cnt mm64
theorem sg65 : Sg mm65 34 := sg_C sg64 rfl rfl
theorem mc65 : mm65.2.2.2 = 34 := sg65.1
def mm66 : Mem := cnt mm65
theorem sg66 : Sg mm66 35 := sg_C sg65 rfl rfl
theorem mc66 : mm66.2.2.2 = 35 := sg66.1
def mm67 : Mem := setR mm66 97 6 98
theorem sg67 : Sg mm67 35 := sg_R 97 6 98 sg66 rfl rfl
theorem mc67 : mm67.2.2.2 = 35 := sg67.1
def mm68 : Mem := cnt mm67
theorem sg68 : Sg mm68 36 := sg_C sg67 rfl rfl
theorem mc68 : mm68.2.2.2 = 36 := sg68.1
def mm69 : Mem := setR mm68 97 7 99
theorem sg69 : Sg mm69 36 := sg_R 97 7 99 sg68 rfl rfl
theorem mc69 : mm69.2.2.2 = 36 := sg69.1
def mm70 : Mem := cnt mm69
theorem sg70 : Sg mm70 37 := sg_C sg69 rfl rfl
theorem mc70 : mm70.2.2.2 = 37 := sg70.1
def mm71 : Mem := setR mm70 97 8 100
theorem sg71 : Sg mm71 37 := sg_R 97 8 100 sg70 rfl rfl
theorem mc71 : mm71.2.2.2 = 37 := sg71.1
def mm72 : Mem := cnt mm71
theorem sg72 : Sg mm72 38 := sg_C sg71 rfl rfl
theorem mc72 : mm72.2.2.2 = 38 := sg72.1
def mm73 : Mem := setR mm72 97 9 101
theorem sg73 : Sg mm73 38 := sg_R 97 9 101 sg72 rfl rfl
theorem mc73 : mm73.2.2.2 = 38 := sg73.1
def mm74 : Mem := setR mm73 74 0 97
theorem sg74 : Sg mm74 38 := sg_R 74 0 97 sg73 rfl rfl
theorem mc74 : mm74.2.2.2 = 38 := sg74.1
def mm75 : Mem := cnt mm74
theorem sg75 : Sg mm75 39 := sg_C sg74 rfl rfl
theorem mc75 : mm75.2.2.2 = 39 := sg75.1
def mm76 : Mem := cnt mm75
theorem sg76 : Sg mm76 40 := sg_C sg75 rfl rfl
theorem mc76 : mm76.2.2.2 = 40 := sg76.1
def mm77 : Mem := setR mm76 102 6 103
theorem sg77 : Sg mm77 40 := sg_R 102 6 103 sg76 rfl rfl
theorem mc77 : mm77.2.2.2 = 40 := sg77.1
def mm78 : Mem := cnt mm77
theorem sg78 : Sg mm78 41 := sg_C sg77 rfl rfl
theorem mc78 : mm78.2.2.2 = 41 := sg78.1
def mm79 : Mem := setR mm78 102 7 104
theorem sg79 : Sg mm79 41 := sg_R 102 7 104 sg78 rfl rfl
theorem mc79 : mm79.2.2.2 = 41 := sg79.1
def mm80 : Mem := cnt mm79
theorem sg80 : Sg mm80 42 := sg_C sg79 rfl rfl
theorem mc80 : mm80.2.2.2 = 42 := sg80.1
def mm81 : Mem := setR mm80 102 8 105
theorem sg81 : Sg mm81 42 := sg_R 102 8 105 sg80 rfl rfl
theorem mc81 : mm81.2.2.2 = 42 := sg81.1
def mm82 : Mem := cnt mm81
theorem sg82 : Sg mm82 43 := sg_C sg81 rfl rfl
theorem mc82 : mm82.2.2.2 = 43 := sg82.1
def mm83 : Mem := setR mm82 102 9 106
theorem sg83 : Sg mm83 43 := sg_R 102 9 106 sg82 rfl rfl
theorem mc83 : mm83.2.2.2 = 43 := sg83.1
def mm84 : Mem := setR mm83 74 1 102
theorem sg84 : Sg mm84 43 := sg_R 74 1 102 sg83 rfl rfl
theorem mc84 : mm84.2.2.2 = 43 := sg84.1
def mm85 : Mem := cnt mm84
theorem sg85 : Sg mm85 44 := sg_C sg84 rfl rfl
theorem mc85 : mm85.2.2.2 = 44 := sg85.1
def mm86 : Mem := cnt mm85
theorem sg86 : Sg mm86 45 := sg_C sg85 rfl rfl
theorem mc86 : mm86.2.2.2 = 45 := sg86.1
def mm87 : Mem := setR mm86 107 6 108
theorem sg87 : Sg mm87 45 := sg_R 107 6 108 sg86 rfl rfl
theorem mc87 : mm87.2.2.2 = 45 := sg87.1
def mm88 : Mem := cnt mm87
theorem sg88 : Sg mm88 46 := sg_C sg87 rfl rfl
theorem mc88 : mm88.2.2.2 = 46 := sg88.1
def mm89 : Mem := setR mm88 107 7 109
theorem sg89 : Sg mm89 46 := sg_R 107 7 109 sg88 rfl rfl
theorem mc89 : mm89.2.2.2 = 46 := sg89.1
def mm90 : Mem := cnt mm89
theorem sg90 : Sg mm90 47 := sg_C sg89 rfl rfl
theorem mc90 : mm90.2.2.2 = 47 := sg90.1
def mm91 : Mem := setR mm90 107 8 110
theorem sg91 : Sg mm91 47 := sg_R 107 8 110 sg90 rfl rfl
theorem mc91 : mm91.2.2.2 = 47 := sg91.1
def mm92 : Mem := cnt mm91
theorem sg92 : Sg mm92 48 := sg_C sg91 rfl rfl
theorem mc92 : mm92.2.2.2 = 48 := sg92.1
def mm93 : Mem := setR mm92 107 9 111
theorem sg93 : Sg mm93 48 := sg_R 107 9 111 sg92 rfl rfl
theorem mc93 : mm93.2.2.2 = 48 := sg93.1
def mm94 : Mem := setR mm93 74 2 107
theorem sg94 : Sg mm94 48 := sg_R 74 2 107 sg93 rfl rfl
theorem mc94 : mm94.2.2.2 = 48 := sg94.1
def mm95 : Mem := cnt mm94
theorem sg95 : Sg mm95 49 := sg_C sg94 rfl rfl
theorem mc95 : mm95.2.2.2 = 49 := sg95.1
def mm96 : Mem := cnt mm95
theorem sg96 : Sg mm96 50 := sg_C sg95 rfl rfl
theorem mc96 : mm96.2.2.2 = 50 := sg96.1
def mm97 : Mem := setR mm96 112 6 113
theorem sg97 : Sg mm97 50 := sg_R 112 6 113 sg96 rfl rfl
theorem mc97 : mm97.2.2.2 = 50 := sg97.1
def mm98 : Mem := cnt mm97
theorem sg98 : Sg mm98 51 := sg_C sg97 rfl rfl
theorem mc98 : mm98.2.2.2 = 51 := sg98.1
def mm99 : Mem := setR mm98 112 7 114
theorem sg99 : Sg mm99 51 := sg_R 112 7 114 sg98 rfl rfl
theorem mc99 : mm99.2.2.2 = 51 := sg99.1
def mm100 : Mem := cnt mm99
theorem sg100 : Sg mm100 52 := sg_C sg99 rfl rfl
theorem mc100 : mm100.2.2.2 = 52 := sg100.1
def mm101 : Mem := setR mm100 112 8 115
theorem sg101 : Sg mm101 52 := sg_R 112 8 115 sg100 rfl rfl
theorem mc101 : mm101.2.2.2 = 52 := sg101.1
def mm102 : Mem := cnt mm101
theorem sg102 : Sg mm102 53 := sg_C sg101 rfl rfl
theorem mc102 : mm102.2.2.2 = 53 := sg102.1
def mm103 : Mem := setR mm102 112 9 116
theorem sg103 : Sg mm103 53 := sg_R 112 9 116 sg102 rfl rfl
theorem mc103 : mm103.2.2.2 = 53 := sg103.1
def mm104 : Mem := setR mm103 74 3 112
theorem sg104 : Sg mm104 53 := sg_R 74 3 112 sg103 rfl rfl
theorem mc104 : mm104.2.2.2 = 53 := sg104.1
def mm105 : Mem := cnt mm104
theorem sg105 : Sg mm105 54 := sg_C sg104 rfl rfl
theorem mc105 : mm105.2.2.2 = 54 := sg105.1
def mm106 : Mem := cnt mm105
theorem sg106 : Sg mm106 55 := sg_C sg105 rfl rfl
theorem mc106 : mm106.2.2.2 = 55 := sg106.1
def mm107 : Mem := setR mm106 117 6 118
theorem sg107 : Sg mm107 55 := sg_R 117 6 118 sg106 rfl rfl
theorem mc107 : mm107.2.2.2 = 55 := sg107.1
def mm108 : Mem := cnt mm107
theorem sg108 : Sg mm108 56 := sg_C sg107 rfl rfl
theorem mc108 : mm108.2.2.2 = 56 := sg108.1
def mm109 : Mem := setR mm108 117 7 119
theorem sg109 : Sg mm109 56 := sg_R 117 7 119 sg108 rfl rfl
theorem mc109 : mm109.2.2.2 = 56 := sg109.1
def mm110 : Mem := cnt mm109
theorem sg110 : Sg mm110 57 := sg_C sg109 rfl rfl
theorem mc110 : mm110.2.2.2 = 57 := sg110.1
def mm111 : Mem := setR mm110 117 8 120
theorem sg111 : Sg mm111 57 := sg_R 117 8 120 sg110 rfl rfl
theorem mc111 : mm111.2.2.2 = 57 := sg111.1
def mm112 : Mem := cnt mm111
theorem sg112 : Sg mm112 58 := sg_C sg111 rfl rfl
theorem mc112 : mm112.2.2.2 = 58 := sg112.1
def mm113 : Mem := setR mm112 117 9 121
theorem sg113 : Sg mm113 58 := sg_R 117 9 121 sg112 rfl rfl
theorem mc113 : mm113.2.2.2 = 58 := sg113.1
def mm114 : Mem := setR mm113 74 4 117
theorem sg114 : Sg mm114 58 := sg_R 74 4 117 sg113 rfl rfl
theorem mc114 : mm114.2.2.2 = 58 := sg114.1
def mm115 : Mem := cnt mm114
theorem sg115 : Sg mm115 59 := sg_C sg114 rfl rfl
theorem mc115 : mm115.2.2.2 = 59 := sg115.1
def mm116 : Mem := cnt mm115
theorem sg116 : Sg mm116 60 := sg_C sg115 rfl rfl
theorem mc116 : mm116.2.2.2 = 60 := sg116.1
def mm117 : Mem := setR mm116 122 6 123
theorem sg117 : Sg mm117 60 := sg_R 122 6 123 sg116 rfl rfl
theorem mc117 : mm117.2.2.2 = 60 := sg117.1
def mm118 : Mem := cnt mm117
theorem sg118 : Sg mm118 61 := sg_C sg117 rfl rfl
theorem mc118 : mm118.2.2.2 = 61 := sg118.1
def mm119 : Mem := setR mm118 122 7 124
theorem sg119 : Sg mm119 61 := sg_R 122 7 124 sg118 rfl rfl
theorem mc119 : mm119.2.2.2 = 61 := sg119.1
def mm120 : Mem := cnt mm119
theorem sg120 : Sg mm120 62 := sg_C sg119 rfl rfl
theorem mc120 : mm120.2.2.2 = 62 := sg120.1
def mm121 : Mem := setR mm120 122 8 125
theorem sg121 : Sg mm121 62 := sg_R 122 8 125 sg120 rfl rfl
theorem mc121 : mm121.2.2.2 = 62 := sg121.1
def mm122 : Mem := cnt mm121
theorem sg122 : Sg mm122 63 := sg_C sg121 rfl rfl
theorem mc122 : mm122.2.2.2 = 63 := sg122.1
def mm123 : Mem := setR mm122 122 9 126
theorem sg123 : Sg mm123 63 := sg_R 122 9 126 sg122 rfl rfl
theorem mc123 : mm123.2.2.2 = 63 := sg123.1
def mm124 : Mem := setR mm123 74 5 122
theorem sg124 : Sg mm124 63 := sg_R 74 5 122 sg123 rfl rfl
theorem mc124 : mm124.2.2.2 = 63 := sg124.1
def mm125 : Mem := cnt mm124
theorem sg125 : Sg mm125 64 := sg_C sg124 rfl rfl
theorem mc125 : mm125.2.2.2 = 64 := sg125.1
def mm126 : Mem := cnt mm125
theorem sg126 : Sg mm126 65 := sg_C sg125 rfl rfl
theorem mc126 : mm126.2.2.2 = 65 := sg126.1
def mm127 : Mem := setR mm126 127 6 128
theorem sg127 : Sg mm127 65 := sg_R 127 6 128 sg126 rfl rfl
theorem mc127 : mm127.2.2.2 = 65 := sg127.1
def mm128 : Mem := cnt mm127
theorem sg128 : Sg mm128 66 := sg_C sg127 rfl rfl
theorem mc128 : mm128.2.2.2 = 66 := sg128.1
def mm129 : Mem := setR mm128 127 7 129
theorem sg129 : Sg mm129 66 := sg_R 127 7 129 sg128 rfl rfl
theorem mc129 : mm129.2.2.2 = 66 := sg129.1
def mm130 : Mem := cnt mm129
theorem sg130 : Sg mm130 67 := sg_C sg129 rfl rfl
theorem mc130 : mm130.2.2.2 = 67 := sg130.1
def mm131 : Mem := setR mm130 127 8 130
theorem sg131 : Sg mm131 67 := sg_R 127 8 130 sg130 rfl rfl
theorem mc131 : mm131.2.2.2 = 67 := sg131.1
def mm132 : Mem := cnt mm131
theorem sg132 : Sg mm132 68 := sg_C sg131 rfl rfl
theorem mc132 : mm132.2.2.2 = 68 := sg132.1
def mm133 : Mem := setR mm132 127 9 131
theorem sg133 : Sg mm133 68 := sg_R 127 9 131 sg132 rfl rfl
theorem mc133 : mm133.2.2.2 = 68 := sg133.1
def mm134 : Mem := setR mm133 74 6 127
theorem sg134 : Sg mm134 68 := sg_R 74 6 127 sg133 rfl rfl
theorem mc134 : mm134.2.2.2 = 68 := sg134.1
def mm135 : Mem := cnt mm134
theorem sg135 : Sg mm135 69 := sg_C sg134 rfl rfl
theorem mc135 : mm135.2.2.2 = 69 := sg135.1
def mm136 : Mem := cnt mm135
theorem sg136 : Sg mm136 70 := sg_C sg135 rfl rfl
theorem mc136 : mm136.2.2.2 = 70 := sg136.1
def mm137 : Mem := setR mm136 132 6 133
theorem sg137 : Sg mm137 70 := sg_R 132 6 133 sg136 rfl rfl
theorem mc137 : mm137.2.2.2 = 70 := sg137.1
def mm138 : Mem := cnt mm137
theorem sg138 : Sg mm138 71 := sg_C sg137 rfl rfl
theorem mc138 : mm138.2.2.2 = 71 := sg138.1
def mm139 : Mem := setR mm138 132 7 134
theorem sg139 : Sg mm139 71 := sg_R 132 7 134 sg138 rfl rfl
theorem mc139 : mm139.2.2.2 = 71 := sg139.1
def mm140 : Mem := cnt mm139
theorem sg140 : Sg mm140 72 := sg_C sg139 rfl rfl
theorem mc140 : mm140.2.2.2 = 72 := sg140.1
def mm141 : Mem := setR mm140 132 8 135
theorem sg141 : Sg mm141 72 := sg_R 132 8 135 sg140 rfl rfl
theorem mc141 : mm141.2.2.2 = 72 := sg141.1
def mm142 : Mem := cnt mm141
theorem sg142 : Sg mm142 73 := sg_C sg141 rfl rfl
theorem mc142 : mm142.2.2.2 = 73 := sg142.1
def mm143 : Mem := setR mm142 132 9 136
theorem sg143 : Sg mm143 73 := sg_R 132 9 136 sg142 rfl rfl
theorem mc143 : mm143.2.2.2 = 73 := sg143.1
def mm144 : Mem := setR mm143 74 7 132
theorem sg144 : Sg mm144 73 := sg_R 74 7 132 sg143 rfl rfl
theorem mc144 : mm144.2.2.2 = 73 := sg144.1
def mm145 : Mem := setI mm144 66 0 0
theorem sg145 : Sg mm145 73 := sg_I 66 0 0 sg144 rfl rfl
theorem mc145 : mm145.2.2.2 = 73 := sg145.1
def mm146 : Mem := setI mm145 66 3 0
theorem sg146 : Sg mm146 73 := sg_I 66 3 0 sg145 rfl rfl
theorem mc146 : mm146.2.2.2 = 73 := sg146.1
def mm147 : Mem := flM mm146 70 100 268435456
theorem sg147 : Sg mm147 73 := sg_F 70 100 268435456 sg146 rfl rfl
theorem mc147 : mm147.2.2.2 = 73 := sg147.1
def mm148 : Mem := setI mm147 70 0 0
theorem sg148 : Sg mm148 73 := sg_I 70 0 0 sg147 rfl rfl
theorem mc148 : mm148.2.2.2 = 73 := sg148.1
def mm149 : Mem := setI mm148 70 11 0
theorem sg149 : Sg mm149 73 := sg_I 70 11 0 sg148 rfl rfl
theorem mc149 : mm149.2.2.2 = 73 := sg149.1
def mm150 : Mem := setI mm149 70 22 0
theorem sg150 : Sg mm150 73 := sg_I 70 22 0 sg149 rfl rfl
theorem mc150 : mm150.2.2.2 = 73 := sg150.1
def mm151 : Mem := setI mm150 70 33 0
theorem sg151 : Sg mm151 73 := sg_I 70 33 0 sg150 rfl rfl
theorem mc151 : mm151.2.2.2 = 73 := sg151.1
def mm152 : Mem := setI mm151 70 44 0
theorem sg152 : Sg mm152 73 := sg_I 70 44 0 sg151 rfl rfl
theorem mc152 : mm152.2.2.2 = 73 := sg152.1
def mm153 : Mem := setI mm152 70 55 0
theorem sg153 : Sg mm153 73 := sg_I 70 55 0 sg152 rfl rfl
theorem mc153 : mm153.2.2.2 = 73 := sg153.1
def mm154 : Mem := setI mm153 70 66 0
theorem sg154 : Sg mm154 73 := sg_I 70 66 0 sg153 rfl rfl
theorem mc154 : mm154.2.2.2 = 73 := sg154.1
def mm155 : Mem := setI mm154 70 77 0
theorem sg155 : Sg mm155 73 := sg_I 70 77 0 sg154 rfl rfl
theorem mc155 : mm155.2.2.2 = 73 := sg155.1
def mm156 : Mem := setI mm155 70 88 0
theorem sg156 : Sg mm156 73 := sg_I 70 88 0 sg155 rfl rfl
theorem mc156 : mm156.2.2.2 = 73 := sg156.1
def mm157 : Mem := setI mm156 70 99 0
theorem sg157 : Sg mm157 73 := sg_I 70 99 0 sg156 rfl rfl
theorem mc157 : mm157.2.2.2 = 73 := sg157.1
def mm158 : Mem := setI mm157 69 1 0
theorem sg158 : Sg mm158 73 := sg_I 69 1 0 sg157 rfl rfl
theorem mc158 : mm158.2.2.2 = 73 := sg158.1
def mm159 : Mem := setI mm158 66 5 0
theorem sg159 : Sg mm159 73 := sg_I 66 5 0 sg158 rfl rfl
theorem mc159 : mm159.2.2.2 = 73 := sg159.1
def mm160 : Mem := setI mm159 66 7 0
theorem sg160 : Sg mm160 73 := sg_I 66 7 0 sg159 rfl rfl
theorem mc160 : mm160.2.2.2 = 73 := sg160.1
def mm161 : Mem := setI mm160 66 9 0
theorem sg161 : Sg mm161 73 := sg_I 66 9 0 sg160 rfl rfl
theorem mc161 : mm161.2.2.2 = 73 := sg161.1
def mm162 : Mem := setI mm161 66 11 0
theorem sg162 : Sg mm162 73 := sg_I 66 11 0 sg161 rfl rfl
theorem mc162 : mm162.2.2.2 = 73 := sg162.1
def mm163 : Mem := setI mm162 75 0 60
theorem sg163 : Sg mm163 73 := sg_I 75 0 60 sg162 rfl rfl
theorem mc163 : mm163.2.2.2 = 73 := sg163.1
def mm164 : Mem := setI mm163 75 1 0
theorem sg164 : Sg mm164 73 := sg_I 75 1 0 sg163 rfl rfl
theorem mc164 : mm164.2.2.2 = 73 := sg164.1
def mm165 : Mem := setI mm164 75 2 1000
theorem sg165 : Sg mm165 73 := sg_I 75 2 1000 sg164 rfl rfl
theorem mc165 : mm165.2.2.2 = 73 := sg165.1
def mm166 : Mem := setI mm165 75 3 1
theorem sg166 : Sg mm166 73 := sg_I 75 3 1 sg165 rfl rfl
theorem mc166 : mm166.2.2.2 = 73 := sg166.1
def mm167 : Mem := setR mm166 64 2 66
theorem sg167 : Sg mm167 73 := sg_R 64 2 66 sg166 rfl rfl
theorem mc167 : mm167.2.2.2 = 73 := sg167.1
def mm168 : Mem := cnt mm167
theorem sg168 : Sg mm168 74 := sg_C sg167 rfl rfl
theorem mc168 : mm168.2.2.2 = 74 := sg168.1
def mm169 : Mem := cnt mm168
theorem sg169 : Sg mm169 75 := sg_C sg168 rfl rfl
theorem mc169 : mm169.2.2.2 = 75 := sg169.1
def mm170 : Mem := setR mm169 137 1 138
theorem sg170 : Sg mm170 75 := sg_R 137 1 138 sg169 rfl rfl
theorem mc170 : mm170.2.2.2 = 75 := sg170.1
def mm171 : Mem := cnt mm170
theorem sg171 : Sg mm171 76 := sg_C sg170 rfl rfl
theorem mc171 : mm171.2.2.2 = 76 := sg171.1
def mm172 : Mem := setR mm171 137 2 139
theorem sg172 : Sg mm172 76 := sg_R 137 2 139 sg171 rfl rfl
theorem mc172 : mm172.2.2.2 = 76 := sg172.1
def mm173 : Mem := cnt mm172
theorem sg173 : Sg mm173 77 := sg_C sg172 rfl rfl
theorem mc173 : mm173.2.2.2 = 77 := sg173.1
def mm174 : Mem := cnt mm173
theorem sg174 : Sg mm174 78 := sg_C sg173 rfl rfl
theorem mc174 : mm174.2.2.2 = 78 := sg174.1
def mm175 : Mem := setR mm174 140 0 141
theorem sg175 : Sg mm175 78 := sg_R 140 0 141 sg174 rfl rfl
theorem mc175 : mm175.2.2.2 = 78 := sg175.1
def mm176 : Mem := setR mm175 137 4 140
theorem sg176 : Sg mm176 78 := sg_R 137 4 140 sg175 rfl rfl
theorem mc176 : mm176.2.2.2 = 78 := sg176.1
def mm177 : Mem := cnt mm176
theorem sg177 : Sg mm177 79 := sg_C sg176 rfl rfl
theorem mc177 : mm177.2.2.2 = 79 := sg177.1
def mm178 : Mem := setR mm177 137 6 142
theorem sg178 : Sg mm178 79 := sg_R 137 6 142 sg177 rfl rfl
theorem mc178 : mm178.2.2.2 = 79 := sg178.1
def mm179 : Mem := cnt mm178
theorem sg179 : Sg mm179 80 := sg_C sg178 rfl rfl
theorem mc179 : mm179.2.2.2 = 80 := sg179.1
def mm180 : Mem := setR mm179 137 8 143
theorem sg180 : Sg mm180 80 := sg_R 137 8 143 sg179 rfl rfl
theorem mc180 : mm180.2.2.2 = 80 := sg180.1
def mm181 : Mem := cnt mm180
theorem sg181 : Sg mm181 81 := sg_C sg180 rfl rfl
theorem mc181 : mm181.2.2.2 = 81 := sg181.1
def mm182 : Mem := setR mm181 137 10 144
theorem sg182 : Sg mm182 81 := sg_R 137 10 144 sg181 rfl rfl
theorem mc182 : mm182.2.2.2 = 81 := sg182.1
def mm183 : Mem := cnt mm182
theorem sg183 : Sg mm183 82 := sg_C sg182 rfl rfl
theorem mc183 : mm183.2.2.2 = 82 := sg183.1
def mm184 : Mem := setR mm183 137 12 145
theorem sg184 : Sg mm184 82 := sg_R 137 12 145 sg183 rfl rfl
theorem mc184 : mm184.2.2.2 = 82 := sg184.1
def mm185 : Mem := cnt mm184
theorem sg185 : Sg mm185 83 := sg_C sg184 rfl rfl
theorem mc185 : mm185.2.2.2 = 83 := sg185.1
def mm186 : Mem := setR mm185 137 13 146
theorem sg186 : Sg mm186 83 := sg_R 137 13 146 sg185 rfl rfl
theorem mc186 : mm186.2.2.2 = 83 := sg186.1
def mm187 : Mem := cnt mm186
theorem sg187 : Sg mm187 84 := sg_C sg186 rfl rfl
theorem mc187 : mm187.2.2.2 = 84 := sg187.1
def mm188 : Mem := cnt mm187
theorem sg188 : Sg mm188 85 := sg_C sg187 rfl rfl
theorem mc188 : mm188.2.2.2 = 85 := sg188.1
def mm189 : Mem := setR mm188 147 4 148
theorem sg189 : Sg mm189 85 := sg_R 147 4 148 sg188 rfl rfl
theorem mc189 : mm189.2.2.2 = 85 := sg189.1
def mm190 : Mem := cnt mm189
theorem sg190 : Sg mm190 86 := sg_C sg189 rfl rfl
theorem mc190 : mm190.2.2.2 = 86 := sg190.1
def mm191 : Mem := setR mm190 147 5 149
theorem sg191 : Sg mm191 86 := sg_R 147 5 149 sg190 rfl rfl
theorem mc191 : mm191.2.2.2 = 86 := sg191.1
def mm192 : Mem := setR mm191 143 0 147
theorem sg192 : Sg mm192 86 := sg_R 143 0 147 sg191 rfl rfl
theorem mc192 : mm192.2.2.2 = 86 := sg192.1
def mm193 : Mem := cnt mm192
theorem sg193 : Sg mm193 87 := sg_C sg192 rfl rfl
theorem mc193 : mm193.2.2.2 = 87 := sg193.1
def mm194 : Mem := cnt mm193
theorem sg194 : Sg mm194 88 := sg_C sg193 rfl rfl
theorem mc194 : mm194.2.2.2 = 88 := sg194.1
def mm195 : Mem := setR mm194 150 4 151
theorem sg195 : Sg mm195 88 := sg_R 150 4 151 sg194 rfl rfl
theorem mc195 : mm195.2.2.2 = 88 := sg195.1
def mm196 : Mem := cnt mm195
theorem sg196 : Sg mm196 89 := sg_C sg195 rfl rfl
theorem mc196 : mm196.2.2.2 = 89 := sg196.1
def mm197 : Mem := setR mm196 150 5 152
theorem sg197 : Sg mm197 89 := sg_R 150 5 152 sg196 rfl rfl
theorem mc197 : mm197.2.2.2 = 89 := sg197.1
def mm198 : Mem := setR mm197 143 1 150
theorem sg198 : Sg mm198 89 := sg_R 143 1 150 sg197 rfl rfl
theorem mc198 : mm198.2.2.2 = 89 := sg198.1
def mm199 : Mem := cnt mm198
theorem sg199 : Sg mm199 90 := sg_C sg198 rfl rfl
theorem mc199 : mm199.2.2.2 = 90 := sg199.1
def mm200 : Mem := cnt mm199
theorem sg200 : Sg mm200 91 := sg_C sg199 rfl rfl
theorem mc200 : mm200.2.2.2 = 91 := sg200.1
def mm201 : Mem := setR mm200 153 4 154
theorem sg201 : Sg mm201 91 := sg_R 153 4 154 sg200 rfl rfl
theorem mc201 : mm201.2.2.2 = 91 := sg201.1
def mm202 : Mem := cnt mm201
theorem sg202 : Sg mm202 92 := sg_C sg201 rfl rfl
theorem mc202 : mm202.2.2.2 = 92 := sg202.1
def mm203 : Mem := setR mm202 153 5 155
theorem sg203 : Sg mm203 92 := sg_R 153 5 155 sg202 rfl rfl
theorem mc203 : mm203.2.2.2 = 92 := sg203.1
def mm204 : Mem := setR mm203 143 2 153
theorem sg204 : Sg mm204 92 := sg_R 143 2 153 sg203 rfl rfl
theorem mc204 : mm204.2.2.2 = 92 := sg204.1
def mm205 : Mem := cnt mm204
theorem sg205 : Sg mm205 93 := sg_C sg204 rfl rfl
theorem mc205 : mm205.2.2.2 = 93 := sg205.1
def mm206 : Mem := cnt mm205
theorem sg206 : Sg mm206 94 := sg_C sg205 rfl rfl
theorem mc206 : mm206.2.2.2 = 94 := sg206.1
def mm207 : Mem := setR mm206 156 4 157
theorem sg207 : Sg mm207 94 := sg_R 156 4 157 sg206 rfl rfl
theorem mc207 : mm207.2.2.2 = 94 := sg207.1
def mm208 : Mem := cnt mm207
theorem sg208 : Sg mm208 95 := sg_C sg207 rfl rfl
theorem mc208 : mm208.2.2.2 = 95 := sg208.1
def mm209 : Mem := setR mm208 156 5 158
theorem sg209 : Sg mm209 95 := sg_R 156 5 158 sg208 rfl rfl
theorem mc209 : mm209.2.2.2 = 95 := sg209.1
def mm210 : Mem := setR mm209 143 3 156
theorem sg210 : Sg mm210 95 := sg_R 143 3 156 sg209 rfl rfl
theorem mc210 : mm210.2.2.2 = 95 := sg210.1
def mm211 : Mem := cnt mm210
theorem sg211 : Sg mm211 96 := sg_C sg210 rfl rfl
theorem mc211 : mm211.2.2.2 = 96 := sg211.1
def mm212 : Mem := cnt mm211
theorem sg212 : Sg mm212 97 := sg_C sg211 rfl rfl
theorem mc212 : mm212.2.2.2 = 97 := sg212.1
def mm213 : Mem := setR mm212 159 4 160
theorem sg213 : Sg mm213 97 := sg_R 159 4 160 sg212 rfl rfl
theorem mc213 : mm213.2.2.2 = 97 := sg213.1
def mm214 : Mem := cnt mm213
theorem sg214 : Sg mm214 98 := sg_C sg213 rfl rfl
theorem mc214 : mm214.2.2.2 = 98 := sg214.1
def mm215 : Mem := setR mm214 159 5 161
theorem sg215 : Sg mm215 98 := sg_R 159 5 161 sg214 rfl rfl
theorem mc215 : mm215.2.2.2 = 98 := sg215.1
def mm216 : Mem := setR mm215 143 4 159
theorem sg216 : Sg mm216 98 := sg_R 143 4 159 sg215 rfl rfl
theorem mc216 : mm216.2.2.2 = 98 := sg216.1
def mm217 : Mem := cnt mm216
theorem sg217 : Sg mm217 99 := sg_C sg216 rfl rfl
theorem mc217 : mm217.2.2.2 = 99 := sg217.1
def mm218 : Mem := cnt mm217
theorem sg218 : Sg mm218 100 := sg_C sg217 rfl rfl
theorem mc218 : mm218.2.2.2 = 100 := sg218.1
def mm219 : Mem := setR mm218 162 2 163
theorem sg219 : Sg mm219 100 := sg_R 162 2 163 sg218 rfl rfl
theorem mc219 : mm219.2.2.2 = 100 := sg219.1
def mm220 : Mem := setR mm219 144 0 162
theorem sg220 : Sg mm220 100 := sg_R 144 0 162 sg219 rfl rfl
theorem mc220 : mm220.2.2.2 = 100 := sg220.1
def mm221 : Mem := cnt mm220
theorem sg221 : Sg mm221 101 := sg_C sg220 rfl rfl
theorem mc221 : mm221.2.2.2 = 101 := sg221.1
def mm222 : Mem := cnt mm221
theorem sg222 : Sg mm222 102 := sg_C sg221 rfl rfl
theorem mc222 : mm222.2.2.2 = 102 := sg222.1
def mm223 : Mem := setR mm222 164 2 165
theorem sg223 : Sg mm223 102 := sg_R 164 2 165 sg222 rfl rfl
theorem mc223 : mm223.2.2.2 = 102 := sg223.1
def mm224 : Mem := setR mm223 144 1 164
theorem sg224 : Sg mm224 102 := sg_R 144 1 164 sg223 rfl rfl
theorem mc224 : mm224.2.2.2 = 102 := sg224.1
def mm225 : Mem := cnt mm224
theorem sg225 : Sg mm225 103 := sg_C sg224 rfl rfl
theorem mc225 : mm225.2.2.2 = 103 := sg225.1
def mm226 : Mem := cnt mm225
theorem sg226 : Sg mm226 104 := sg_C sg225 rfl rfl
theorem mc226 : mm226.2.2.2 = 104 := sg226.1
def mm227 : Mem := setR mm226 166 2 167
theorem sg227 : Sg mm227 104 := sg_R 166 2 167 sg226 rfl rfl
theorem mc227 : mm227.2.2.2 = 104 := sg227.1
def mm228 : Mem := setR mm227 144 2 166
theorem sg228 : Sg mm228 104 := sg_R 144 2 166 sg227 rfl rfl
theorem mc228 : mm228.2.2.2 = 104 := sg228.1
def mm229 : Mem := cnt mm228
theorem sg229 : Sg mm229 105 := sg_C sg228 rfl rfl
theorem mc229 : mm229.2.2.2 = 105 := sg229.1
def mm230 : Mem := cnt mm229
theorem sg230 : Sg mm230 106 := sg_C sg229 rfl rfl
theorem mc230 : mm230.2.2.2 = 106 := sg230.1
def mm231 : Mem := setR mm230 168 6 169
theorem sg231 : Sg mm231 106 := sg_R 168 6 169 sg230 rfl rfl
theorem mc231 : mm231.2.2.2 = 106 := sg231.1
def mm232 : Mem := cnt mm231
theorem sg232 : Sg mm232 107 := sg_C sg231 rfl rfl
theorem mc232 : mm232.2.2.2 = 107 := sg232.1
def mm233 : Mem := setR mm232 168 7 170
theorem sg233 : Sg mm233 107 := sg_R 168 7 170 sg232 rfl rfl
theorem mc233 : mm233.2.2.2 = 107 := sg233.1
def mm234 : Mem := cnt mm233
theorem sg234 : Sg mm234 108 := sg_C sg233 rfl rfl
theorem mc234 : mm234.2.2.2 = 108 := sg234.1
def mm235 : Mem := setR mm234 168 8 171
theorem sg235 : Sg mm235 108 := sg_R 168 8 171 sg234 rfl rfl
theorem mc235 : mm235.2.2.2 = 108 := sg235.1
def mm236 : Mem := cnt mm235
theorem sg236 : Sg mm236 109 := sg_C sg235 rfl rfl
theorem mc236 : mm236.2.2.2 = 109 := sg236.1
def mm237 : Mem := setR mm236 168 9 172
theorem sg237 : Sg mm237 109 := sg_R 168 9 172 sg236 rfl rfl
theorem mc237 : mm237.2.2.2 = 109 := sg237.1
def mm238 : Mem := setR mm237 145 0 168
theorem sg238 : Sg mm238 109 := sg_R 145 0 168 sg237 rfl rfl
theorem mc238 : mm238.2.2.2 = 109 := sg238.1
def mm239 : Mem := cnt mm238
theorem sg239 : Sg mm239 110 := sg_C sg238 rfl rfl
theorem mc239 : mm239.2.2.2 = 110 := sg239.1
def mm240 : Mem := cnt mm239
theorem sg240 : Sg mm240 111 := sg_C sg239 rfl rfl
theorem mc240 : mm240.2.2.2 = 111 := sg240.1
def mm241 : Mem := setR mm240 173 6 174
theorem sg241 : Sg mm241 111 := sg_R 173 6 174 sg240 rfl rfl
theorem mc241 : mm241.2.2.2 = 111 := sg241.1
def mm242 : Mem := cnt mm241
theorem sg242 : Sg mm242 112 := sg_C sg241 rfl rfl
theorem mc242 : mm242.2.2.2 = 112 := sg242.1
def mm243 : Mem := setR mm242 173 7 175
theorem sg243 : Sg mm243 112 := sg_R 173 7 175 sg242 rfl rfl
theorem mc243 : mm243.2.2.2 = 112 := sg243.1
def mm244 : Mem := cnt mm243
theorem sg244 : Sg mm244 113 := sg_C sg243 rfl rfl
theorem mc244 : mm244.2.2.2 = 113 := sg244.1
def mm245 : Mem := setR mm244 173 8 176
theorem sg245 : Sg mm245 113 := sg_R 173 8 176 sg244 rfl rfl
theorem mc245 : mm245.2.2.2 = 113 := sg245.1
def mm246 : Mem := cnt mm245
theorem sg246 : Sg mm246 114 := sg_C sg245 rfl rfl
theorem mc246 : mm246.2.2.2 = 114 := sg246.1
def mm247 : Mem := setR mm246 173 9 177
theorem sg247 : Sg mm247 114 := sg_R 173 9 177 sg246 rfl rfl
theorem mc247 : mm247.2.2.2 = 114 := sg247.1
def mm248 : Mem := setR mm247 145 1 173
theorem sg248 : Sg mm248 114 := sg_R 145 1 173 sg247 rfl rfl
theorem mc248 : mm248.2.2.2 = 114 := sg248.1
def mm249 : Mem := cnt mm248
theorem sg249 : Sg mm249 115 := sg_C sg248 rfl rfl
theorem mc249 : mm249.2.2.2 = 115 := sg249.1
def mm250 : Mem := cnt mm249
theorem sg250 : Sg mm250 116 := sg_C sg249 rfl rfl
theorem mc250 : mm250.2.2.2 = 116 := sg250.1
def mm251 : Mem := setR mm250 178 6 179
theorem sg251 : Sg mm251 116 := sg_R 178 6 179 sg250 rfl rfl
theorem mc251 : mm251.2.2.2 = 116 := sg251.1
def mm252 : Mem := cnt mm251
theorem sg252 : Sg mm252 117 := sg_C sg251 rfl rfl
theorem mc252 : mm252.2.2.2 = 117 := sg252.1
def mm253 : Mem := setR mm252 178 7 180
theorem sg253 : Sg mm253 117 := sg_R 178 7 180 sg252 rfl rfl
theorem mc253 : mm253.2.2.2 = 117 := sg253.1
def mm254 : Mem := cnt mm253
theorem sg254 : Sg mm254 118 := sg_C sg253 rfl rfl
theorem mc254 : mm254.2.2.2 = 118 := sg254.1
def mm255 : Mem := setR mm254 178 8 181
theorem sg255 : Sg mm255 118 := sg_R 178 8 181 sg254 rfl rfl
theorem mc255 : mm255.2.2.2 = 118 := sg255.1
def mm256 : Mem := cnt mm255
theorem sg256 : Sg mm256 119 := sg_C sg255 rfl rfl
theorem mc256 : mm256.2.2.2 = 119 := sg256.1
def mm257 : Mem := setR mm256 178 9 182
theorem sg257 : Sg mm257 119 := sg_R 178 9 182 sg256 rfl rfl
theorem mc257 : mm257.2.2.2 = 119 := sg257.1
def mm258 : Mem := setR mm257 145 2 178
theorem sg258 : Sg mm258 119 := sg_R 145 2 178 sg257 rfl rfl
theorem mc258 : mm258.2.2.2 = 119 := sg258.1
def mm259 : Mem := cnt mm258
theorem sg259 : Sg mm259 120 := sg_C sg258 rfl rfl
theorem mc259 : mm259.2.2.2 = 120 := sg259.1
def mm260 : Mem := cnt mm259
theorem sg260 : Sg mm260 121 := sg_C sg259 rfl rfl
theorem mc260 : mm260.2.2.2 = 121 := sg260.1
def mm261 : Mem := setR mm260 183 6 184
theorem sg261 : Sg mm261 121 := sg_R 183 6 184 sg260 rfl rfl
theorem mc261 : mm261.2.2.2 = 121 := sg261.1
def mm262 : Mem := cnt mm261
theorem sg262 : Sg mm262 122 := sg_C sg261 rfl rfl
theorem mc262 : mm262.2.2.2 = 122 := sg262.1
def mm263 : Mem := setR mm262 183 7 185
theorem sg263 : Sg mm263 122 := sg_R 183 7 185 sg262 rfl rfl
theorem mc263 : mm263.2.2.2 = 122 := sg263.1
def mm264 : Mem := cnt mm263
theorem sg264 : Sg mm264 123 := sg_C sg263 rfl rfl
theorem mc264 : mm264.2.2.2 = 123 := sg264.1
def mm265 : Mem := setR mm264 183 8 186
theorem sg265 : Sg mm265 123 := sg_R 183 8 186 sg264 rfl rfl
theorem mc265 : mm265.2.2.2 = 123 := sg265.1
def mm266 : Mem := cnt mm265
theorem sg266 : Sg mm266 124 := sg_C sg265 rfl rfl
theorem mc266 : mm266.2.2.2 = 124 := sg266.1
def mm267 : Mem := setR mm266 183 9 187
theorem sg267 : Sg mm267 124 := sg_R 183 9 187 sg266 rfl rfl
theorem mc267 : mm267.2.2.2 = 124 := sg267.1
def mm268 : Mem := setR mm267 145 3 183
theorem sg268 : Sg mm268 124 := sg_R 145 3 183 sg267 rfl rfl
theorem mc268 : mm268.2.2.2 = 124 := sg268.1
def mm269 : Mem := cnt mm268
theorem sg269 : Sg mm269 125 := sg_C sg268 rfl rfl
theorem mc269 : mm269.2.2.2 = 125 := sg269.1
def mm270 : Mem := cnt mm269
theorem sg270 : Sg mm270 126 := sg_C sg269 rfl rfl
theorem mc270 : mm270.2.2.2 = 126 := sg270.1
def mm271 : Mem := setR mm270 188 6 189
theorem sg271 : Sg mm271 126 := sg_R 188 6 189 sg270 rfl rfl
theorem mc271 : mm271.2.2.2 = 126 := sg271.1
def mm272 : Mem := cnt mm271
theorem sg272 : Sg mm272 127 := sg_C sg271 rfl rfl
theorem mc272 : mm272.2.2.2 = 127 := sg272.1
def mm273 : Mem := setR mm272 188 7 190
theorem sg273 : Sg mm273 127 := sg_R 188 7 190 sg272 rfl rfl
theorem mc273 : mm273.2.2.2 = 127 := sg273.1
def mm274 : Mem := cnt mm273
theorem sg274 : Sg mm274 128 := sg_C sg273 rfl rfl
theorem mc274 : mm274.2.2.2 = 128 := sg274.1
def mm275 : Mem := setR mm274 188 8 191
theorem sg275 : Sg mm275 128 := sg_R 188 8 191 sg274 rfl rfl
theorem mc275 : mm275.2.2.2 = 128 := sg275.1
def mm276 : Mem := cnt mm275
theorem sg276 : Sg mm276 129 := sg_C sg275 rfl rfl
theorem mc276 : mm276.2.2.2 = 129 := sg276.1
def mm277 : Mem := setR mm276 188 9 192
theorem sg277 : Sg mm277 129 := sg_R 188 9 192 sg276 rfl rfl
theorem mc277 : mm277.2.2.2 = 129 := sg277.1
def mm278 : Mem := setR mm277 145 4 188
theorem sg278 : Sg mm278 129 := sg_R 145 4 188 sg277 rfl rfl
theorem mc278 : mm278.2.2.2 = 129 := sg278.1
def mm279 : Mem := cnt mm278
theorem sg279 : Sg mm279 130 := sg_C sg278 rfl rfl
theorem mc279 : mm279.2.2.2 = 130 := sg279.1
def mm280 : Mem := cnt mm279
theorem sg280 : Sg mm280 131 := sg_C sg279 rfl rfl
theorem mc280 : mm280.2.2.2 = 131 := sg280.1
def mm281 : Mem := setR mm280 193 6 194
theorem sg281 : Sg mm281 131 := sg_R 193 6 194 sg280 rfl rfl
theorem mc281 : mm281.2.2.2 = 131 := sg281.1
def mm282 : Mem := cnt mm281
theorem sg282 : Sg mm282 132 := sg_C sg281 rfl rfl
theorem mc282 : mm282.2.2.2 = 132 := sg282.1
def mm283 : Mem := setR mm282 193 7 195
theorem sg283 : Sg mm283 132 := sg_R 193 7 195 sg282 rfl rfl
theorem mc283 : mm283.2.2.2 = 132 := sg283.1
def mm284 : Mem := cnt mm283
theorem sg284 : Sg mm284 133 := sg_C sg283 rfl rfl
theorem mc284 : mm284.2.2.2 = 133 := sg284.1
def mm285 : Mem := setR mm284 193 8 196
theorem sg285 : Sg mm285 133 := sg_R 193 8 196 sg284 rfl rfl
theorem mc285 : mm285.2.2.2 = 133 := sg285.1
def mm286 : Mem := cnt mm285
theorem sg286 : Sg mm286 134 := sg_C sg285 rfl rfl
theorem mc286 : mm286.2.2.2 = 134 := sg286.1
def mm287 : Mem := setR mm286 193 9 197
theorem sg287 : Sg mm287 134 := sg_R 193 9 197 sg286 rfl rfl
theorem mc287 : mm287.2.2.2 = 134 := sg287.1
def mm288 : Mem := setR mm287 145 5 193
theorem sg288 : Sg mm288 134 := sg_R 145 5 193 sg287 rfl rfl
theorem mc288 : mm288.2.2.2 = 134 := sg288.1
def mm289 : Mem := cnt mm288
theorem sg289 : Sg mm289 135 := sg_C sg288 rfl rfl
theorem mc289 : mm289.2.2.2 = 135 := sg289.1
def mm290 : Mem := cnt mm289
theorem sg290 : Sg mm290 136 := sg_C sg289 rfl rfl
theorem mc290 : mm290.2.2.2 = 136 := sg290.1
def mm291 : Mem := setR mm290 198 6 199
theorem sg291 : Sg mm291 136 := sg_R 198 6 199 sg290 rfl rfl
theorem mc291 : mm291.2.2.2 = 136 := sg291.1
def mm292 : Mem := cnt mm291
theorem sg292 : Sg mm292 137 := sg_C sg291 rfl rfl
theorem mc292 : mm292.2.2.2 = 137 := sg292.1
def mm293 : Mem := setR mm292 198 7 200
theorem sg293 : Sg mm293 137 := sg_R 198 7 200 sg292 rfl rfl
theorem mc293 : mm293.2.2.2 = 137 := sg293.1
def mm294 : Mem := cnt mm293
theorem sg294 : Sg mm294 138 := sg_C sg293 rfl rfl
theorem mc294 : mm294.2.2.2 = 138 := sg294.1
def mm295 : Mem := setR mm294 198 8 201
theorem sg295 : Sg mm295 138 := sg_R 198 8 201 sg294 rfl rfl
theorem mc295 : mm295.2.2.2 = 138 := sg295.1
def mm296 : Mem := cnt mm295
theorem sg296 : Sg mm296 139 := sg_C sg295 rfl rfl
theorem mc296 : mm296.2.2.2 = 139 := sg296.1
def mm297 : Mem := setR mm296 198 9 202
theorem sg297 : Sg mm297 139 := sg_R 198 9 202 sg296 rfl rfl
theorem mc297 : mm297.2.2.2 = 139 := sg297.1
def mm298 : Mem := setR mm297 145 6 198
theorem sg298 : Sg mm298 139 := sg_R 145 6 198 sg297 rfl rfl
theorem mc298 : mm298.2.2.2 = 139 := sg298.1
def mm299 : Mem := cnt mm298
theorem sg299 : Sg mm299 140 := sg_C sg298 rfl rfl
theorem mc299 : mm299.2.2.2 = 140 := sg299.1
def mm300 : Mem := cnt mm299
theorem sg300 : Sg mm300 141 := sg_C sg299 rfl rfl
theorem mc300 : mm300.2.2.2 = 141 := sg300.1
def mm301 : Mem := setR mm300 203 6 204
theorem sg301 : Sg mm301 141 := sg_R 203 6 204 sg300 rfl rfl
theorem mc301 : mm301.2.2.2 = 141 := sg301.1
def mm302 : Mem := cnt mm301
theorem sg302 : Sg mm302 142 := sg_C sg301 rfl rfl
theorem mc302 : mm302.2.2.2 = 142 := sg302.1
def mm303 : Mem := setR mm302 203 7 205
theorem sg303 : Sg mm303 142 := sg_R 203 7 205 sg302 rfl rfl
theorem mc303 : mm303.2.2.2 = 142 := sg303.1
def mm304 : Mem := cnt mm303
theorem sg304 : Sg mm304 143 := sg_C sg303 rfl rfl
theorem mc304 : mm304.2.2.2 = 143 := sg304.1
def mm305 : Mem := setR mm304 203 8 206
theorem sg305 : Sg mm305 143 := sg_R 203 8 206 sg304 rfl rfl
theorem mc305 : mm305.2.2.2 = 143 := sg305.1
def mm306 : Mem := cnt mm305
theorem sg306 : Sg mm306 144 := sg_C sg305 rfl rfl
theorem mc306 : mm306.2.2.2 = 144 := sg306.1
def mm307 : Mem := setR mm306 203 9 207
theorem sg307 : Sg mm307 144 := sg_R 203 9 207 sg306 rfl rfl
theorem mc307 : mm307.2.2.2 = 144 := sg307.1
def mm308 : Mem := setR mm307 145 7 203
theorem sg308 : Sg mm308 144 := sg_R 145 7 203 sg307 rfl rfl
theorem mc308 : mm308.2.2.2 = 144 := sg308.1
def mm309 : Mem := setI mm308 137 0 0
theorem sg309 : Sg mm309 144 := sg_I 137 0 0 sg308 rfl rfl
theorem mc309 : mm309.2.2.2 = 144 := sg309.1
def mm310 : Mem := setI mm309 137 3 0
theorem sg310 : Sg mm310 144 := sg_I 137 3 0 sg309 rfl rfl
theorem mc310 : mm310.2.2.2 = 144 := sg310.1
def mm311 : Mem := flM mm310 141 100 268435456
theorem sg311 : Sg mm311 144 := sg_F 141 100 268435456 sg310 rfl rfl
theorem mc311 : mm311.2.2.2 = 144 := sg311.1
def mm312 : Mem := setI mm311 141 0 0
theorem sg312 : Sg mm312 144 := sg_I 141 0 0 sg311 rfl rfl
theorem mc312 : mm312.2.2.2 = 144 := sg312.1
def mm313 : Mem := setI mm312 141 11 0
theorem sg313 : Sg mm313 144 := sg_I 141 11 0 sg312 rfl rfl
theorem mc313 : mm313.2.2.2 = 144 := sg313.1
def mm314 : Mem := setI mm313 141 22 0
theorem sg314 : Sg mm314 144 := sg_I 141 22 0 sg313 rfl rfl
theorem mc314 : mm314.2.2.2 = 144 := sg314.1
def mm315 : Mem := setI mm314 141 33 0
theorem sg315 : Sg mm315 144 := sg_I 141 33 0 sg314 rfl rfl
theorem mc315 : mm315.2.2.2 = 144 := sg315.1
def mm316 : Mem := setI mm315 141 44 0
theorem sg316 : Sg mm316 144 := sg_I 141 44 0 sg315 rfl rfl
theorem mc316 : mm316.2.2.2 = 144 := sg316.1
def mm317 : Mem := setI mm316 141 55 0
theorem sg317 : Sg mm317 144 := sg_I 141 55 0 sg316 rfl rfl
theorem mc317 : mm317.2.2.2 = 144 := sg317.1
def mm318 : Mem := setI mm317 141 66 0
theorem sg318 : Sg mm318 144 := sg_I 141 66 0 sg317 rfl rfl
theorem mc318 : mm318.2.2.2 = 144 := sg318.1
def mm319 : Mem := setI mm318 141 77 0
theorem sg319 : Sg mm319 144 := sg_I 141 77 0 sg318 rfl rfl
theorem mc319 : mm319.2.2.2 = 144 := sg319.1
def mm320 : Mem := setI mm319 141 88 0
theorem sg320 : Sg mm320 144 := sg_I 141 88 0 sg319 rfl rfl
theorem mc320 : mm320.2.2.2 = 144 := sg320.1
def mm321 : Mem := setI mm320 141 99 0
theorem sg321 : Sg mm321 144 := sg_I 141 99 0 sg320 rfl rfl
theorem mc321 : mm321.2.2.2 = 144 := sg321.1
def mm322 : Mem := setI mm321 140 1 0
theorem sg322 : Sg mm322 144 := sg_I 140 1 0 sg321 rfl rfl
theorem mc322 : mm322.2.2.2 = 144 := sg322.1
def mm323 : Mem := setI mm322 137 5 0
theorem sg323 : Sg mm323 144 := sg_I 137 5 0 sg322 rfl rfl
theorem mc323 : mm323.2.2.2 = 144 := sg323.1
def mm324 : Mem := setI mm323 137 7 0
theorem sg324 : Sg mm324 144 := sg_I 137 7 0 sg323 rfl rfl
theorem mc324 : mm324.2.2.2 = 144 := sg324.1
def mm325 : Mem := setI mm324 137 9 0
theorem sg325 : Sg mm325 144 := sg_I 137 9 0 sg324 rfl rfl
theorem mc325 : mm325.2.2.2 = 144 := sg325.1
def mm326 : Mem := setI mm325 137 11 0
theorem sg326 : Sg mm326 144 := sg_I 137 11 0 sg325 rfl rfl
theorem mc326 : mm326.2.2.2 = 144 := sg326.1
def mm327 : Mem := setI mm326 146 0 60
theorem sg327 : Sg mm327 144 := sg_I 146 0 60 sg326 rfl rfl
theorem mc327 : mm327.2.2.2 = 144 := sg327.1
def mm328 : Mem := setI mm327 146 1 0
theorem sg328 : Sg mm328 144 := sg_I 146 1 0 sg327 rfl rfl
theorem mc328 : mm328.2.2.2 = 144 := sg328.1
def mm329 : Mem := setI mm328 146 2 1000
theorem sg329 : Sg mm329 144 := sg_I 146 2 1000 sg328 rfl rfl
theorem mc329 : mm329.2.2.2 = 144 := sg329.1
def mm330 : Mem := setI mm329 146 3 1
theorem sg330 : Sg mm330 144 := sg_I 146 3 1 sg329 rfl rfl
theorem mc330 : mm330.2.2.2 = 144 := sg330.1
def mm331 : Mem := setR mm330 64 3 137
theorem sg331 : Sg mm331 144 := sg_R 64 3 137 sg330 rfl rfl
theorem mc331 : mm331.2.2.2 = 144 := sg331.1
def mm332 : Mem := cnt mm331
theorem sg332 : Sg mm332 145 := sg_C sg331 rfl rfl
theorem mc332 : mm332.2.2.2 = 145 := sg332.1
def mm333 : Mem := setR mm332 208 4 1
theorem sg333 : Sg mm333 145 := sg_R 208 4 1 sg332 rfl rfl
theorem mc333 : mm333.2.2.2 = 145 := sg333.1
def mm334 : Mem := cnt mm333
theorem sg334 : Sg mm334 146 := sg_C sg333 rfl rfl
theorem mc334 : mm334.2.2.2 = 146 := sg334.1
def mm335 : Mem := setR mm334 208 10 209
theorem sg335 : Sg mm335 146 := sg_R 208 10 209 sg334 rfl rfl
theorem mc335 : mm335.2.2.2 = 146 := sg335.1
def mm336 : Mem := cnt mm335
theorem sg336 : Sg mm336 147 := sg_C sg335 rfl rfl
theorem mc336 : mm336.2.2.2 = 147 := sg336.1
def mm337 : Mem := setR mm336 208 11 210
theorem sg337 : Sg mm337 147 := sg_R 208 11 210 sg336 rfl rfl
theorem mc337 : mm337.2.2.2 = 147 := sg337.1
def mm338 : Mem := cnt mm337
theorem sg338 : Sg mm338 148 := sg_C sg337 rfl rfl
theorem mc338 : mm338.2.2.2 = 148 := sg338.1
def mm339 : Mem := setR mm338 208 12 211
theorem sg339 : Sg mm339 148 := sg_R 208 12 211 sg338 rfl rfl
theorem mc339 : mm339.2.2.2 = 148 := sg339.1
def mm340 : Mem := setR mm339 208 0 65
theorem sg340 : Sg mm340 148 := sg_R 208 0 65 sg339 rfl rfl
theorem mc340 : mm340.2.2.2 = 148 := sg340.1
def mm341 : Mem := setR mm340 208 1 137
theorem sg341 : Sg mm341 148 := sg_R 208 1 137 sg340 rfl rfl
theorem mc341 : mm341.2.2.2 = 148 := sg341.1
def mm342 : Mem := setR mm341 64 4 208
theorem sg342 : Sg mm342 148 := sg_R 64 4 208 sg341 rfl rfl
theorem mc342 : mm342.2.2.2 = 148 := sg342.1
def mm343 : Mem := cnt mm342
theorem sg343 : Sg mm343 149 := sg_C sg342 rfl rfl
theorem mc343 : mm343.2.2.2 = 149 := sg343.1
def mm344 : Mem := cnt mm343
theorem sg344 : Sg mm344 150 := sg_C sg343 rfl rfl
theorem mc344 : mm344.2.2.2 = 150 := sg344.1
def mm345 : Mem := cnt mm344
theorem sg345 : Sg mm345 151 := sg_C sg344 rfl rfl
theorem mc345 : mm345.2.2.2 = 151 := sg345.1
def mm346 : Mem := setR mm345 213 0 214
theorem sg346 : Sg mm346 151 := sg_R 213 0 214 sg345 rfl rfl
theorem mc346 : mm346.2.2.2 = 151 := sg346.1
def mm347 : Mem := setR mm346 212 0 213
theorem sg347 : Sg mm347 151 := sg_R 212 0 213 sg346 rfl rfl
theorem mc347 : mm347.2.2.2 = 151 := sg347.1
def mm348 : Mem := cnt mm347
theorem sg348 : Sg mm348 152 := sg_C sg347 rfl rfl
theorem mc348 : mm348.2.2.2 = 152 := sg348.1
def mm349 : Mem := cnt mm348
theorem sg349 : Sg mm349 153 := sg_C sg348 rfl rfl
theorem mc349 : mm349.2.2.2 = 153 := sg349.1
def mm350 : Mem := setR mm349 215 0 216
theorem sg350 : Sg mm350 153 := sg_R 215 0 216 sg349 rfl rfl
theorem mc350 : mm350.2.2.2 = 153 := sg350.1
def mm351 : Mem := setR mm350 212 1 215
theorem sg351 : Sg mm351 153 := sg_R 212 1 215 sg350 rfl rfl
theorem mc351 : mm351.2.2.2 = 153 := sg351.1
def mm352 : Mem := setR mm351 64 5 212
theorem sg352 : Sg mm352 153 := sg_R 64 5 212 sg351 rfl rfl
theorem mc352 : mm352.2.2.2 = 153 := sg352.1
def mm353 : Mem := cnt mm352
theorem sg353 : Sg mm353 154 := sg_C sg352 rfl rfl
theorem mc353 : mm353.2.2.2 = 154 := sg353.1
def mm354 : Mem := cnt mm353
theorem sg354 : Sg mm354 155 := sg_C sg353 rfl rfl
theorem mc354 : mm354.2.2.2 = 155 := sg354.1
def mm355 : Mem := setR mm354 217 4 218
theorem sg355 : Sg mm355 155 := sg_R 217 4 218 sg354 rfl rfl
theorem mc355 : mm355.2.2.2 = 155 := sg355.1
def mm356 : Mem := cnt mm355
theorem sg356 : Sg mm356 156 := sg_C sg355 rfl rfl
theorem mc356 : mm356.2.2.2 = 156 := sg356.1
def mm357 : Mem := setR mm356 217 5 219
theorem sg357 : Sg mm357 156 := sg_R 217 5 219 sg356 rfl rfl
theorem mc357 : mm357.2.2.2 = 156 := sg357.1
def mm358 : Mem := cnt mm357
theorem sg358 : Sg mm358 157 := sg_C sg357 rfl rfl
theorem mc358 : mm358.2.2.2 = 157 := sg358.1
def mm359 : Mem := setR mm358 217 6 220
theorem sg359 : Sg mm359 157 := sg_R 217 6 220 sg358 rfl rfl
theorem mc359 : mm359.2.2.2 = 157 := sg359.1
def mm360 : Mem := cnt mm359
theorem sg360 : Sg mm360 158 := sg_C sg359 rfl rfl
theorem mc360 : mm360.2.2.2 = 158 := sg360.1
def mm361 : Mem := setR mm360 217 7 221
theorem sg361 : Sg mm361 158 := sg_R 217 7 221 sg360 rfl rfl
theorem mc361 : mm361.2.2.2 = 158 := sg361.1
def mm362 : Mem := cnt mm361
theorem sg362 : Sg mm362 159 := sg_C sg361 rfl rfl
theorem mc362 : mm362.2.2.2 = 159 := sg362.1
def mm363 : Mem := setR mm362 217 8 222
theorem sg363 : Sg mm363 159 := sg_R 217 8 222 sg362 rfl rfl
theorem mc363 : mm363.2.2.2 = 159 := sg363.1
def mm364 : Mem := setR mm363 64 6 217
theorem sg364 : Sg mm364 159 := sg_R 64 6 217 sg363 rfl rfl
theorem mc364 : mm364.2.2.2 = 159 := sg364.1
def mm365 : Mem := cnt mm364
theorem sg365 : Sg mm365 160 := sg_C sg364 rfl rfl
theorem mc365 : mm365.2.2.2 = 160 := sg365.1
def mm366 : Mem := setR mm365 64 7 223
theorem sg366 : Sg mm366 160 := sg_R 64 7 223 sg365 rfl rfl
theorem mc366 : mm366.2.2.2 = 160 := sg366.1
def mm367 : Mem := cnt mm366
theorem sg367 : Sg mm367 161 := sg_C sg366 rfl rfl
theorem mc367 : mm367.2.2.2 = 161 := sg367.1
def mm368 : Mem := setR mm367 64 10 224
theorem sg368 : Sg mm368 161 := sg_R 64 10 224 sg367 rfl rfl
theorem mc368 : mm368.2.2.2 = 161 := sg368.1
def mm369 : Mem := cnt mm368
theorem sg369 : Sg mm369 162 := sg_C sg368 rfl rfl
theorem mc369 : mm369.2.2.2 = 162 := sg369.1
def mm370 : Mem := setR mm369 64 11 225
theorem sg370 : Sg mm370 162 := sg_R 64 11 225 sg369 rfl rfl
theorem mc370 : mm370.2.2.2 = 162 := sg370.1
def mm371 : Mem := cnt mm370
theorem sg371 : Sg mm371 163 := sg_C sg370 rfl rfl
theorem mc371 : mm371.2.2.2 = 163 := sg371.1
def mm372 : Mem := setR mm371 64 12 226
theorem sg372 : Sg mm372 163 := sg_R 64 12 226 sg371 rfl rfl
theorem mc372 : mm372.2.2.2 = 163 := sg372.1
def mm373 : Mem := cnt mm372
theorem sg373 : Sg mm373 164 := sg_C sg372 rfl rfl
theorem mc373 : mm373.2.2.2 = 164 := sg373.1
def mm374 : Mem := cnt mm373
theorem sg374 : Sg mm374 165 := sg_C sg373 rfl rfl
theorem mc374 : mm374.2.2.2 = 165 := sg374.1
def mm375 : Mem := setR mm374 227 4 228
theorem sg375 : Sg mm375 165 := sg_R 227 4 228 sg374 rfl rfl
theorem mc375 : mm375.2.2.2 = 165 := sg375.1
def mm376 : Mem := cnt mm375
theorem sg376 : Sg mm376 166 := sg_C sg375 rfl rfl
theorem mc376 : mm376.2.2.2 = 166 := sg376.1
def mm377 : Mem := setR mm376 227 5 229
theorem sg377 : Sg mm377 166 := sg_R 227 5 229 sg376 rfl rfl
theorem mc377 : mm377.2.2.2 = 166 := sg377.1
def mm378 : Mem := cnt mm377
theorem sg378 : Sg mm378 167 := sg_C sg377 rfl rfl
theorem mc378 : mm378.2.2.2 = 167 := sg378.1
def mm379 : Mem := setR mm378 227 6 230
theorem sg379 : Sg mm379 167 := sg_R 227 6 230 sg378 rfl rfl
theorem mc379 : mm379.2.2.2 = 167 := sg379.1
def mm380 : Mem := cnt mm379
theorem sg380 : Sg mm380 168 := sg_C sg379 rfl rfl
theorem mc380 : mm380.2.2.2 = 168 := sg380.1
def mm381 : Mem := setR mm380 227 7 231
theorem sg381 : Sg mm381 168 := sg_R 227 7 231 sg380 rfl rfl
theorem mc381 : mm381.2.2.2 = 168 := sg381.1
def mm382 : Mem := cnt mm381
theorem sg382 : Sg mm382 169 := sg_C sg381 rfl rfl
theorem mc382 : mm382.2.2.2 = 169 := sg382.1
def mm383 : Mem := setR mm382 227 8 232
theorem sg383 : Sg mm383 169 := sg_R 227 8 232 sg382 rfl rfl
theorem mc383 : mm383.2.2.2 = 169 := sg383.1
def mm384 : Mem := setR mm383 223 0 227
theorem sg384 : Sg mm384 169 := sg_R 223 0 227 sg383 rfl rfl
theorem mc384 : mm384.2.2.2 = 169 := sg384.1
def mm385 : Mem := cnt mm384
theorem sg385 : Sg mm385 170 := sg_C sg384 rfl rfl
theorem mc385 : mm385.2.2.2 = 170 := sg385.1
def mm386 : Mem := cnt mm385
theorem sg386 : Sg mm386 171 := sg_C sg385 rfl rfl
theorem mc386 : mm386.2.2.2 = 171 := sg386.1
def mm387 : Mem := setR mm386 233 4 234
theorem sg387 : Sg mm387 171 := sg_R 233 4 234 sg386 rfl rfl
theorem mc387 : mm387.2.2.2 = 171 := sg387.1
def mm388 : Mem := cnt mm387
theorem sg388 : Sg mm388 172 := sg_C sg387 rfl rfl
theorem mc388 : mm388.2.2.2 = 172 := sg388.1
def mm389 : Mem := setR mm388 233 5 235
theorem sg389 : Sg mm389 172 := sg_R 233 5 235 sg388 rfl rfl
theorem mc389 : mm389.2.2.2 = 172 := sg389.1
def mm390 : Mem := cnt mm389
theorem sg390 : Sg mm390 173 := sg_C sg389 rfl rfl
theorem mc390 : mm390.2.2.2 = 173 := sg390.1
def mm391 : Mem := setR mm390 233 6 236
theorem sg391 : Sg mm391 173 := sg_R 233 6 236 sg390 rfl rfl
theorem mc391 : mm391.2.2.2 = 173 := sg391.1
def mm392 : Mem := cnt mm391
theorem sg392 : Sg mm392 174 := sg_C sg391 rfl rfl
theorem mc392 : mm392.2.2.2 = 174 := sg392.1
def mm393 : Mem := setR mm392 233 7 237
theorem sg393 : Sg mm393 174 := sg_R 233 7 237 sg392 rfl rfl
theorem mc393 : mm393.2.2.2 = 174 := sg393.1
def mm394 : Mem := cnt mm393
theorem sg394 : Sg mm394 175 := sg_C sg393 rfl rfl
theorem mc394 : mm394.2.2.2 = 175 := sg394.1
def mm395 : Mem := setR mm394 233 8 238
theorem sg395 : Sg mm395 175 := sg_R 233 8 238 sg394 rfl rfl
theorem mc395 : mm395.2.2.2 = 175 := sg395.1
def mm396 : Mem := setR mm395 223 1 233
theorem sg396 : Sg mm396 175 := sg_R 223 1 233 sg395 rfl rfl
theorem mc396 : mm396.2.2.2 = 175 := sg396.1
def mm397 : Mem := cnt mm396
theorem sg397 : Sg mm397 176 := sg_C sg396 rfl rfl
theorem mc397 : mm397.2.2.2 = 176 := sg397.1
def mm398 : Mem := cnt mm397
theorem sg398 : Sg mm398 177 := sg_C sg397 rfl rfl
theorem mc398 : mm398.2.2.2 = 177 := sg398.1
def mm399 : Mem := setR mm398 239 4 240
theorem sg399 : Sg mm399 177 := sg_R 239 4 240 sg398 rfl rfl
theorem mc399 : mm399.2.2.2 = 177 := sg399.1
def mm400 : Mem := cnt mm399
theorem sg400 : Sg mm400 178 := sg_C sg399 rfl rfl
theorem mc400 : mm400.2.2.2 = 178 := sg400.1
def mm401 : Mem := setR mm400 239 5 241
theorem sg401 : Sg mm401 178 := sg_R 239 5 241 sg400 rfl rfl
theorem mc401 : mm401.2.2.2 = 178 := sg401.1
def mm402 : Mem := cnt mm401
theorem sg402 : Sg mm402 179 := sg_C sg401 rfl rfl
theorem mc402 : mm402.2.2.2 = 179 := sg402.1
def mm403 : Mem := setR mm402 239 6 242
theorem sg403 : Sg mm403 179 := sg_R 239 6 242 sg402 rfl rfl
theorem mc403 : mm403.2.2.2 = 179 := sg403.1
def mm404 : Mem := cnt mm403
theorem sg404 : Sg mm404 180 := sg_C sg403 rfl rfl
theorem mc404 : mm404.2.2.2 = 180 := sg404.1
def mm405 : Mem := setR mm404 239 7 243
theorem sg405 : Sg mm405 180 := sg_R 239 7 243 sg404 rfl rfl
theorem mc405 : mm405.2.2.2 = 180 := sg405.1
def mm406 : Mem := cnt mm405
theorem sg406 : Sg mm406 181 := sg_C sg405 rfl rfl
theorem mc406 : mm406.2.2.2 = 181 := sg406.1
def mm407 : Mem := setR mm406 239 8 244
theorem sg407 : Sg mm407 181 := sg_R 239 8 244 sg406 rfl rfl
theorem mc407 : mm407.2.2.2 = 181 := sg407.1
def mm408 : Mem := setR mm407 223 2 239
theorem sg408 : Sg mm408 181 := sg_R 223 2 239 sg407 rfl rfl
theorem mc408 : mm408.2.2.2 = 181 := sg408.1
def mm409 : Mem := cnt mm408
theorem sg409 : Sg mm409 182 := sg_C sg408 rfl rfl
theorem mc409 : mm409.2.2.2 = 182 := sg409.1
def mm410 : Mem := cnt mm409
theorem sg410 : Sg mm410 183 := sg_C sg409 rfl rfl
theorem mc410 : mm410.2.2.2 = 183 := sg410.1
def mm411 : Mem := setR mm410 245 4 246
theorem sg411 : Sg mm411 183 := sg_R 245 4 246 sg410 rfl rfl
theorem mc411 : mm411.2.2.2 = 183 := sg411.1
def mm412 : Mem := cnt mm411
theorem sg412 : Sg mm412 184 := sg_C sg411 rfl rfl
theorem mc412 : mm412.2.2.2 = 184 := sg412.1
def mm413 : Mem := setR mm412 245 5 247
theorem sg413 : Sg mm413 184 := sg_R 245 5 247 sg412 rfl rfl
theorem mc413 : mm413.2.2.2 = 184 := sg413.1
def mm414 : Mem := cnt mm413
theorem sg414 : Sg mm414 185 := sg_C sg413 rfl rfl
theorem mc414 : mm414.2.2.2 = 185 := sg414.1
def mm415 : Mem := setR mm414 245 6 248
theorem sg415 : Sg mm415 185 := sg_R 245 6 248 sg414 rfl rfl
theorem mc415 : mm415.2.2.2 = 185 := sg415.1
def mm416 : Mem := cnt mm415
theorem sg416 : Sg mm416 186 := sg_C sg415 rfl rfl
theorem mc416 : mm416.2.2.2 = 186 := sg416.1
def mm417 : Mem := setR mm416 245 7 249
theorem sg417 : Sg mm417 186 := sg_R 245 7 249 sg416 rfl rfl
theorem mc417 : mm417.2.2.2 = 186 := sg417.1
def mm418 : Mem := cnt mm417
theorem sg418 : Sg mm418 187 := sg_C sg417 rfl rfl
theorem mc418 : mm418.2.2.2 = 187 := sg418.1
def mm419 : Mem := setR mm418 245 8 250
theorem sg419 : Sg mm419 187 := sg_R 245 8 250 sg418 rfl rfl
theorem mc419 : mm419.2.2.2 = 187 := sg419.1
def mm420 : Mem := setR mm419 223 3 245
theorem sg420 : Sg mm420 187 := sg_R 223 3 245 sg419 rfl rfl
theorem mc420 : mm420.2.2.2 = 187 := sg420.1
def mm421 : Mem := cnt mm420
theorem sg421 : Sg mm421 188 := sg_C sg420 rfl rfl
theorem mc421 : mm421.2.2.2 = 188 := sg421.1
def mm422 : Mem := cnt mm421
theorem sg422 : Sg mm422 189 := sg_C sg421 rfl rfl
theorem mc422 : mm422.2.2.2 = 189 := sg422.1
def mm423 : Mem := setR mm422 251 4 252
theorem sg423 : Sg mm423 189 := sg_R 251 4 252 sg422 rfl rfl
theorem mc423 : mm423.2.2.2 = 189 := sg423.1
def mm424 : Mem := cnt mm423
theorem sg424 : Sg mm424 190 := sg_C sg423 rfl rfl
theorem mc424 : mm424.2.2.2 = 190 := sg424.1
def mm425 : Mem := setR mm424 251 5 253
theorem sg425 : Sg mm425 190 := sg_R 251 5 253 sg424 rfl rfl
theorem mc425 : mm425.2.2.2 = 190 := sg425.1
def mm426 : Mem := cnt mm425
theorem sg426 : Sg mm426 191 := sg_C sg425 rfl rfl
theorem mc426 : mm426.2.2.2 = 191 := sg426.1
def mm427 : Mem := setR mm426 251 6 254
theorem sg427 : Sg mm427 191 := sg_R 251 6 254 sg426 rfl rfl
theorem mc427 : mm427.2.2.2 = 191 := sg427.1
def mm428 : Mem := cnt mm427
theorem sg428 : Sg mm428 192 := sg_C sg427 rfl rfl
theorem mc428 : mm428.2.2.2 = 192 := sg428.1
def mm429 : Mem := setR mm428 251 7 255
theorem sg429 : Sg mm429 192 := sg_R 251 7 255 sg428 rfl rfl
theorem mc429 : mm429.2.2.2 = 192 := sg429.1
def mm430 : Mem := cnt mm429
theorem sg430 : Sg mm430 193 := sg_C sg429 rfl rfl
theorem mc430 : mm430.2.2.2 = 193 := sg430.1
def mm431 : Mem := setR mm430 251 8 256
theorem sg431 : Sg mm431 193 := sg_R 251 8 256 sg430 rfl rfl
theorem mc431 : mm431.2.2.2 = 193 := sg431.1
def mm432 : Mem := setR mm431 223 4 251
theorem sg432 : Sg mm432 193 := sg_R 223 4 251 sg431 rfl rfl
theorem mc432 : mm432.2.2.2 = 193 := sg432.1
def mm433 : Mem := cnt mm432
theorem sg433 : Sg mm433 194 := sg_C sg432 rfl rfl
theorem mc433 : mm433.2.2.2 = 194 := sg433.1
def mm434 : Mem := cnt mm433
theorem sg434 : Sg mm434 195 := sg_C sg433 rfl rfl
theorem mc434 : mm434.2.2.2 = 195 := sg434.1
def mm435 : Mem := setR mm434 257 4 258
theorem sg435 : Sg mm435 195 := sg_R 257 4 258 sg434 rfl rfl
theorem mc435 : mm435.2.2.2 = 195 := sg435.1
def mm436 : Mem := cnt mm435
theorem sg436 : Sg mm436 196 := sg_C sg435 rfl rfl
theorem mc436 : mm436.2.2.2 = 196 := sg436.1
def mm437 : Mem := setR mm436 257 5 259
theorem sg437 : Sg mm437 196 := sg_R 257 5 259 sg436 rfl rfl
theorem mc437 : mm437.2.2.2 = 196 := sg437.1
def mm438 : Mem := cnt mm437
theorem sg438 : Sg mm438 197 := sg_C sg437 rfl rfl
theorem mc438 : mm438.2.2.2 = 197 := sg438.1
def mm439 : Mem := setR mm438 257 6 260
theorem sg439 : Sg mm439 197 := sg_R 257 6 260 sg438 rfl rfl
theorem mc439 : mm439.2.2.2 = 197 := sg439.1
def mm440 : Mem := cnt mm439
theorem sg440 : Sg mm440 198 := sg_C sg439 rfl rfl
theorem mc440 : mm440.2.2.2 = 198 := sg440.1
def mm441 : Mem := setR mm440 257 7 261
theorem sg441 : Sg mm441 198 := sg_R 257 7 261 sg440 rfl rfl
theorem mc441 : mm441.2.2.2 = 198 := sg441.1
def mm442 : Mem := cnt mm441
theorem sg442 : Sg mm442 199 := sg_C sg441 rfl rfl
theorem mc442 : mm442.2.2.2 = 199 := sg442.1
def mm443 : Mem := setR mm442 257 8 262
theorem sg443 : Sg mm443 199 := sg_R 257 8 262 sg442 rfl rfl
theorem mc443 : mm443.2.2.2 = 199 := sg443.1
def mm444 : Mem := setR mm443 223 5 257
theorem sg444 : Sg mm444 199 := sg_R 223 5 257 sg443 rfl rfl
theorem mc444 : mm444.2.2.2 = 199 := sg444.1
def mm445 : Mem := cnt mm444
theorem sg445 : Sg mm445 200 := sg_C sg444 rfl rfl
theorem mc445 : mm445.2.2.2 = 200 := sg445.1
def mm446 : Mem := cnt mm445
theorem sg446 : Sg mm446 201 := sg_C sg445 rfl rfl
theorem mc446 : mm446.2.2.2 = 201 := sg446.1
def mm447 : Mem := setR mm446 263 4 264
theorem sg447 : Sg mm447 201 := sg_R 263 4 264 sg446 rfl rfl
theorem mc447 : mm447.2.2.2 = 201 := sg447.1
def mm448 : Mem := cnt mm447
theorem sg448 : Sg mm448 202 := sg_C sg447 rfl rfl
theorem mc448 : mm448.2.2.2 = 202 := sg448.1
def mm449 : Mem := setR mm448 263 5 265
theorem sg449 : Sg mm449 202 := sg_R 263 5 265 sg448 rfl rfl
theorem mc449 : mm449.2.2.2 = 202 := sg449.1
def mm450 : Mem := cnt mm449
theorem sg450 : Sg mm450 203 := sg_C sg449 rfl rfl
theorem mc450 : mm450.2.2.2 = 203 := sg450.1
def mm451 : Mem := setR mm450 263 6 266
theorem sg451 : Sg mm451 203 := sg_R 263 6 266 sg450 rfl rfl
theorem mc451 : mm451.2.2.2 = 203 := sg451.1
def mm452 : Mem := cnt mm451
theorem sg452 : Sg mm452 204 := sg_C sg451 rfl rfl
theorem mc452 : mm452.2.2.2 = 204 := sg452.1
def mm453 : Mem := setR mm452 263 7 267
theorem sg453 : Sg mm453 204 := sg_R 263 7 267 sg452 rfl rfl
theorem mc453 : mm453.2.2.2 = 204 := sg453.1
def mm454 : Mem := cnt mm453
theorem sg454 : Sg mm454 205 := sg_C sg453 rfl rfl
theorem mc454 : mm454.2.2.2 = 205 := sg454.1
def mm455 : Mem := setR mm454 263 8 268
theorem sg455 : Sg mm455 205 := sg_R 263 8 268 sg454 rfl rfl
theorem mc455 : mm455.2.2.2 = 205 := sg455.1
def mm456 : Mem := setR mm455 223 6 263
theorem sg456 : Sg mm456 205 := sg_R 223 6 263 sg455 rfl rfl
theorem mc456 : mm456.2.2.2 = 205 := sg456.1
def mm457 : Mem := cnt mm456
theorem sg457 : Sg mm457 206 := sg_C sg456 rfl rfl
theorem mc457 : mm457.2.2.2 = 206 := sg457.1
def mm458 : Mem := cnt mm457
theorem sg458 : Sg mm458 207 := sg_C sg457 rfl rfl
theorem mc458 : mm458.2.2.2 = 207 := sg458.1
def mm459 : Mem := setR mm458 269 4 270
theorem sg459 : Sg mm459 207 := sg_R 269 4 270 sg458 rfl rfl
theorem mc459 : mm459.2.2.2 = 207 := sg459.1
def mm460 : Mem := cnt mm459
theorem sg460 : Sg mm460 208 := sg_C sg459 rfl rfl
theorem mc460 : mm460.2.2.2 = 208 := sg460.1
def mm461 : Mem := setR mm460 269 5 271
theorem sg461 : Sg mm461 208 := sg_R 269 5 271 sg460 rfl rfl
theorem mc461 : mm461.2.2.2 = 208 := sg461.1
def mm462 : Mem := cnt mm461
theorem sg462 : Sg mm462 209 := sg_C sg461 rfl rfl
theorem mc462 : mm462.2.2.2 = 209 := sg462.1
def mm463 : Mem := setR mm462 269 6 272
theorem sg463 : Sg mm463 209 := sg_R 269 6 272 sg462 rfl rfl
theorem mc463 : mm463.2.2.2 = 209 := sg463.1
def mm464 : Mem := cnt mm463
theorem sg464 : Sg mm464 210 := sg_C sg463 rfl rfl
theorem mc464 : mm464.2.2.2 = 210 := sg464.1
def mm465 : Mem := setR mm464 269 7 273
theorem sg465 : Sg mm465 210 := sg_R 269 7 273 sg464 rfl rfl
theorem mc465 : mm465.2.2.2 = 210 := sg465.1
def mm466 : Mem := cnt mm465
theorem sg466 : Sg mm466 211 := sg_C sg465 rfl rfl
theorem mc466 : mm466.2.2.2 = 211 := sg466.1
def mm467 : Mem := setR mm466 269 8 274
theorem sg467 : Sg mm467 211 := sg_R 269 8 274 sg466 rfl rfl
theorem mc467 : mm467.2.2.2 = 211 := sg467.1
def mm468 : Mem := setR mm467 223 7 269
theorem sg468 : Sg mm468 211 := sg_R 223 7 269 sg467 rfl rfl
theorem mc468 : mm468.2.2.2 = 211 := sg468.1
def mm469 : Mem := cnt mm468
theorem sg469 : Sg mm469 212 := sg_C sg468 rfl rfl
theorem mc469 : mm469.2.2.2 = 212 := sg469.1
def mm470 : Mem := cnt mm469
theorem sg470 : Sg mm470 213 := sg_C sg469 rfl rfl
theorem mc470 : mm470.2.2.2 = 213 := sg470.1
def mm471 : Mem := setR mm470 275 4 276
theorem sg471 : Sg mm471 213 := sg_R 275 4 276 sg470 rfl rfl
theorem mc471 : mm471.2.2.2 = 213 := sg471.1
def mm472 : Mem := cnt mm471
theorem sg472 : Sg mm472 214 := sg_C sg471 rfl rfl
theorem mc472 : mm472.2.2.2 = 214 := sg472.1
def mm473 : Mem := setR mm472 275 5 277
theorem sg473 : Sg mm473 214 := sg_R 275 5 277 sg472 rfl rfl
theorem mc473 : mm473.2.2.2 = 214 := sg473.1
def mm474 : Mem := cnt mm473
theorem sg474 : Sg mm474 215 := sg_C sg473 rfl rfl
theorem mc474 : mm474.2.2.2 = 215 := sg474.1
def mm475 : Mem := setR mm474 275 6 278
theorem sg475 : Sg mm475 215 := sg_R 275 6 278 sg474 rfl rfl
theorem mc475 : mm475.2.2.2 = 215 := sg475.1
def mm476 : Mem := cnt mm475
theorem sg476 : Sg mm476 216 := sg_C sg475 rfl rfl
theorem mc476 : mm476.2.2.2 = 216 := sg476.1
def mm477 : Mem := setR mm476 275 7 279
theorem sg477 : Sg mm477 216 := sg_R 275 7 279 sg476 rfl rfl
theorem mc477 : mm477.2.2.2 = 216 := sg477.1
def mm478 : Mem := cnt mm477
theorem sg478 : Sg mm478 217 := sg_C sg477 rfl rfl
theorem mc478 : mm478.2.2.2 = 217 := sg478.1
def mm479 : Mem := setR mm478 275 8 280
theorem sg479 : Sg mm479 217 := sg_R 275 8 280 sg478 rfl rfl
theorem mc479 : mm479.2.2.2 = 217 := sg479.1
def mm480 : Mem := setR mm479 223 8 275
theorem sg480 : Sg mm480 217 := sg_R 223 8 275 sg479 rfl rfl
theorem mc480 : mm480.2.2.2 = 217 := sg480.1
def mm481 : Mem := cnt mm480
theorem sg481 : Sg mm481 218 := sg_C sg480 rfl rfl
theorem mc481 : mm481.2.2.2 = 218 := sg481.1
def mm482 : Mem := cnt mm481
theorem sg482 : Sg mm482 219 := sg_C sg481 rfl rfl
theorem mc482 : mm482.2.2.2 = 219 := sg482.1
def mm483 : Mem := setR mm482 281 4 282
theorem sg483 : Sg mm483 219 := sg_R 281 4 282 sg482 rfl rfl
theorem mc483 : mm483.2.2.2 = 219 := sg483.1
def mm484 : Mem := cnt mm483
theorem sg484 : Sg mm484 220 := sg_C sg483 rfl rfl
theorem mc484 : mm484.2.2.2 = 220 := sg484.1
def mm485 : Mem := setR mm484 281 5 283
theorem sg485 : Sg mm485 220 := sg_R 281 5 283 sg484 rfl rfl
theorem mc485 : mm485.2.2.2 = 220 := sg485.1
def mm486 : Mem := cnt mm485
theorem sg486 : Sg mm486 221 := sg_C sg485 rfl rfl
theorem mc486 : mm486.2.2.2 = 221 := sg486.1
def mm487 : Mem := setR mm486 281 6 284
theorem sg487 : Sg mm487 221 := sg_R 281 6 284 sg486 rfl rfl
theorem mc487 : mm487.2.2.2 = 221 := sg487.1
def mm488 : Mem := cnt mm487
theorem sg488 : Sg mm488 222 := sg_C sg487 rfl rfl
theorem mc488 : mm488.2.2.2 = 222 := sg488.1
def mm489 : Mem := setR mm488 281 7 285
theorem sg489 : Sg mm489 222 := sg_R 281 7 285 sg488 rfl rfl
theorem mc489 : mm489.2.2.2 = 222 := sg489.1
def mm490 : Mem := cnt mm489
theorem sg490 : Sg mm490 223 := sg_C sg489 rfl rfl
theorem mc490 : mm490.2.2.2 = 223 := sg490.1
def mm491 : Mem := setR mm490 281 8 286
theorem sg491 : Sg mm491 223 := sg_R 281 8 286 sg490 rfl rfl
theorem mc491 : mm491.2.2.2 = 223 := sg491.1
def mm492 : Mem := setR mm491 223 9 281
theorem sg492 : Sg mm492 223 := sg_R 223 9 281 sg491 rfl rfl
theorem mc492 : mm492.2.2.2 = 223 := sg492.1
def mm493 : Mem := cnt mm492
theorem sg493 : Sg mm493 224 := sg_C sg492 rfl rfl
theorem mc493 : mm493.2.2.2 = 224 := sg493.1
def mm494 : Mem := cnt mm493
theorem sg494 : Sg mm494 225 := sg_C sg493 rfl rfl
theorem mc494 : mm494.2.2.2 = 225 := sg494.1
def mm495 : Mem := setR mm494 287 4 288
theorem sg495 : Sg mm495 225 := sg_R 287 4 288 sg494 rfl rfl
theorem mc495 : mm495.2.2.2 = 225 := sg495.1
def mm496 : Mem := cnt mm495
theorem sg496 : Sg mm496 226 := sg_C sg495 rfl rfl
theorem mc496 : mm496.2.2.2 = 226 := sg496.1
def mm497 : Mem := setR mm496 287 5 289
theorem sg497 : Sg mm497 226 := sg_R 287 5 289 sg496 rfl rfl
theorem mc497 : mm497.2.2.2 = 226 := sg497.1
def mm498 : Mem := cnt mm497
theorem sg498 : Sg mm498 227 := sg_C sg497 rfl rfl
theorem mc498 : mm498.2.2.2 = 227 := sg498.1
def mm499 : Mem := setR mm498 287 6 290
theorem sg499 : Sg mm499 227 := sg_R 287 6 290 sg498 rfl rfl
theorem mc499 : mm499.2.2.2 = 227 := sg499.1
def mm500 : Mem := cnt mm499
theorem sg500 : Sg mm500 228 := sg_C sg499 rfl rfl
theorem mc500 : mm500.2.2.2 = 228 := sg500.1
def mm501 : Mem := setR mm500 287 7 291
theorem sg501 : Sg mm501 228 := sg_R 287 7 291 sg500 rfl rfl
theorem mc501 : mm501.2.2.2 = 228 := sg501.1
def mm502 : Mem := cnt mm501
theorem sg502 : Sg mm502 229 := sg_C sg501 rfl rfl
theorem mc502 : mm502.2.2.2 = 229 := sg502.1
def mm503 : Mem := setR mm502 287 8 292
theorem sg503 : Sg mm503 229 := sg_R 287 8 292 sg502 rfl rfl
theorem mc503 : mm503.2.2.2 = 229 := sg503.1
def mm504 : Mem := setR mm503 223 10 287
theorem sg504 : Sg mm504 229 := sg_R 223 10 287 sg503 rfl rfl
theorem mc504 : mm504.2.2.2 = 229 := sg504.1
def mm505 : Mem := cnt mm504
theorem sg505 : Sg mm505 230 := sg_C sg504 rfl rfl
theorem mc505 : mm505.2.2.2 = 230 := sg505.1
def mm506 : Mem := cnt mm505
theorem sg506 : Sg mm506 231 := sg_C sg505 rfl rfl
theorem mc506 : mm506.2.2.2 = 231 := sg506.1
def mm507 : Mem := setR mm506 293 4 294
theorem sg507 : Sg mm507 231 := sg_R 293 4 294 sg506 rfl rfl
theorem mc507 : mm507.2.2.2 = 231 := sg507.1
def mm508 : Mem := cnt mm507
theorem sg508 : Sg mm508 232 := sg_C sg507 rfl rfl
theorem mc508 : mm508.2.2.2 = 232 := sg508.1
def mm509 : Mem := setR mm508 293 5 295
theorem sg509 : Sg mm509 232 := sg_R 293 5 295 sg508 rfl rfl
theorem mc509 : mm509.2.2.2 = 232 := sg509.1
def mm510 : Mem := cnt mm509
theorem sg510 : Sg mm510 233 := sg_C sg509 rfl rfl
theorem mc510 : mm510.2.2.2 = 233 := sg510.1
def mm511 : Mem := setR mm510 293 6 296
theorem sg511 : Sg mm511 233 := sg_R 293 6 296 sg510 rfl rfl
theorem mc511 : mm511.2.2.2 = 233 := sg511.1
def mm512 : Mem := cnt mm511
theorem sg512 : Sg mm512 234 := sg_C sg511 rfl rfl
theorem mc512 : mm512.2.2.2 = 234 := sg512.1
def mm513 : Mem := setR mm512 293 7 297
theorem sg513 : Sg mm513 234 := sg_R 293 7 297 sg512 rfl rfl
theorem mc513 : mm513.2.2.2 = 234 := sg513.1
def mm514 : Mem := cnt mm513
theorem sg514 : Sg mm514 235 := sg_C sg513 rfl rfl
theorem mc514 : mm514.2.2.2 = 235 := sg514.1
def mm515 : Mem := setR mm514 293 8 298
theorem sg515 : Sg mm515 235 := sg_R 293 8 298 sg514 rfl rfl
theorem mc515 : mm515.2.2.2 = 235 := sg515.1
def mm516 : Mem := setR mm515 223 11 293
theorem sg516 : Sg mm516 235 := sg_R 223 11 293 sg515 rfl rfl
theorem mc516 : mm516.2.2.2 = 235 := sg516.1
def mm517 : Mem := cnt mm516
theorem sg517 : Sg mm517 236 := sg_C sg516 rfl rfl
theorem mc517 : mm517.2.2.2 = 236 := sg517.1
def mm518 : Mem := cnt mm517
theorem sg518 : Sg mm518 237 := sg_C sg517 rfl rfl
theorem mc518 : mm518.2.2.2 = 237 := sg518.1
def mm519 : Mem := setR mm518 299 4 300
theorem sg519 : Sg mm519 237 := sg_R 299 4 300 sg518 rfl rfl
theorem mc519 : mm519.2.2.2 = 237 := sg519.1
def mm520 : Mem := cnt mm519
theorem sg520 : Sg mm520 238 := sg_C sg519 rfl rfl
theorem mc520 : mm520.2.2.2 = 238 := sg520.1
def mm521 : Mem := setR mm520 299 5 301
theorem sg521 : Sg mm521 238 := sg_R 299 5 301 sg520 rfl rfl
theorem mc521 : mm521.2.2.2 = 238 := sg521.1
def mm522 : Mem := cnt mm521
theorem sg522 : Sg mm522 239 := sg_C sg521 rfl rfl
theorem mc522 : mm522.2.2.2 = 239 := sg522.1
def mm523 : Mem := setR mm522 299 6 302
theorem sg523 : Sg mm523 239 := sg_R 299 6 302 sg522 rfl rfl
theorem mc523 : mm523.2.2.2 = 239 := sg523.1
def mm524 : Mem := cnt mm523
theorem sg524 : Sg mm524 240 := sg_C sg523 rfl rfl
theorem mc524 : mm524.2.2.2 = 240 := sg524.1
def mm525 : Mem := setR mm524 299 7 303
theorem sg525 : Sg mm525 240 := sg_R 299 7 303 sg524 rfl rfl
theorem mc525 : mm525.2.2.2 = 240 := sg525.1
def mm526 : Mem := cnt mm525
theorem sg526 : Sg mm526 241 := sg_C sg525 rfl rfl
theorem mc526 : mm526.2.2.2 = 241 := sg526.1
def mm527 : Mem := setR mm526 299 8 304
theorem sg527 : Sg mm527 241 := sg_R 299 8 304 sg526 rfl rfl
theorem mc527 : mm527.2.2.2 = 241 := sg527.1
def mm528 : Mem := setR mm527 224 0 299
theorem sg528 : Sg mm528 241 := sg_R 224 0 299 sg527 rfl rfl
theorem mc528 : mm528.2.2.2 = 241 := sg528.1
def mm529 : Mem := cnt mm528
theorem sg529 : Sg mm529 242 := sg_C sg528 rfl rfl
theorem mc529 : mm529.2.2.2 = 242 := sg529.1
def mm530 : Mem := cnt mm529
theorem sg530 : Sg mm530 243 := sg_C sg529 rfl rfl
theorem mc530 : mm530.2.2.2 = 243 := sg530.1
def mm531 : Mem := setR mm530 305 4 306
theorem sg531 : Sg mm531 243 := sg_R 305 4 306 sg530 rfl rfl
theorem mc531 : mm531.2.2.2 = 243 := sg531.1
def mm532 : Mem := cnt mm531
theorem sg532 : Sg mm532 244 := sg_C sg531 rfl rfl
theorem mc532 : mm532.2.2.2 = 244 := sg532.1
def mm533 : Mem := setR mm532 305 5 307
theorem sg533 : Sg mm533 244 := sg_R 305 5 307 sg532 rfl rfl
theorem mc533 : mm533.2.2.2 = 244 := sg533.1
def mm534 : Mem := cnt mm533
theorem sg534 : Sg mm534 245 := sg_C sg533 rfl rfl
theorem mc534 : mm534.2.2.2 = 245 := sg534.1
def mm535 : Mem := setR mm534 305 6 308
theorem sg535 : Sg mm535 245 := sg_R 305 6 308 sg534 rfl rfl
theorem mc535 : mm535.2.2.2 = 245 := sg535.1
def mm536 : Mem := cnt mm535
theorem sg536 : Sg mm536 246 := sg_C sg535 rfl rfl
theorem mc536 : mm536.2.2.2 = 246 := sg536.1
def mm537 : Mem := setR mm536 305 7 309
theorem sg537 : Sg mm537 246 := sg_R 305 7 309 sg536 rfl rfl
theorem mc537 : mm537.2.2.2 = 246 := sg537.1
def mm538 : Mem := cnt mm537
theorem sg538 : Sg mm538 247 := sg_C sg537 rfl rfl
theorem mc538 : mm538.2.2.2 = 247 := sg538.1
def mm539 : Mem := setR mm538 305 8 310
theorem sg539 : Sg mm539 247 := sg_R 305 8 310 sg538 rfl rfl
theorem mc539 : mm539.2.2.2 = 247 := sg539.1
def mm540 : Mem := setR mm539 224 1 305
theorem sg540 : Sg mm540 247 := sg_R 224 1 305 sg539 rfl rfl
theorem mc540 : mm540.2.2.2 = 247 := sg540.1
def mm541 : Mem := cnt mm540
theorem sg541 : Sg mm541 248 := sg_C sg540 rfl rfl
theorem mc541 : mm541.2.2.2 = 248 := sg541.1
def mm542 : Mem := cnt mm541
theorem sg542 : Sg mm542 249 := sg_C sg541 rfl rfl
theorem mc542 : mm542.2.2.2 = 249 := sg542.1
def mm543 : Mem := setR mm542 311 1 312
theorem sg543 : Sg mm543 249 := sg_R 311 1 312 sg542 rfl rfl
theorem mc543 : mm543.2.2.2 = 249 := sg543.1
def mm544 : Mem := cnt mm543
theorem sg544 : Sg mm544 250 := sg_C sg543 rfl rfl
theorem mc544 : mm544.2.2.2 = 250 := sg544.1
def mm545 : Mem := setR mm544 311 11 313
theorem sg545 : Sg mm545 250 := sg_R 311 11 313 sg544 rfl rfl
theorem mc545 : mm545.2.2.2 = 250 := sg545.1
def mm546 : Mem := cnt mm545
theorem sg546 : Sg mm546 251 := sg_C sg545 rfl rfl
theorem mc546 : mm546.2.2.2 = 251 := sg546.1
def mm547 : Mem := setR mm546 311 12 314
theorem sg547 : Sg mm547 251 := sg_R 311 12 314 sg546 rfl rfl
theorem mc547 : mm547.2.2.2 = 251 := sg547.1
def mm548 : Mem := cnt mm547
theorem sg548 : Sg mm548 252 := sg_C sg547 rfl rfl
theorem mc548 : mm548.2.2.2 = 252 := sg548.1
def mm549 : Mem := setR mm548 311 13 315
theorem sg549 : Sg mm549 252 := sg_R 311 13 315 sg548 rfl rfl
theorem mc549 : mm549.2.2.2 = 252 := sg549.1
def mm550 : Mem := cnt mm549
theorem sg550 : Sg mm550 253 := sg_C sg549 rfl rfl
theorem mc550 : mm550.2.2.2 = 253 := sg550.1
def mm551 : Mem := setR mm550 311 14 316
theorem sg551 : Sg mm551 253 := sg_R 311 14 316 sg550 rfl rfl
theorem mc551 : mm551.2.2.2 = 253 := sg551.1
def mm552 : Mem := cnt mm551
theorem sg552 : Sg mm552 254 := sg_C sg551 rfl rfl
theorem mc552 : mm552.2.2.2 = 254 := sg552.1
def mm553 : Mem := setR mm552 311 15 317
theorem sg553 : Sg mm553 254 := sg_R 311 15 317 sg552 rfl rfl
theorem mc553 : mm553.2.2.2 = 254 := sg553.1
def mm554 : Mem := cnt mm553
theorem sg554 : Sg mm554 255 := sg_C sg553 rfl rfl
theorem mc554 : mm554.2.2.2 = 255 := sg554.1
def mm555 : Mem := setR mm554 311 16 318
theorem sg555 : Sg mm555 255 := sg_R 311 16 318 sg554 rfl rfl
theorem mc555 : mm555.2.2.2 = 255 := sg555.1
def mm556 : Mem := cnt mm555
theorem sg556 : Sg mm556 256 := sg_C sg555 rfl rfl
theorem mc556 : mm556.2.2.2 = 256 := sg556.1
def mm557 : Mem := setR mm556 311 17 319
theorem sg557 : Sg mm557 256 := sg_R 311 17 319 sg556 rfl rfl
theorem mc557 : mm557.2.2.2 = 256 := sg557.1
def mm558 : Mem := cnt mm557
theorem sg558 : Sg mm558 257 := sg_C sg557 rfl rfl
theorem mc558 : mm558.2.2.2 = 257 := sg558.1
def mm559 : Mem := setR mm558 311 18 320
theorem sg559 : Sg mm559 257 := sg_R 311 18 320 sg558 rfl rfl
theorem mc559 : mm559.2.2.2 = 257 := sg559.1
def mm560 : Mem := cnt mm559
theorem sg560 : Sg mm560 258 := sg_C sg559 rfl rfl
theorem mc560 : mm560.2.2.2 = 258 := sg560.1
def mm561 : Mem := setR mm560 311 19 321
theorem sg561 : Sg mm561 258 := sg_R 311 19 321 sg560 rfl rfl
theorem mc561 : mm561.2.2.2 = 258 := sg561.1
def mm562 : Mem := cnt mm561
theorem sg562 : Sg mm562 259 := sg_C sg561 rfl rfl
theorem mc562 : mm562.2.2.2 = 259 := sg562.1
def mm563 : Mem := setR mm562 311 20 322
theorem sg563 : Sg mm563 259 := sg_R 311 20 322 sg562 rfl rfl
theorem mc563 : mm563.2.2.2 = 259 := sg563.1
def mm564 : Mem := cnt mm563
theorem sg564 : Sg mm564 260 := sg_C sg563 rfl rfl
theorem mc564 : mm564.2.2.2 = 260 := sg564.1
def mm565 : Mem := setR mm564 311 21 323
theorem sg565 : Sg mm565 260 := sg_R 311 21 323 sg564 rfl rfl
theorem mc565 : mm565.2.2.2 = 260 := sg565.1
def mm566 : Mem := cnt mm565
theorem sg566 : Sg mm566 261 := sg_C sg565 rfl rfl
theorem mc566 : mm566.2.2.2 = 261 := sg566.1
def mm567 : Mem := setR mm566 311 22 324
theorem sg567 : Sg mm567 261 := sg_R 311 22 324 sg566 rfl rfl
theorem mc567 : mm567.2.2.2 = 261 := sg567.1
def mm568 : Mem := cnt mm567
theorem sg568 : Sg mm568 262 := sg_C sg567 rfl rfl
theorem mc568 : mm568.2.2.2 = 262 := sg568.1
def mm569 : Mem := setR mm568 311 23 325
theorem sg569 : Sg mm569 262 := sg_R 311 23 325 sg568 rfl rfl
theorem mc569 : mm569.2.2.2 = 262 := sg569.1
def mm570 : Mem := cnt mm569
theorem sg570 : Sg mm570 263 := sg_C sg569 rfl rfl
theorem mc570 : mm570.2.2.2 = 263 := sg570.1
def mm571 : Mem := setR mm570 311 24 326
theorem sg571 : Sg mm571 263 := sg_R 311 24 326 sg570 rfl rfl
theorem mc571 : mm571.2.2.2 = 263 := sg571.1
def mm572 : Mem := cnt mm571
theorem sg572 : Sg mm572 264 := sg_C sg571 rfl rfl
theorem mc572 : mm572.2.2.2 = 264 := sg572.1
def mm573 : Mem := setR mm572 311 25 327
theorem sg573 : Sg mm573 264 := sg_R 311 25 327 sg572 rfl rfl
theorem mc573 : mm573.2.2.2 = 264 := sg573.1
def mm574 : Mem := cnt mm573
theorem sg574 : Sg mm574 265 := sg_C sg573 rfl rfl
theorem mc574 : mm574.2.2.2 = 265 := sg574.1
def mm575 : Mem := setR mm574 311 26 328
theorem sg575 : Sg mm575 265 := sg_R 311 26 328 sg574 rfl rfl
theorem mc575 : mm575.2.2.2 = 265 := sg575.1
def mm576 : Mem := cnt mm575
theorem sg576 : Sg mm576 266 := sg_C sg575 rfl rfl
theorem mc576 : mm576.2.2.2 = 266 := sg576.1
def mm577 : Mem := setR mm576 311 27 329
theorem sg577 : Sg mm577 266 := sg_R 311 27 329 sg576 rfl rfl
theorem mc577 : mm577.2.2.2 = 266 := sg577.1
def mm578 : Mem := cnt mm577
theorem sg578 : Sg mm578 267 := sg_C sg577 rfl rfl
theorem mc578 : mm578.2.2.2 = 267 := sg578.1
def mm579 : Mem := setR mm578 311 28 330
theorem sg579 : Sg mm579 267 := sg_R 311 28 330 sg578 rfl rfl
theorem mc579 : mm579.2.2.2 = 267 := sg579.1
def mm580 : Mem := cnt mm579
theorem sg580 : Sg mm580 268 := sg_C sg579 rfl rfl
theorem mc580 : mm580.2.2.2 = 268 := sg580.1
def mm581 : Mem := setR mm580 311 29 331
theorem sg581 : Sg mm581 268 := sg_R 311 29 331 sg580 rfl rfl
theorem mc581 : mm581.2.2.2 = 268 := sg581.1
def mm582 : Mem := cnt mm581
theorem sg582 : Sg mm582 269 := sg_C sg581 rfl rfl
theorem mc582 : mm582.2.2.2 = 269 := sg582.1
def mm583 : Mem := setR mm582 311 30 332
theorem sg583 : Sg mm583 269 := sg_R 311 30 332 sg582 rfl rfl
theorem mc583 : mm583.2.2.2 = 269 := sg583.1
def mm584 : Mem := cnt mm583
theorem sg584 : Sg mm584 270 := sg_C sg583 rfl rfl
theorem mc584 : mm584.2.2.2 = 270 := sg584.1
def mm585 : Mem := setR mm584 311 31 333
theorem sg585 : Sg mm585 270 := sg_R 311 31 333 sg584 rfl rfl
theorem mc585 : mm585.2.2.2 = 270 := sg585.1
def mm586 : Mem := cnt mm585
theorem sg586 : Sg mm586 271 := sg_C sg585 rfl rfl
theorem mc586 : mm586.2.2.2 = 271 := sg586.1
def mm587 : Mem := setR mm586 311 32 334
theorem sg587 : Sg mm587 271 := sg_R 311 32 334 sg586 rfl rfl
theorem mc587 : mm587.2.2.2 = 271 := sg587.1
def mm588 : Mem := cnt mm587
theorem sg588 : Sg mm588 272 := sg_C sg587 rfl rfl
theorem mc588 : mm588.2.2.2 = 272 := sg588.1
def mm589 : Mem := setR mm588 311 33 335
theorem sg589 : Sg mm589 272 := sg_R 311 33 335 sg588 rfl rfl
theorem mc589 : mm589.2.2.2 = 272 := sg589.1
def mm590 : Mem := cnt mm589
theorem sg590 : Sg mm590 273 := sg_C sg589 rfl rfl
theorem mc590 : mm590.2.2.2 = 273 := sg590.1
def mm591 : Mem := setR mm590 311 34 336
theorem sg591 : Sg mm591 273 := sg_R 311 34 336 sg590 rfl rfl
theorem mc591 : mm591.2.2.2 = 273 := sg591.1
def mm592 : Mem := cnt mm591
theorem sg592 : Sg mm592 274 := sg_C sg591 rfl rfl
theorem mc592 : mm592.2.2.2 = 274 := sg592.1
def mm593 : Mem := setR mm592 311 35 337
theorem sg593 : Sg mm593 274 := sg_R 311 35 337 sg592 rfl rfl
theorem mc593 : mm593.2.2.2 = 274 := sg593.1
def mm594 : Mem := cnt mm593
theorem sg594 : Sg mm594 275 := sg_C sg593 rfl rfl
theorem mc594 : mm594.2.2.2 = 275 := sg594.1
def mm595 : Mem := setR mm594 311 36 338
theorem sg595 : Sg mm595 275 := sg_R 311 36 338 sg594 rfl rfl
theorem mc595 : mm595.2.2.2 = 275 := sg595.1
def mm596 : Mem := cnt mm595
theorem sg596 : Sg mm596 276 := sg_C sg595 rfl rfl
theorem mc596 : mm596.2.2.2 = 276 := sg596.1
def mm597 : Mem := setR mm596 311 37 339
theorem sg597 : Sg mm597 276 := sg_R 311 37 339 sg596 rfl rfl
theorem mc597 : mm597.2.2.2 = 276 := sg597.1
def mm598 : Mem := cnt mm597
theorem sg598 : Sg mm598 277 := sg_C sg597 rfl rfl
theorem mc598 : mm598.2.2.2 = 277 := sg598.1
def mm599 : Mem := setR mm598 311 38 340
theorem sg599 : Sg mm599 277 := sg_R 311 38 340 sg598 rfl rfl
theorem mc599 : mm599.2.2.2 = 277 := sg599.1
def mm600 : Mem := cnt mm599
theorem sg600 : Sg mm600 278 := sg_C sg599 rfl rfl
theorem mc600 : mm600.2.2.2 = 278 := sg600.1
def mm601 : Mem := setR mm600 311 39 341
theorem sg601 : Sg mm601 278 := sg_R 311 39 341 sg600 rfl rfl
theorem mc601 : mm601.2.2.2 = 278 := sg601.1
def mm602 : Mem := cnt mm601
theorem sg602 : Sg mm602 279 := sg_C sg601 rfl rfl
theorem mc602 : mm602.2.2.2 = 279 := sg602.1
def mm603 : Mem := setR mm602 311 41 342
theorem sg603 : Sg mm603 279 := sg_R 311 41 342 sg602 rfl rfl
theorem mc603 : mm603.2.2.2 = 279 := sg603.1
def mm604 : Mem := cnt mm603
theorem sg604 : Sg mm604 280 := sg_C sg603 rfl rfl
theorem mc604 : mm604.2.2.2 = 280 := sg604.1
def mm605 : Mem := setR mm604 311 42 343
theorem sg605 : Sg mm605 280 := sg_R 311 42 343 sg604 rfl rfl
theorem mc605 : mm605.2.2.2 = 280 := sg605.1
def mm606 : Mem := cnt mm605
theorem sg606 : Sg mm606 281 := sg_C sg605 rfl rfl
theorem mc606 : mm606.2.2.2 = 281 := sg606.1
def mm607 : Mem := setR mm606 311 43 344
theorem sg607 : Sg mm607 281 := sg_R 311 43 344 sg606 rfl rfl
theorem mc607 : mm607.2.2.2 = 281 := sg607.1
def mm608 : Mem := cnt mm607
theorem sg608 : Sg mm608 282 := sg_C sg607 rfl rfl
theorem mc608 : mm608.2.2.2 = 282 := sg608.1
def mm609 : Mem := setR mm608 311 45 345
theorem sg609 : Sg mm609 282 := sg_R 311 45 345 sg608 rfl rfl
theorem mc609 : mm609.2.2.2 = 282 := sg609.1
def mm610 : Mem := setI mm609 314 0 60
theorem sg610 : Sg mm610 282 := sg_I 314 0 60 sg609 rfl rfl
theorem mc610 : mm610.2.2.2 = 282 := sg610.1
def mm611 : Mem := setI mm610 314 1 0
theorem sg611 : Sg mm611 282 := sg_I 314 1 0 sg610 rfl rfl
theorem mc611 : mm611.2.2.2 = 282 := sg611.1
def mm612 : Mem := setI mm611 314 2 1000
theorem sg612 : Sg mm612 282 := sg_I 314 2 1000 sg611 rfl rfl
theorem mc612 : mm612.2.2.2 = 282 := sg612.1
def mm613 : Mem := setI mm612 314 3 1
theorem sg613 : Sg mm613 282 := sg_I 314 3 1 sg612 rfl rfl
theorem mc613 : mm613.2.2.2 = 282 := sg613.1
def mm614 : Mem := setI mm613 313 0 0
theorem sg614 : Sg mm614 282 := sg_I 313 0 0 sg613 rfl rfl
theorem mc614 : mm614.2.2.2 = 282 := sg614.1
def mm615 : Mem := setI mm614 313 1 0
theorem sg615 : Sg mm615 282 := sg_I 313 1 0 sg614 rfl rfl
theorem mc615 : mm615.2.2.2 = 282 := sg615.1
def mm616 : Mem := setI mm615 313 2 0
theorem sg616 : Sg mm616 282 := sg_I 313 2 0 sg615 rfl rfl
theorem mc616 : mm616.2.2.2 = 282 := sg616.1
def mm617 : Mem := setI mm616 313 3 0
theorem sg617 : Sg mm617 282 := sg_I 313 3 0 sg616 rfl rfl
theorem mc617 : mm617.2.2.2 = 282 := sg617.1
def mm618 : Mem := setI mm617 313 4 0
theorem sg618 : Sg mm618 282 := sg_I 313 4 0 sg617 rfl rfl
theorem mc618 : mm618.2.2.2 = 282 := sg618.1
def mm619 : Mem := setI mm618 313 5 0
theorem sg619 : Sg mm619 282 := sg_I 313 5 0 sg618 rfl rfl
theorem mc619 : mm619.2.2.2 = 282 := sg619.1
def mm620 : Mem := setI mm619 315 0 0
theorem sg620 : Sg mm620 282 := sg_I 315 0 0 sg619 rfl rfl
theorem mc620 : mm620.2.2.2 = 282 := sg620.1
def mm621 : Mem := setI mm620 315 1 0
theorem sg621 : Sg mm621 282 := sg_I 315 1 0 sg620 rfl rfl
theorem mc621 : mm621.2.2.2 = 282 := sg621.1
def mm622 : Mem := setI mm621 315 2 0
theorem sg622 : Sg mm622 282 := sg_I 315 2 0 sg621 rfl rfl
theorem mc622 : mm622.2.2.2 = 282 := sg622.1
def mm623 : Mem := setI mm622 315 3 0
theorem sg623 : Sg mm623 282 := sg_I 315 3 0 sg622 rfl rfl
theorem mc623 : mm623.2.2.2 = 282 := sg623.1
def mm624 : Mem := cnt mm623
theorem sg624 : Sg mm624 283 := sg_C sg623 rfl rfl
theorem mc624 : mm624.2.2.2 = 283 := sg624.1
