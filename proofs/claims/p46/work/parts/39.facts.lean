/-! what fields and cells there are -/
theorem fr101_100 : zfr 101 100 = some 114 := by decide +kernel
theorem ln_114 : zln 114 = some 4 := by decide +kernel
theorem fr103_100 : zfr 103 100 = some 116 := by decide +kernel
theorem ln_116 : zln 116 = some 12 := by decide +kernel
theorem fr102_100 : zfr 102 100 = some 115 := by decide +kernel
theorem ln_115 : zln 115 = some 4 := by decide +kernel
theorem fr104_100 : zfr 104 100 = some 117 := by decide +kernel
theorem ln_117 : zln 117 = some 8 := by decide +kernel
theorem fi120_100 : zfi 120 100 = some 26 := by decide +kernel
theorem fr105_100 : zfr 105 100 = some 118 := by decide +kernel
theorem ln_118 : zln 118 = some 108 := by decide +kernel
theorem fr106_100 : zfr 106 100 = some 119 := by decide +kernel
theorem ln_119 : zln 119 = some 108 := by decide +kernel
theorem fr108_100 : zfr 108 100 = some 121 := by decide +kernel
theorem fr107_100 : zfr 107 100 = some 120 := by decide +kernel
theorem ln_120 : zln 120 = some 12 := by decide +kernel
theorem ln_121 : zln 121 = some 12 := by decide +kernel
theorem fr109_100 : zfr 109 100 = some 122 := by decide +kernel
theorem ln_122 : zln 122 = some 8 := by decide +kernel
theorem pf120_100 : zpf 120 100 = some (26, false) := by decide +kernel
