/-! what fields and cells there are -/
theorem fi0_54 : zfi 0 54 = some 4 := by decide +kernel
theorem cl_54 : zcl 54 = some 0 := by decide +kernel
theorem fi1_54 : zfi 1 54 = some 3 := by decide +kernel
theorem cl_46 : zcl 46 = some 1 := by decide +kernel
theorem fi2_46 : zfi 2 46 = some 4 := by decide +kernel
theorem fi3_46 : zfi 3 46 = some 3 := by decide +kernel
theorem fi12_66 : zfi 12 66 = some 4 := by decide +kernel
theorem fi13_66 : zfi 13 66 = some 6 := by decide +kernel
theorem fi14_66 : zfi 14 66 = some 3 := by decide +kernel
theorem cl_66 : zcl 66 = some 3 := by decide +kernel
theorem fi15_F0 : ∀ k ∈ zFl, zfi 15 k = some 6 := by decide +kernel
theorem fi17_50 : zfi 17 50 = some 3 := by decide +kernel
theorem fi16_50 : zfi 16 50 = some 6 := by decide +kernel
theorem fi19_F0 : ∀ k ∈ zFl, zfi 19 k = some 5 := by decide +kernel
theorem fr18_F0 : ∀ k ∈ zFl, zfr 18 k = some (k + 4) := by decide +kernel
theorem pf16_50 : zpf 16 50 = some (6, false) := by decide +kernel
theorem fi20_62 : zfi 20 62 = some 4 := by decide +kernel
theorem fr21_F0 : ∀ k ∈ zFl, zfr 21 k = some (k + 3) := by decide +kernel
theorem fi22_62 : zfi 22 62 = some 6 := by decide +kernel
theorem fi23_62 : zfi 23 62 = some 7 := by decide +kernel
theorem fi24_62 : zfi 24 62 = some 3 := by decide +kernel
theorem cl_62 : zcl 62 = some 5 := by decide +kernel
theorem cl_58 : zcl 58 = some 6 := by decide +kernel
theorem fi27_58 : zfi 27 58 = some 3 := by decide +kernel
theorem pf25_58 : zpf 25 58 = some (6, false) := by decide +kernel
theorem pf26_58 : zpf 26 58 = some (7, false) := by decide +kernel
theorem fi25_58 : zfi 25 58 = some 6 := by decide +kernel
theorem fi28_58 : zfi 28 58 = some 4 := by decide +kernel
theorem pf28_58 : zpf 28 58 = some (4, false) := by decide +kernel
theorem fr29_58 : zfr 29 58 = some 59 := by decide +kernel
theorem ln_59 : zln 59 = some 4 := by decide +kernel
theorem fi26_58 : zfi 26 58 = some 7 := by decide +kernel
theorem pf40_Q0 : ∀ k ∈ zQu, zpf 40 k = some (3, false) := by decide +kernel
theorem pf41_Q0 : ∀ k ∈ zQu, zpf 41 k = some (4, false) := by decide +kernel
theorem pf42_Q0 : ∀ k ∈ zQu, zpf 42 k = some (5, false) := by decide +kernel
theorem fr43_39 : zfr 43 39 = some 40 := by decide +kernel
theorem fr39_Q0 : ∀ k ∈ zQu, zfr 39 k = some (k + 3) := by decide +kernel
theorem ln_40 : zln 40 = some 12 := by decide +kernel
theorem ln_Q3 : ∀ k ∈ zQu, zln (k + 3) = some 4 := by decide +kernel
theorem fr37_Q0 : ∀ k ∈ zQu, zfr 37 k = some (k + 1) := by decide +kernel
theorem fr38_Q0 : ∀ k ∈ zQu, zfr 38 k = some (k + 2) := by decide +kernel
theorem fi42_Q0 : ∀ k ∈ zQu, zfi 42 k = some 5 := by decide +kernel
theorem ln_Q1 : ∀ k ∈ zQu, zln (k + 1) = some 4 := by decide +kernel
theorem ln_Q2 : ∀ k ∈ zQu, zln (k + 2) = some 4 := by decide +kernel
theorem fi41_Q0 : ∀ k ∈ zQu, zfi 41 k = some 4 := by decide +kernel
theorem fi47_39 : zfi 47 39 = some 3 := by decide +kernel
theorem fr44_39 : zfr 44 39 = some 40 := by decide +kernel
theorem pf47_39 : zpf 47 39 = some (3, false) := by decide +kernel
theorem cl_39 : zcl 39 = some 8 := by decide +kernel
theorem fr45_39 : zfr 45 39 = some 41 := by decide +kernel
theorem ln_41 : zln 41 = some 12 := by decide +kernel
theorem fr46_39 : zfr 46 39 = some 42 := by decide +kernel
theorem ln_42 : zln 42 = some 12 := by decide +kernel
theorem fr57_0 : zfr 57 0 = some 39 := by decide +kernel
theorem fi67_39 : zfi 67 39 = some 3 := by decide +kernel
theorem fr75_19 : zfr 75 19 = some 22 := by decide +kernel
theorem ln_22 : zln 22 = some 8 := by decide +kernel
theorem fi72_19 : zfi 72 19 = some 7 := by decide +kernel
theorem fi70_19 : zfi 70 19 = some 5 := by decide +kernel
theorem fr78_39 : zfr 78 39 = some 40 := by decide +kernel
theorem fr59_0 : zfr 59 0 = some 44 := by decide +kernel
theorem ln_44 : zln 44 = some 12 := by decide +kernel
theorem fr76_19 : zfr 76 19 = some 23 := by decide +kernel
theorem ln_23 : zln 23 = some 6 := by decide +kernel
theorem fr61_0 : zfr 61 0 = some 46 := by decide +kernel
theorem fr62_0 : zfr 62 0 = some 50 := by decide +kernel
theorem cl_50 : zcl 50 = some 4 := by decide +kernel
theorem fi80_50 : zfi 80 50 = some 6 := by decide +kernel
theorem fr63_0 : zfr 63 0 = some 54 := by decide +kernel
theorem fi81_54 : zfi 81 54 = some 4 := by decide +kernel
theorem fr64_0 : zfr 64 0 = some 58 := by decide +kernel
theorem fi83_58 : zfi 83 58 = some 7 := by decide +kernel
theorem fi82_58 : zfi 82 58 = some 6 := by decide +kernel
theorem fr65_0 : zfr 65 0 = some 62 := by decide +kernel
theorem pf84_62 : zpf 84 62 = some (6, false) := by decide +kernel
theorem pf85_62 : zpf 85 62 = some (7, false) := by decide +kernel
theorem fr66_0 : zfr 66 0 = some 66 := by decide +kernel
theorem pf86_66 : zpf 86 66 = some (6, false) := by decide +kernel
theorem fi69_F0 : ∀ k ∈ zFl, zfi 69 k = some 6 := by decide +kernel
theorem fr76_F0 : ∀ k ∈ zFl, zfr 76 k = some (k + 4) := by decide +kernel
theorem fr60_0 : zfr 60 0 = some 45 := by decide +kernel
theorem fi69_19 : zfi 69 19 = some 6 := by decide +kernel
theorem ln_45 : zln 45 = some 72 := by decide +kernel
theorem fr71_F0 : ∀ k ∈ zFl, zfr 71 k = some (k + 5) := by decide +kernel
theorem fi72_F0 : ∀ k ∈ zFl, zfi 72 k = some 7 := by decide +kernel
theorem pf67_39 : zpf 67 39 = some (3, false) := by decide +kernel
theorem le_44 : zlen 44 = some 12 := by decide +kernel
theorem le_45 : zlen 45 = some 72 := by decide +kernel
theorem fr54_0 : zfr 54 0 = some 25 := by decide +kernel
theorem le_25 : zlen 25 = some 5 := by decide +kernel
theorem fr79_46 : zfr 79 46 = some 47 := by decide +kernel
theorem ln_47 : zln 47 = some 4 := by decide +kernel
theorem fr79_50 : zfr 79 50 = some 51 := by decide +kernel
theorem ln_51 : zln 51 = some 4 := by decide +kernel
theorem fr79_54 : zfr 79 54 = some 55 := by decide +kernel
theorem ln_55 : zln 55 = some 4 := by decide +kernel
theorem fr79_58 : zfr 79 58 = some 59 := by decide +kernel
theorem fr79_62 : zfr 79 62 = some 63 := by decide +kernel
theorem ln_63 : zln 63 = some 4 := by decide +kernel
theorem fr79_66 : zfr 79 66 = some 67 := by decide +kernel
theorem ln_67 : zln 67 = some 4 := by decide +kernel
