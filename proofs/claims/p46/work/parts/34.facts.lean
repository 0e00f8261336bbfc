/-! what fields and cells there are -/
def zFl : List Nat := [1, 7, 13, 19, 70, 76, 82, 88, 94]
def zQu : List Nat := [46, 50, 54, 58, 62, 66]
theorem fr6_F0 : ∀ k ∈ zFl, zfr 6 k = some (k + 3) := by decide +kernel
theorem ln_F3 : ∀ k ∈ zFl, zln (k + 3) = some 8 := by decide +kernel
theorem fr7_F0 : ∀ k ∈ zFl, zfr 7 k = some (k + 4) := by decide +kernel
theorem ln_F4 : ∀ k ∈ zFl, zln (k + 4) = some 6 := by decide +kernel
theorem fi11_F0 : ∀ k ∈ zFl, zfi 11 k = some 7 := by decide +kernel
theorem pf11_F0 : ∀ k ∈ zFl, zpf 11 k = some (7, false) := by decide +kernel
theorem fi10_F0 : ∀ k ∈ zFl, zfi 10 k = some 5 := by decide +kernel
theorem fi9_F0 : ∀ k ∈ zFl, zfi 9 k = some 6 := by decide +kernel
theorem cl_F0 : ∀ k ∈ zFl, zcl k = some 2 := by decide +kernel
theorem fr4_F0 : ∀ k ∈ zFl, zfr 4 k = some (k + 1) := by decide +kernel
theorem ln_F1 : ∀ k ∈ zFl, zln (k + 1) = some 8 := by decide +kernel
theorem fr5_F0 : ∀ k ∈ zFl, zfr 5 k = some (k + 2) := by decide +kernel
theorem ln_F2 : ∀ k ∈ zFl, zln (k + 2) = some 8 := by decide +kernel
theorem pf10_F0 : ∀ k ∈ zFl, zpf 10 k = some (5, false) := by decide +kernel
theorem pf9_F0 : ∀ k ∈ zFl, zpf 9 k = some (6, false) := by decide +kernel
theorem fr8_F0 : ∀ k ∈ zFl, zfr 8 k = some (k + 5) := by decide +kernel
theorem ln_F5 : ∀ k ∈ zFl, zln (k + 5) = some 6 := by decide +kernel
theorem pf32_26 : zpf 32 26 = some (3, false) := by decide +kernel
theorem fr33_F0 : ∀ k ∈ zFl, zfr 33 k = some (k + 3) := by decide +kernel
theorem fr30_26 : zfr 30 26 = some 27 := by decide +kernel
theorem fi34_26 : zfi 34 26 = some 2 := by decide +kernel
theorem fr31_26 : zfr 31 26 = some 36 := by decide +kernel
theorem fi35_F0 : ∀ k ∈ zFl, zfi 35 k = some 7 := by decide +kernel
theorem ln_36 : zln 36 = some 8 := by decide +kernel
theorem pf34_26 : zpf 34 26 = some (2, false) := by decide +kernel
theorem fi32_26 : zfi 32 26 = some 3 := by decide +kernel
theorem fi36_F0 : ∀ k ∈ zFl, zfi 36 k = some 5 := by decide +kernel
theorem pf35_F0 : ∀ k ∈ zFl, zpf 35 k = some (7, false) := by decide +kernel
theorem fi49_37 : zfi 49 37 = some 1 := by decide +kernel
theorem fr48_37 : zfr 48 37 = some 38 := by decide +kernel
theorem ln_38 : zln 38 = some 96 := by decide +kernel
theorem pf49_37 : zpf 49 37 = some (1, false) := by decide +kernel
theorem cl_37 : zcl 37 = some 9 := by decide +kernel
theorem fr58_0 : zfr 58 0 = some 43 := by decide +kernel
theorem ln_43 : zln 43 = some 7 := by decide +kernel
theorem fr50_0 : zfr 50 0 = some 1 := by decide +kernel
theorem cl_1 : zcl 1 = some 2 := by decide +kernel
theorem fr56_0 : zfr 56 0 = some 37 := by decide +kernel
theorem cl_0 : zcl 0 = some 10 := by decide +kernel
theorem fi68_37 : zfi 68 37 = some 1 := by decide +kernel
theorem pf68_37 : zpf 68 37 = some (1, false) := by decide +kernel
theorem fr52_0 : zfr 52 0 = some 13 := by decide +kernel
theorem cl_13 : zcl 13 = some 2 := by decide +kernel
theorem fr55_0 : zfr 55 0 = some 26 := by decide +kernel
theorem cl_26 : zcl 26 = some 7 := by decide +kernel
theorem fi69_13 : zfi 69 13 = some 6 := by decide +kernel
theorem fi70_13 : zfi 70 13 = some 5 := by decide +kernel
theorem fr71_13 : zfr 71 13 = some 18 := by decide +kernel
theorem ln_18 : zln 18 = some 6 := by decide +kernel
theorem fi72_13 : zfi 72 13 = some 7 := by decide +kernel
theorem fr75_1 : zfr 75 1 = some 4 := by decide +kernel
theorem ln_4 : zln 4 = some 8 := by decide +kernel
theorem fr74_1 : zfr 74 1 = some 3 := by decide +kernel
theorem ln_3 : zln 3 = some 8 := by decide +kernel
theorem fr73_1 : zfr 73 1 = some 2 := by decide +kernel
theorem ln_2 : zln 2 = some 8 := by decide +kernel
theorem fi70_1 : zfi 70 1 = some 5 := by decide +kernel
theorem fr76_1 : zfr 76 1 = some 5 := by decide +kernel
theorem ln_5 : zln 5 = some 6 := by decide +kernel
theorem fr71_1 : zfr 71 1 = some 6 := by decide +kernel
theorem ln_6 : zln 6 = some 6 := by decide +kernel
theorem fi69_1 : zfi 69 1 = some 6 := by decide +kernel
theorem fi72_1 : zfi 72 1 = some 7 := by decide +kernel
theorem fi77_26 : zfi 77 26 = some 3 := by decide +kernel
theorem fr53_0 : zfr 53 0 = some 19 := by decide +kernel
theorem cl_19 : zcl 19 = some 2 := by decide +kernel
theorem fr51_0 : zfr 51 0 = some 7 := by decide +kernel
theorem cl_7 : zcl 7 = some 2 := by decide +kernel
theorem pf87_0 : zpf 87 0 = some (17, true) := by decide +kernel
theorem fi87_0 : zfi 87 0 = some 17 := by decide +kernel
theorem fr88_100 : zfr 88 100 = some 101 := by decide +kernel
theorem ln_101 : zln 101 = some 7 := by decide +kernel
theorem fi110_100 : zfi 110 100 = some 6 := by decide +kernel
theorem fi111_100 : zfi 111 100 = some 5 := by decide +kernel
theorem fr92_100 : zfr 92 100 = some 105 := by decide +kernel
theorem ln_105 : zln 105 = some 8 := by decide +kernel
theorem cl_100 : zcl 100 = some 11 := by decide +kernel
theorem fr89_100 : zfr 89 100 = some 102 := by decide +kernel
theorem ln_102 : zln 102 = some 6 := by decide +kernel
theorem fi112_100 : zfi 112 100 = some 7 := by decide +kernel
theorem fr93_100 : zfr 93 100 = some 106 := by decide +kernel
theorem fi113_100 : zfi 113 100 = some 12 := by decide +kernel
theorem ln_106 : zln 106 = some 96 := by decide +kernel
theorem pf113_100 : zpf 113 100 = some (12, false) := by decide +kernel
theorem fi114_100 : zfi 114 100 = some 13 := by decide +kernel
theorem fr96_100 : zfr 96 100 = some 109 := by decide +kernel
theorem ln_109 : zln 109 = some 144 := by decide +kernel
theorem pf114_100 : zpf 114 100 = some (13, false) := by decide +kernel
theorem fr94_100 : zfr 94 100 = some 107 := by decide +kernel
theorem fi115_100 : zfi 115 100 = some 14 := by decide +kernel
theorem ln_107 : zln 107 = some 48 := by decide +kernel
theorem fr95_100 : zfr 95 100 = some 108 := by decide +kernel
theorem ln_108 : zln 108 = some 48 := by decide +kernel
theorem pf115_100 : zpf 115 100 = some (14, false) := by decide +kernel
theorem pf116_100 : zpf 116 100 = some (19, false) := by decide +kernel
theorem fi117_100 : zfi 117 100 = some 17 := by decide +kernel
theorem fr97_100 : zfr 97 100 = some 110 := by decide +kernel
theorem fi118_100 : zfi 118 100 = some 18 := by decide +kernel
theorem ln_110 : zln 110 = some 400 := by decide +kernel
theorem pf118_100 : zpf 118 100 = some (18, false) := by decide +kernel
theorem pf117_100 : zpf 117 100 = some (17, true) := by decide +kernel
theorem fr90_100 : zfr 90 100 = some 103 := by decide +kernel
theorem fr91_100 : zfr 91 100 = some 104 := by decide +kernel
theorem pf111_100 : zpf 111 100 = some (5, false) := by decide +kernel
theorem pf110_100 : zpf 110 100 = some (6, false) := by decide +kernel
theorem pf112_100 : zpf 112 100 = some (7, false) := by decide +kernel
theorem fi116_100 : zfi 116 100 = some 19 := by decide +kernel
theorem pf119_100 : zpf 119 100 = some (16, true) := by decide +kernel
theorem fi119_100 : zfi 119 100 = some 16 := by decide +kernel
theorem ln_103 : zln 103 = some 8 := by decide +kernel
theorem ln_104 : zln 104 = some 8 := by decide +kernel
theorem fr98_100 : zfr 98 100 = some 111 := by decide +kernel
theorem ln_111 : zln 111 = some 64 := by decide +kernel
theorem fr99_100 : zfr 99 100 = some 112 := by decide +kernel
theorem ln_112 : zln 112 = some 64 := by decide +kernel
theorem fr100_100 : zfr 100 100 = some 113 := by decide +kernel
theorem ln_113 : zln 113 = some 64 := by decide +kernel
theorem le_102 : zlen 102 = some 6 := by decide +kernel
theorem le_103 : zlen 103 = some 8 := by decide +kernel
theorem le_104 : zlen 104 = some 8 := by decide +kernel
theorem le_105 : zlen 105 = some 8 := by decide +kernel
theorem TI.mono {d y : Nat} {args : List zV} {Z : zM} {Q Q' : Int → zM → Prop} (h : TI d y args Z Q) (hi : ∀ x Z1, Q x Z1 → Q' x Z1) : TI d y args Z Q' :=
  TZ.mono h fun _ _ hr => by obtain ⟨x, e, hr⟩ := hr; exact ⟨x, e, hi _ _ hr⟩
theorem TV.mono {d y : Nat} {args : List zV} {Z : zM} {Q Q' : zM → Prop} (h : TV d y args Z Q) (hi : ∀ Z1, Q Z1 → Q' Z1) : TV d y args Z Q' :=
  TZ.mono h fun _ _ hr => by obtain ⟨e, hr⟩ := hr; exact ⟨e, hi _ hr⟩
theorem TR.mono {d y : Nat} {args : List zV} {Z : zM} {Q Q' : Nat → zM → Prop} (h : TR d y args Z Q) (hi : ∀ x Z1, Q x Z1 → Q' x Z1) : TR d y args Z Q' :=
  TZ.mono h fun _ _ hr => by obtain ⟨x, e, hr⟩ := hr; exact ⟨x, e, hi _ _ hr⟩
