/-! what fields and cells there are -/
def zFl : List Nat := [1, 7, 13, 19, 70, 76, 82, 88, 94]
def zQu : List Nat := [46, 50, 54, 58, 62, 66]
theorem fi9_F0 : ∀ k ∈ zFl, zfi 9 k = some 6 := by decide +kernel
theorem fr7_F0 : ∀ k ∈ zFl, zfr 7 k = some (k + 4) := by decide +kernel
theorem ln_F4 : ∀ k ∈ zFl, zln (k + 4) = some 6 := by decide +kernel
theorem fr8_F0 : ∀ k ∈ zFl, zfr 8 k = some (k + 5) := by decide +kernel
theorem ln_F5 : ∀ k ∈ zFl, zln (k + 5) = some 6 := by decide +kernel
theorem fi10_F0 : ∀ k ∈ zFl, zfi 10 k = some 5 := by decide +kernel
theorem fi11_F0 : ∀ k ∈ zFl, zfi 11 k = some 7 := by decide +kernel
theorem pf11_F0 : ∀ k ∈ zFl, zpf 11 k = some (7, false) := by decide +kernel
theorem cl_F0 : ∀ k ∈ zFl, zcl k = some 2 := by decide +kernel
theorem fr6_F0 : ∀ k ∈ zFl, zfr 6 k = some (k + 3) := by decide +kernel
theorem ln_F3 : ∀ k ∈ zFl, zln (k + 3) = some 8 := by decide +kernel
theorem fr4_F0 : ∀ k ∈ zFl, zfr 4 k = some (k + 1) := by decide +kernel
theorem ln_F1 : ∀ k ∈ zFl, zln (k + 1) = some 8 := by decide +kernel
theorem fr5_F0 : ∀ k ∈ zFl, zfr 5 k = some (k + 2) := by decide +kernel
theorem ln_F2 : ∀ k ∈ zFl, zln (k + 2) = some 8 := by decide +kernel
theorem TI.mono {d y : Nat} {args : List zV} {Z : zM} {Q Q' : Int → zM → Prop} (h : TI d y args Z Q) (hi : ∀ x Z1, Q x Z1 → Q' x Z1) : TI d y args Z Q' :=
  TZ.mono h fun _ _ hr => by obtain ⟨x, e, hr⟩ := hr; exact ⟨x, e, hi _ _ hr⟩
theorem TV.mono {d y : Nat} {args : List zV} {Z : zM} {Q Q' : zM → Prop} (h : TV d y args Z Q) (hi : ∀ Z1, Q Z1 → Q' Z1) : TV d y args Z Q' :=
  TZ.mono h fun _ _ hr => by obtain ⟨e, hr⟩ := hr; exact ⟨e, hi _ hr⟩
theorem TR.mono {d y : Nat} {args : List zV} {Z : zM} {Q Q' : Nat → zM → Prop} (h : TR d y args Z Q) (hi : ∀ x Z1, Q x Z1 → Q' x Z1) : TR d y args Z Q' :=
  TZ.mono h fun _ _ hr => by obtain ⟨x, e, hr⟩ := hr; exact ⟨x, e, hi _ _ hr⟩
