/-! THE LAW, case by case -/
theorem ylk_app {l1 l2 : List mIt} {pc m : Nat} (hb : (l1.all fun q => decide (q.1 < m)) = true) (h : m ≤ pc) : (l1 ++ l2).lookup pc = l2.lookup pc := by
  induction l1 with
  | nil => rfl
  | cons q r ih =>
    obtain ⟨k, b⟩ := q
    rw [List.all_cons, Bool.and_eq_true] at hb
    have hk : k < m := of_decide_eq_true hb.1
    have e : (pc == k) = false := beq_false_of_ne (by omega)
    show (match pc == k with | true => some b | false => (r ++ l2).lookup pc) = _
    rw [e]; exact ih hb.2
theorem ylk_l {l1 l2 : List mIt} {pc : Nat} {v : Nat × Nat × Nat × Int} (g : l1.lookup pc = some v) : (l1 ++ l2).lookup pc = some v := by
  induction l1 with
  | nil => cases g
  | cons q r ih =>
    obtain ⟨k, b⟩ := q
    have g : (match pc == k with | true => some b | false => r.lookup pc) = some v := g
    show (match pc == k with | true => some b | false => (r ++ l2).lookup pc) = some v
    cases h : pc == k with
    | true => rw [h] at g; exact g
    | false => rw [h] at g; exact ih g
theorem ylk_c (pc : Nat) : mI 274 pc = mC274.lookup pc := rfl
theorem ylkb0 : (mCL0.all fun q => decide (q.1 < 300)) = true := by decide +kernel
theorem ylkb1 : (mCL1.all fun q => decide (q.1 < 370)) = true := by decide +kernel
theorem ylkb2 : (mCL2.all fun q => decide (q.1 < 446)) = true := by decide +kernel
theorem ylkb3 : (mCL3.all fun q => decide (q.1 < 538)) = true := by decide +kernel
theorem ylkb4 : (mCL4.all fun q => decide (q.1 < 616)) = true := by decide +kernel
theorem ylkb5 : (mCL5.all fun q => decide (q.1 < 694)) = true := by decide +kernel
theorem ylkb6 : (mCL6.all fun q => decide (q.1 < 780)) = true := by decide +kernel
theorem ylkb7 : (mCL7.all fun q => decide (q.1 < 858)) = true := by decide +kernel
theorem ylkb8 : (mCL8.all fun q => decide (q.1 < 936)) = true := by decide +kernel
theorem ylkb9 : (mCL9.all fun q => decide (q.1 < 1012)) = true := by decide +kernel
theorem ylkb10 : (mCL10.all fun q => decide (q.1 < 1098)) = true := by decide +kernel
theorem ylkb11 : (mCL11.all fun q => decide (q.1 < 1176)) = true := by decide +kernel
theorem ylkb12 : (mCL12.all fun q => decide (q.1 < 1248)) = true := by decide +kernel
theorem ylkb13 : (mCL13.all fun q => decide (q.1 < 1338)) = true := by decide +kernel
theorem ylkb14 : (mCL14.all fun q => decide (q.1 < 1420)) = true := by decide +kernel
theorem ylk0 {pc : Nat} {v : Nat × Nat × Nat × Int} (h : 0 ≤ pc) (g : mCL0.lookup pc = some v) : mI 274 pc = some v := by
  rw [ylk_c]; unfold mC274
  exact ylk_l g
theorem ylk1 {pc : Nat} {v : Nat × Nat × Nat × Int} (h : 300 ≤ pc) (g : mCL1.lookup pc = some v) : mI 274 pc = some v := by
  rw [ylk_c]; unfold mC274
  rw [ylk_app ylkb0 (by omega)]
  exact ylk_l g
theorem ylk2 {pc : Nat} {v : Nat × Nat × Nat × Int} (h : 370 ≤ pc) (g : mCL2.lookup pc = some v) : mI 274 pc = some v := by
  rw [ylk_c]; unfold mC274
  rw [ylk_app ylkb0 (by omega)]
  rw [ylk_app ylkb1 (by omega)]
  exact ylk_l g
theorem ylk3 {pc : Nat} {v : Nat × Nat × Nat × Int} (h : 446 ≤ pc) (g : mCL3.lookup pc = some v) : mI 274 pc = some v := by
  rw [ylk_c]; unfold mC274
  rw [ylk_app ylkb0 (by omega)]
  rw [ylk_app ylkb1 (by omega)]
  rw [ylk_app ylkb2 (by omega)]
  exact ylk_l g
theorem ylk4 {pc : Nat} {v : Nat × Nat × Nat × Int} (h : 538 ≤ pc) (g : mCL4.lookup pc = some v) : mI 274 pc = some v := by
  rw [ylk_c]; unfold mC274
  rw [ylk_app ylkb0 (by omega)]
  rw [ylk_app ylkb1 (by omega)]
  rw [ylk_app ylkb2 (by omega)]
  rw [ylk_app ylkb3 (by omega)]
  exact ylk_l g
theorem ylk5 {pc : Nat} {v : Nat × Nat × Nat × Int} (h : 616 ≤ pc) (g : mCL5.lookup pc = some v) : mI 274 pc = some v := by
  rw [ylk_c]; unfold mC274
  rw [ylk_app ylkb0 (by omega)]
  rw [ylk_app ylkb1 (by omega)]
  rw [ylk_app ylkb2 (by omega)]
  rw [ylk_app ylkb3 (by omega)]
  rw [ylk_app ylkb4 (by omega)]
  exact ylk_l g
theorem ylk6 {pc : Nat} {v : Nat × Nat × Nat × Int} (h : 694 ≤ pc) (g : mCL6.lookup pc = some v) : mI 274 pc = some v := by
  rw [ylk_c]; unfold mC274
  rw [ylk_app ylkb0 (by omega)]
  rw [ylk_app ylkb1 (by omega)]
  rw [ylk_app ylkb2 (by omega)]
  rw [ylk_app ylkb3 (by omega)]
  rw [ylk_app ylkb4 (by omega)]
  rw [ylk_app ylkb5 (by omega)]
  exact ylk_l g
theorem ylk7 {pc : Nat} {v : Nat × Nat × Nat × Int} (h : 780 ≤ pc) (g : mCL7.lookup pc = some v) : mI 274 pc = some v := by
  rw [ylk_c]; unfold mC274
  rw [ylk_app ylkb0 (by omega)]
  rw [ylk_app ylkb1 (by omega)]
  rw [ylk_app ylkb2 (by omega)]
  rw [ylk_app ylkb3 (by omega)]
  rw [ylk_app ylkb4 (by omega)]
  rw [ylk_app ylkb5 (by omega)]
  rw [ylk_app ylkb6 (by omega)]
  exact ylk_l g
theorem ylk8 {pc : Nat} {v : Nat × Nat × Nat × Int} (h : 858 ≤ pc) (g : mCL8.lookup pc = some v) : mI 274 pc = some v := by
  rw [ylk_c]; unfold mC274
  rw [ylk_app ylkb0 (by omega)]
  rw [ylk_app ylkb1 (by omega)]
  rw [ylk_app ylkb2 (by omega)]
  rw [ylk_app ylkb3 (by omega)]
  rw [ylk_app ylkb4 (by omega)]
  rw [ylk_app ylkb5 (by omega)]
  rw [ylk_app ylkb6 (by omega)]
  rw [ylk_app ylkb7 (by omega)]
  exact ylk_l g
theorem ylk9 {pc : Nat} {v : Nat × Nat × Nat × Int} (h : 936 ≤ pc) (g : mCL9.lookup pc = some v) : mI 274 pc = some v := by
  rw [ylk_c]; unfold mC274
  rw [ylk_app ylkb0 (by omega)]
  rw [ylk_app ylkb1 (by omega)]
  rw [ylk_app ylkb2 (by omega)]
  rw [ylk_app ylkb3 (by omega)]
  rw [ylk_app ylkb4 (by omega)]
  rw [ylk_app ylkb5 (by omega)]
  rw [ylk_app ylkb6 (by omega)]
  rw [ylk_app ylkb7 (by omega)]
  rw [ylk_app ylkb8 (by omega)]
  exact ylk_l g
theorem ylk10 {pc : Nat} {v : Nat × Nat × Nat × Int} (h : 1012 ≤ pc) (g : mCL10.lookup pc = some v) : mI 274 pc = some v := by
  rw [ylk_c]; unfold mC274
  rw [ylk_app ylkb0 (by omega)]
  rw [ylk_app ylkb1 (by omega)]
  rw [ylk_app ylkb2 (by omega)]
  rw [ylk_app ylkb3 (by omega)]
  rw [ylk_app ylkb4 (by omega)]
  rw [ylk_app ylkb5 (by omega)]
  rw [ylk_app ylkb6 (by omega)]
  rw [ylk_app ylkb7 (by omega)]
  rw [ylk_app ylkb8 (by omega)]
  rw [ylk_app ylkb9 (by omega)]
  exact ylk_l g
theorem ylk11 {pc : Nat} {v : Nat × Nat × Nat × Int} (h : 1098 ≤ pc) (g : mCL11.lookup pc = some v) : mI 274 pc = some v := by
  rw [ylk_c]; unfold mC274
  rw [ylk_app ylkb0 (by omega)]
  rw [ylk_app ylkb1 (by omega)]
  rw [ylk_app ylkb2 (by omega)]
  rw [ylk_app ylkb3 (by omega)]
  rw [ylk_app ylkb4 (by omega)]
  rw [ylk_app ylkb5 (by omega)]
  rw [ylk_app ylkb6 (by omega)]
  rw [ylk_app ylkb7 (by omega)]
  rw [ylk_app ylkb8 (by omega)]
  rw [ylk_app ylkb9 (by omega)]
  rw [ylk_app ylkb10 (by omega)]
  exact ylk_l g
theorem ylk12 {pc : Nat} {v : Nat × Nat × Nat × Int} (h : 1176 ≤ pc) (g : mCL12.lookup pc = some v) : mI 274 pc = some v := by
  rw [ylk_c]; unfold mC274
  rw [ylk_app ylkb0 (by omega)]
  rw [ylk_app ylkb1 (by omega)]
  rw [ylk_app ylkb2 (by omega)]
  rw [ylk_app ylkb3 (by omega)]
  rw [ylk_app ylkb4 (by omega)]
  rw [ylk_app ylkb5 (by omega)]
  rw [ylk_app ylkb6 (by omega)]
  rw [ylk_app ylkb7 (by omega)]
  rw [ylk_app ylkb8 (by omega)]
  rw [ylk_app ylkb9 (by omega)]
  rw [ylk_app ylkb10 (by omega)]
  rw [ylk_app ylkb11 (by omega)]
  exact ylk_l g
theorem ylk13 {pc : Nat} {v : Nat × Nat × Nat × Int} (h : 1248 ≤ pc) (g : mCL13.lookup pc = some v) : mI 274 pc = some v := by
  rw [ylk_c]; unfold mC274
  rw [ylk_app ylkb0 (by omega)]
  rw [ylk_app ylkb1 (by omega)]
  rw [ylk_app ylkb2 (by omega)]
  rw [ylk_app ylkb3 (by omega)]
  rw [ylk_app ylkb4 (by omega)]
  rw [ylk_app ylkb5 (by omega)]
  rw [ylk_app ylkb6 (by omega)]
  rw [ylk_app ylkb7 (by omega)]
  rw [ylk_app ylkb8 (by omega)]
  rw [ylk_app ylkb9 (by omega)]
  rw [ylk_app ylkb10 (by omega)]
  rw [ylk_app ylkb11 (by omega)]
  rw [ylk_app ylkb12 (by omega)]
  exact ylk_l g
theorem ylk14 {pc : Nat} {v : Nat × Nat × Nat × Int} (h : 1338 ≤ pc) (g : mCL14.lookup pc = some v) : mI 274 pc = some v := by
  rw [ylk_c]; unfold mC274
  rw [ylk_app ylkb0 (by omega)]
  rw [ylk_app ylkb1 (by omega)]
  rw [ylk_app ylkb2 (by omega)]
  rw [ylk_app ylkb3 (by omega)]
  rw [ylk_app ylkb4 (by omega)]
  rw [ylk_app ylkb5 (by omega)]
  rw [ylk_app ylkb6 (by omega)]
  rw [ylk_app ylkb7 (by omega)]
  rw [ylk_app ylkb8 (by omega)]
  rw [ylk_app ylkb9 (by omega)]
  rw [ylk_app ylkb10 (by omega)]
  rw [ylk_app ylkb11 (by omega)]
  rw [ylk_app ylkb12 (by omega)]
  rw [ylk_app ylkb13 (by omega)]
  exact ylk_l g
theorem ylk15 {pc : Nat} {v : Nat × Nat × Nat × Int} (h : 1420 ≤ pc) (g : mCL15.lookup pc = some v) : mI 274 pc = some v := by
  rw [ylk_c]; unfold mC274
  rw [ylk_app ylkb0 (by omega)]
  rw [ylk_app ylkb1 (by omega)]
  rw [ylk_app ylkb2 (by omega)]
  rw [ylk_app ylkb3 (by omega)]
  rw [ylk_app ylkb4 (by omega)]
  rw [ylk_app ylkb5 (by omega)]
  rw [ylk_app ylkb6 (by omega)]
  rw [ylk_app ylkb7 (by omega)]
  rw [ylk_app ylkb8 (by omega)]
  rw [ylk_app ylkb9 (by omega)]
  rw [ylk_app ylkb10 (by omega)]
  rw [ylk_app ylkb11 (by omega)]
  rw [ylk_app ylkb12 (by omega)]
  rw [ylk_app ylkb13 (by omega)]
  rw [ylk_app ylkb14 (by omega)]
  exact g
theorem zxr (x : Int32) : zR x.toInt := by
  exact zrg x
section
variable {L : Nat} {xs : Nat → Int32} {n : Int} {Z : zM} {a : gX}
theorem law_0 (hn : 0 ≤ n ∧ n + 5 ≤ L) (hL : L ≤ 2560) (g : GD Z a) (hQ : ∀ Z2 a2, GD Z2 a2 → TL L xs 800 1438 n [] Z2) : TL L xs 800 248 n [] Z := by
  obtain ⟨A, B, o⟩ := g
  have wx := o.1
  have vx := o.2
  refine TL.x (ylk0 (by decide) (by decide +kernel)) ?_
  refine TL.arg (j := 1) (ylk0 (by decide) (by decide +kernel)) (ylk0 (by decide) (by decide +kernel)) (ylk0 (by decide) (by decide +kernel)) (ylk0 (by decide) (by decide +kernel)) (ylk0 (by decide) (by decide +kernel)) (by omega) hL ?_
  refine TL.call (a := 158) (y' := 79) (As := [.inr 0, .inl (xs (n + 1).toNat).toInt]) (rest := []) (ylk0 (by decide) (by decide +kernel)) rfl (TI.mono (K_feed A (zxr _)) fun r1 Z1 p1 => ?_)
  have c1 : CS Z (oFeed a (xs (n + 1).toNat).toInt).2 Z1 := ⟨p1.2.1, p1.2.2⟩
  have B1 : RX Z1 a := B.hi c1.2
  refine TL.pop (ylk0 (by decide) (by decide +kernel)) ?_
  refine TL.m (ylk0 (by decide) (by decide +kernel)) ?_
  refine TL.arg (j := 1) (ylk0 (by decide) (by decide +kernel)) (ylk0 (by decide) (by decide +kernel)) (ylk0 (by decide) (by decide +kernel)) (ylk0 (by decide) (by decide +kernel)) (ylk0 (by decide) (by decide +kernel)) (by omega) hL ?_
  refine TL.call (a := 159) (y' := 163) (As := [.inr 100, .inl (xs (n + 1).toNat).toInt]) (rest := []) (ylk0 (by decide) (by decide +kernel)) rfl (TI.mono (J_feed B1 wx (zxr _)) fun r2 Z2 p2 => ?_)
  have d1 : RS Z1 (oFeed a (xs (n + 1).toNat).toInt).2 Z2 := ⟨p2.2.1, p2.2.2⟩
  refine TL.pop (ylk0 (by decide) (by decide +kernel)) ?_
  refine TL.go (t := 1438) (b := 1170) (ylk0 (by decide) (by decide +kernel)) rfl ?_
  exact hQ Z2 _ (GD.two c1 d1 (okx_res o fun _ => o))
theorem law_1 (hn : 0 ≤ n ∧ n + 5 ≤ L) (hL : L ≤ 2560) (g : GD Z a) (hQ : ∀ Z2 a2, GD Z2 a2 → TL L xs 800 1438 n [] Z2) : TL L xs 800 271 n [] Z := by
  obtain ⟨A, B, o⟩ := g
  have wx := o.1
  have vx := o.2
  refine TL.x (ylk0 (by decide) (by decide +kernel)) ?_
  refine TL.call (a := 160) (y' := 80) (As := [.inr 0]) (rest := []) (ylk0 (by decide) (by decide +kernel)) rfl (TI.mono (K_town A wx) fun r1 Z1 p1 => ?_)
  have c1 : CS Z (oTown a).2 Z1 := ⟨p1.2.1, p1.2.2⟩
  have B1 : RX Z1 a := B.hi c1.2
  refine TL.pop (ylk0 (by decide) (by decide +kernel)) ?_
  refine TL.m (ylk0 (by decide) (by decide +kernel)) ?_
  refine TL.call (a := 161) (y' := 171) (As := [.inr 100]) (rest := []) (ylk0 (by decide) (by decide +kernel)) rfl (TI.mono (J_town B1 wx vx) fun r2 Z2 p2 => ?_)
  have d1 : RS Z1 (oTown a).2 Z2 := ⟨p2.2.1, p2.2.2⟩
  refine TL.pop (ylk0 (by decide) (by decide +kernel)) ?_
  refine TL.go (t := 1438) (b := 1157) (ylk0 (by decide) (by decide +kernel)) rfl ?_
  exact hQ Z2 _ (GD.two c1 d1 (okx_town o))
theorem law_2 (hn : 0 ≤ n ∧ n + 5 ≤ L) (hL : L ≤ 2560) (g : GD Z a) (hQ : ∀ Z2 a2, GD Z2 a2 → TL L xs 800 1438 n [] Z2) : TL L xs 800 284 n [] Z := by
  obtain ⟨A, B, o⟩ := g
  have wx := o.1
  have vx := o.2
  refine TL.x (ylk0 (by decide) (by decide +kernel)) ?_
  refine TL.arg (j := 1) (ylk0 (by decide) (by decide +kernel)) (ylk0 (by decide) (by decide +kernel)) (ylk0 (by decide) (by decide +kernel)) (ylk0 (by decide) (by decide +kernel)) (ylk0 (by decide) (by decide +kernel)) (by omega) hL ?_
  refine TL.arg (j := 2) (ylk0 (by decide) (by decide +kernel)) (ylk0 (by decide) (by decide +kernel)) (ylk0 (by decide) (by decide +kernel)) (ylk0 (by decide) (by decide +kernel)) (ylk0 (by decide) (by decide +kernel)) (by omega) hL ?_
  refine TL.call (a := 162) (y' := 87) (As := [.inr 0, .inl (xs (n + 1).toNat).toInt, .inl (xs (n + 2).toNat).toInt]) (rest := []) (ylk0 (by decide) (by decide +kernel)) rfl (TI.mono (K_bird A wx (zxr _) (zxr _)) fun r1 Z1 p1 => ?_)
  have c1 : CS Z (oBird a (xs (n + 1).toNat).toInt (xs (n + 2).toNat).toInt).2 Z1 := ⟨p1.2.1, p1.2.2⟩
  have B1 : RX Z1 a := B.hi c1.2
  refine TL.pop (ylk0 (by decide) (by decide +kernel)) ?_
  refine TL.m (ylk0 (by decide) (by decide +kernel)) ?_
  refine TL.arg (j := 1) (ylk1 (by decide) (by decide +kernel)) (ylk1 (by decide) (by decide +kernel)) (ylk1 (by decide) (by decide +kernel)) (ylk1 (by decide) (by decide +kernel)) (ylk1 (by decide) (by decide +kernel)) (by omega) hL ?_
  refine TL.arg (j := 2) (ylk1 (by decide) (by decide +kernel)) (ylk1 (by decide) (by decide +kernel)) (ylk1 (by decide) (by decide +kernel)) (ylk1 (by decide) (by decide +kernel)) (ylk1 (by decide) (by decide +kernel)) (by omega) hL ?_
  refine TL.call (a := 163) (y' := 196) (As := [.inr 100, .inl (xs (n + 1).toNat).toInt, .inl (xs (n + 2).toNat).toInt]) (rest := []) (ylk1 (by decide) (by decide +kernel)) rfl (TI.mono (J_bird B1 wx (zxr _) (zxr _)) fun r2 Z2 p2 => ?_)
  have d1 : RS Z1 (oBird a (xs (n + 1).toNat).toInt (xs (n + 2).toNat).toInt).2 Z2 := ⟨p2.2.1, p2.2.2⟩
  refine TL.pop (ylk1 (by decide) (by decide +kernel)) ?_
  refine TL.go (t := 1438) (b := 1124) (ylk1 (by decide) (by decide +kernel)) rfl ?_
  exact hQ Z2 _ (GD.two c1 d1 (okx_q o))
theorem law_3 (hn : 0 ≤ n ∧ n + 5 ≤ L) (hL : L ≤ 2560) (g : GD Z a) (hQ : ∀ Z2 a2, GD Z2 a2 → TL L xs 800 1438 n [] Z2) : TL L xs 800 317 n [] Z := by
  obtain ⟨A, B, o⟩ := g
  have wx := o.1
  have vx := o.2
  refine TL.x (ylk1 (by decide) (by decide +kernel)) ?_
  refine TL.arg (j := 1) (ylk1 (by decide) (by decide +kernel)) (ylk1 (by decide) (by decide +kernel)) (ylk1 (by decide) (by decide +kernel)) (ylk1 (by decide) (by decide +kernel)) (ylk1 (by decide) (by decide +kernel)) (by omega) hL ?_
  refine TL.arg (j := 2) (ylk1 (by decide) (by decide +kernel)) (ylk1 (by decide) (by decide +kernel)) (ylk1 (by decide) (by decide +kernel)) (ylk1 (by decide) (by decide +kernel)) (ylk1 (by decide) (by decide +kernel)) (by omega) hL ?_
  refine TL.arg (j := 3) (ylk1 (by decide) (by decide +kernel)) (ylk1 (by decide) (by decide +kernel)) (ylk1 (by decide) (by decide +kernel)) (ylk1 (by decide) (by decide +kernel)) (ylk1 (by decide) (by decide +kernel)) (by omega) hL ?_
  refine TL.call (a := 164) (y' := 88) (As := [.inr 0, .inl (xs (n + 1).toNat).toInt, .inl (xs (n + 2).toNat).toInt, .inl (xs (n + 3).toNat).toInt]) (rest := []) (ylk1 (by decide) (by decide +kernel)) rfl (TI.mono (K_comes A wx (zxr _) (zxr _) (zxr _)) fun r1 Z1 p1 => ?_)
  have c1 : CS Z (oComes a (xs (n + 1).toNat).toInt (xs (n + 2).toNat).toInt (xs (n + 3).toNat).toInt).2 Z1 := ⟨p1.2.1, p1.2.2⟩
  have B1 : RX Z1 a := B.hi c1.2
  refine TL.pop (ylk1 (by decide) (by decide +kernel)) ?_
  refine TL.m (ylk1 (by decide) (by decide +kernel)) ?_
  refine TL.arg (j := 1) (ylk1 (by decide) (by decide +kernel)) (ylk1 (by decide) (by decide +kernel)) (ylk1 (by decide) (by decide +kernel)) (ylk1 (by decide) (by decide +kernel)) (ylk1 (by decide) (by decide +kernel)) (by omega) hL ?_
  refine TL.arg (j := 2) (ylk1 (by decide) (by decide +kernel)) (ylk1 (by decide) (by decide +kernel)) (ylk1 (by decide) (by decide +kernel)) (ylk1 (by decide) (by decide +kernel)) (ylk1 (by decide) (by decide +kernel)) (by omega) hL ?_
  refine TL.arg (j := 3) (ylk1 (by decide) (by decide +kernel)) (ylk1 (by decide) (by decide +kernel)) (ylk1 (by decide) (by decide +kernel)) (ylk1 (by decide) (by decide +kernel)) (ylk1 (by decide) (by decide +kernel)) (by omega) hL ?_
  refine TL.call (a := 165) (y' := 197) (As := [.inr 100, .inl (xs (n + 1).toNat).toInt, .inl (xs (n + 2).toNat).toInt, .inl (xs (n + 3).toNat).toInt]) (rest := []) (ylk1 (by decide) (by decide +kernel)) rfl (TI.mono (J_comes B1 wx (zxr _) (zxr _) (zxr _)) fun r2 Z2 p2 => ?_)
  have d1 : RS Z1 (oComes a (xs (n + 1).toNat).toInt (xs (n + 2).toNat).toInt (xs (n + 3).toNat).toInt).2 Z2 := ⟨p2.2.1, p2.2.2⟩
  refine TL.pop (ylk1 (by decide) (by decide +kernel)) ?_
  refine TL.go (t := 1438) (b := 1081) (ylk1 (by decide) (by decide +kernel)) rfl ?_
  exact hQ Z2 _ (GD.two c1 d1 (okx_comes o))
theorem law_4 (hn : 0 ≤ n ∧ n + 5 ≤ L) (hL : L ≤ 2560) (g : GD Z a) (hQ : ∀ Z2 a2, GD Z2 a2 → TL L xs 800 1438 n [] Z2) : TL L xs 800 360 n [] Z := by
  obtain ⟨A, B, o⟩ := g
  have wx := o.1
  have vx := o.2
  refine TL.x (ylk1 (by decide) (by decide +kernel)) ?_
  refine TL.arg (j := 1) (ylk1 (by decide) (by decide +kernel)) (ylk1 (by decide) (by decide +kernel)) (ylk1 (by decide) (by decide +kernel)) (ylk1 (by decide) (by decide +kernel)) (ylk1 (by decide) (by decide +kernel)) (by omega) hL ?_
  refine TL.arg (j := 2) (ylk1 (by decide) (by decide +kernel)) (ylk1 (by decide) (by decide +kernel)) (ylk1 (by decide) (by decide +kernel)) (ylk1 (by decide) (by decide +kernel)) (ylk2 (by decide) (by decide +kernel)) (by omega) hL ?_
  refine TL.call (a := 166) (y' := 89) (As := [.inr 0, .inl (xs (n + 1).toNat).toInt, .inl (xs (n + 2).toNat).toInt]) (rest := []) (ylk2 (by decide) (by decide +kernel)) rfl (TI.mono (K_wire A wx (zxr _) (zxr _)) fun r1 Z1 p1 => ?_)
  have c1 : CS Z (oWire a (xs (n + 1).toNat).toInt (xs (n + 2).toNat).toInt).2 Z1 := ⟨p1.2.1, p1.2.2⟩
  have B1 : RX Z1 a := B.hi c1.2
  refine TL.pop (ylk2 (by decide) (by decide +kernel)) ?_
  refine TL.m (ylk2 (by decide) (by decide +kernel)) ?_
  refine TL.arg (j := 1) (ylk2 (by decide) (by decide +kernel)) (ylk2 (by decide) (by decide +kernel)) (ylk2 (by decide) (by decide +kernel)) (ylk2 (by decide) (by decide +kernel)) (ylk2 (by decide) (by decide +kernel)) (by omega) hL ?_
  refine TL.arg (j := 2) (ylk2 (by decide) (by decide +kernel)) (ylk2 (by decide) (by decide +kernel)) (ylk2 (by decide) (by decide +kernel)) (ylk2 (by decide) (by decide +kernel)) (ylk2 (by decide) (by decide +kernel)) (by omega) hL ?_
  refine TL.call (a := 167) (y' := 198) (As := [.inr 100, .inl (xs (n + 1).toNat).toInt, .inl (xs (n + 2).toNat).toInt]) (rest := []) (ylk2 (by decide) (by decide +kernel)) rfl (TI.mono (J_wire B1 wx (zxr _) (zxr _)) fun r2 Z2 p2 => ?_)
  have d1 : RS Z1 (oWire a (xs (n + 1).toNat).toInt (xs (n + 2).toNat).toInt).2 Z2 := ⟨p2.2.1, p2.2.2⟩
  refine TL.pop (ylk2 (by decide) (by decide +kernel)) ?_
  refine TL.go (t := 1438) (b := 1048) (ylk2 (by decide) (by decide +kernel)) rfl ?_
  exact hQ Z2 _ (GD.two c1 d1 (okx_q o))
theorem law_5 (hn : 0 ≤ n ∧ n + 5 ≤ L) (hL : L ≤ 2560) (g : GD Z a) (hQ : ∀ Z2 a2, GD Z2 a2 → TL L xs 800 1438 n [] Z2) : TL L xs 800 393 n [] Z := by
  obtain ⟨A, B, o⟩ := g
  have wx := o.1
  have vx := o.2
  refine TL.x (ylk2 (by decide) (by decide +kernel)) ?_
  refine TL.arg (j := 1) (ylk2 (by decide) (by decide +kernel)) (ylk2 (by decide) (by decide +kernel)) (ylk2 (by decide) (by decide +kernel)) (ylk2 (by decide) (by decide +kernel)) (ylk2 (by decide) (by decide +kernel)) (by omega) hL ?_
  refine TL.arg (j := 2) (ylk2 (by decide) (by decide +kernel)) (ylk2 (by decide) (by decide +kernel)) (ylk2 (by decide) (by decide +kernel)) (ylk2 (by decide) (by decide +kernel)) (ylk2 (by decide) (by decide +kernel)) (by omega) hL ?_
  refine TL.call (a := 168) (y' := 90) (As := [.inr 0, .inl (xs (n + 1).toNat).toInt, .inl (xs (n + 2).toNat).toInt]) (rest := []) (ylk2 (by decide) (by decide +kernel)) rfl (TI.mono (K_weight A wx (zxr _) (zxr _)) fun r1 Z1 p1 => ?_)
  have c1 : CS Z (oWeight a (xs (n + 1).toNat).toInt (xs (n + 2).toNat).toInt).2 Z1 := ⟨p1.2.1, p1.2.2⟩
  have B1 : RX Z1 a := B.hi c1.2
  refine TL.pop (ylk2 (by decide) (by decide +kernel)) ?_
  refine TL.m (ylk2 (by decide) (by decide +kernel)) ?_
  refine TL.arg (j := 1) (ylk2 (by decide) (by decide +kernel)) (ylk2 (by decide) (by decide +kernel)) (ylk2 (by decide) (by decide +kernel)) (ylk2 (by decide) (by decide +kernel)) (ylk2 (by decide) (by decide +kernel)) (by omega) hL ?_
  refine TL.arg (j := 2) (ylk2 (by decide) (by decide +kernel)) (ylk2 (by decide) (by decide +kernel)) (ylk2 (by decide) (by decide +kernel)) (ylk2 (by decide) (by decide +kernel)) (ylk2 (by decide) (by decide +kernel)) (by omega) hL ?_
  refine TL.call (a := 169) (y' := 199) (As := [.inr 100, .inl (xs (n + 1).toNat).toInt, .inl (xs (n + 2).toNat).toInt]) (rest := []) (ylk2 (by decide) (by decide +kernel)) rfl (TI.mono (J_weight B1 wx (zxr _) (zxr _)) fun r2 Z2 p2 => ?_)
  have d1 : RS Z1 (oWeight a (xs (n + 1).toNat).toInt (xs (n + 2).toNat).toInt).2 Z2 := ⟨p2.2.1, p2.2.2⟩
  refine TL.pop (ylk2 (by decide) (by decide +kernel)) ?_
  refine TL.go (t := 1438) (b := 1015) (ylk2 (by decide) (by decide +kernel)) rfl ?_
  exact hQ Z2 _ (GD.two c1 d1 (okx_weight o))
theorem law_6 (hn : 0 ≤ n ∧ n + 5 ≤ L) (hL : L ≤ 2560) (g : GD Z a) (hQ : ∀ Z2 a2, GD Z2 a2 → TL L xs 800 1438 n [] Z2) : TL L xs 800 426 n [] Z := by
  obtain ⟨A, B, o⟩ := g
  have wx := o.1
  have vx := o.2
  refine TL.x (ylk2 (by decide) (by decide +kernel)) ?_
  refine TL.arg (j := 1) (ylk2 (by decide) (by decide +kernel)) (ylk2 (by decide) (by decide +kernel)) (ylk2 (by decide) (by decide +kernel)) (ylk2 (by decide) (by decide +kernel)) (ylk2 (by decide) (by decide +kernel)) (by omega) hL ?_
  refine TL.call (a := 170) (y' := 91) (As := [.inr 0, .inl (xs (n + 1).toNat).toInt]) (rest := []) (ylk2 (by decide) (by decide +kernel)) rfl (TI.mono (K_sixth A wx (zxr _)) fun r1 Z1 p1 => ?_)
  have c1 : CS Z (oSixth a (xs (n + 1).toNat).toInt).2 Z1 := ⟨p1.2.1, p1.2.2⟩
  have B1 : RX Z1 a := B.hi c1.2
  refine TL.pop (ylk2 (by decide) (by decide +kernel)) ?_
  refine TL.m (ylk2 (by decide) (by decide +kernel)) ?_
  refine TL.arg (j := 1) (ylk2 (by decide) (by decide +kernel)) (ylk2 (by decide) (by decide +kernel)) (ylk2 (by decide) (by decide +kernel)) (ylk2 (by decide) (by decide +kernel)) (ylk2 (by decide) (by decide +kernel)) (by omega) hL ?_
  refine TL.call (a := 171) (y' := 200) (As := [.inr 100, .inl (xs (n + 1).toNat).toInt]) (rest := []) (ylk2 (by decide) (by decide +kernel)) rfl (TI.mono (J_sixth B1 wx (zxr _)) fun r2 Z2 p2 => ?_)
  have d1 : RS Z1 (oSixth a (xs (n + 1).toNat).toInt).2 Z2 := ⟨p2.2.1, p2.2.2⟩
  refine TL.pop (ylk2 (by decide) (by decide +kernel)) ?_
  refine TL.go (t := 1438) (b := 992) (ylk3 (by decide) (by decide +kernel)) rfl ?_
  exact hQ Z2 _ (GD.two c1 d1 (okx_sixth o))
theorem law_7 (hn : 0 ≤ n ∧ n + 5 ≤ L) (hL : L ≤ 2560) (g : GD Z a) (hQ : ∀ Z2 a2, GD Z2 a2 → TL L xs 800 1438 n [] Z2) : TL L xs 800 449 n [] Z := by
  obtain ⟨A, B, o⟩ := g
  have wx := o.1
  have vx := o.2
  refine TL.x (ylk3 (by decide) (by decide +kernel)) ?_
  refine TL.arg (j := 1) (ylk3 (by decide) (by decide +kernel)) (ylk3 (by decide) (by decide +kernel)) (ylk3 (by decide) (by decide +kernel)) (ylk3 (by decide) (by decide +kernel)) (ylk3 (by decide) (by decide +kernel)) (by omega) hL ?_
  refine TL.call (a := 172) (y' := 92) (As := [.inr 0, .inl (xs (n + 1).toNat).toInt]) (rest := []) (ylk3 (by decide) (by decide +kernel)) rfl (TI.mono (K_feeds A wx (zxr _)) fun r1 Z1 p1 => ?_)
  have c1 : CS Z (oFeeds a (xs (n + 1).toNat).toInt).2 Z1 := ⟨p1.2.1, p1.2.2⟩
  have B1 : RX Z1 a := B.hi c1.2
  refine TL.pop (ylk3 (by decide) (by decide +kernel)) ?_
  refine TL.m (ylk3 (by decide) (by decide +kernel)) ?_
  refine TL.arg (j := 1) (ylk3 (by decide) (by decide +kernel)) (ylk3 (by decide) (by decide +kernel)) (ylk3 (by decide) (by decide +kernel)) (ylk3 (by decide) (by decide +kernel)) (ylk3 (by decide) (by decide +kernel)) (by omega) hL ?_
  refine TL.call (a := 173) (y' := 201) (As := [.inr 100, .inl (xs (n + 1).toNat).toInt]) (rest := []) (ylk3 (by decide) (by decide +kernel)) rfl (TI.mono (J_feeds B1 wx (zxr _)) fun r2 Z2 p2 => ?_)
  have d1 : RS Z1 (oFeeds a (xs (n + 1).toNat).toInt).2 Z2 := ⟨p2.2.1, p2.2.2⟩
  refine TL.pop (ylk3 (by decide) (by decide +kernel)) ?_
  refine TL.go (t := 1438) (b := 969) (ylk3 (by decide) (by decide +kernel)) rfl ?_
  exact hQ Z2 _ (GD.two c1 d1 (okx_feeds A.kb o))
theorem law_8 (hn : 0 ≤ n ∧ n + 5 ≤ L) (hL : L ≤ 2560) (g : GD Z a) (hQ : ∀ Z2 a2, GD Z2 a2 → TL L xs 800 1438 n [] Z2) : TL L xs 800 472 n [] Z := by
  obtain ⟨A, B, o⟩ := g
  have wx := o.1
  have vx := o.2
  refine TL.x (ylk3 (by decide) (by decide +kernel)) ?_
  refine TL.arg (j := 1) (ylk3 (by decide) (by decide +kernel)) (ylk3 (by decide) (by decide +kernel)) (ylk3 (by decide) (by decide +kernel)) (ylk3 (by decide) (by decide +kernel)) (ylk3 (by decide) (by decide +kernel)) (by omega) hL ?_
  refine TL.call (a := 174) (y' := 93) (As := [.inr 0, .inl (xs (n + 1).toNat).toInt]) (rest := []) (ylk3 (by decide) (by decide +kernel)) rfl (TI.mono (K_cat A wx (zxr _)) fun r1 Z1 p1 => ?_)
  have c1 : CS Z (oCat a (xs (n + 1).toNat).toInt).2 Z1 := ⟨p1.2.1, p1.2.2⟩
  have B1 : RX Z1 a := B.hi c1.2
  refine TL.pop (ylk3 (by decide) (by decide +kernel)) ?_
  refine TL.m (ylk3 (by decide) (by decide +kernel)) ?_
  refine TL.arg (j := 1) (ylk3 (by decide) (by decide +kernel)) (ylk3 (by decide) (by decide +kernel)) (ylk3 (by decide) (by decide +kernel)) (ylk3 (by decide) (by decide +kernel)) (ylk3 (by decide) (by decide +kernel)) (by omega) hL ?_
  refine TL.call (a := 175) (y' := 202) (As := [.inr 100, .inl (xs (n + 1).toNat).toInt]) (rest := []) (ylk3 (by decide) (by decide +kernel)) rfl (TI.mono (J_cat B1 wx (zxr _)) fun r2 Z2 p2 => ?_)
  have d1 : RS Z1 (oCat a (xs (n + 1).toNat).toInt).2 Z2 := ⟨p2.2.1, p2.2.2⟩
  refine TL.pop (ylk3 (by decide) (by decide +kernel)) ?_
  refine TL.go (t := 1438) (b := 946) (ylk3 (by decide) (by decide +kernel)) rfl ?_
  exact hQ Z2 _ (GD.two c1 d1 (okx_cat A.kb o))
theorem law_9 (hn : 0 ≤ n ∧ n + 5 ≤ L) (hL : L ≤ 2560) (g : GD Z a) (hQ : ∀ Z2 a2, GD Z2 a2 → TL L xs 800 1438 n [] Z2) : TL L xs 800 495 n [] Z := by
  obtain ⟨A, B, o⟩ := g
  have wx := o.1
  have vx := o.2
  refine TL.x (ylk3 (by decide) (by decide +kernel)) ?_
  refine TL.call (a := 176) (y' := 94) (As := [.inr 0]) (rest := []) (ylk3 (by decide) (by decide +kernel)) rfl (TI.mono (K_hawk A wx) fun r1 Z1 p1 => ?_)
  have c1 : CS Z (oHawk a).2 Z1 := ⟨p1.2.1, p1.2.2⟩
  have B1 : RX Z1 a := B.hi c1.2
  refine TL.pop (ylk3 (by decide) (by decide +kernel)) ?_
  refine TL.m (ylk3 (by decide) (by decide +kernel)) ?_
  refine TL.call (a := 177) (y' := 203) (As := [.inr 100]) (rest := []) (ylk3 (by decide) (by decide +kernel)) rfl (TI.mono (J_hawk B1 wx vx) fun r2 Z2 p2 => ?_)
  have d1 : RS Z1 (oHawk a).2 Z2 := ⟨p2.2.1, p2.2.2⟩
  refine TL.pop (ylk3 (by decide) (by decide +kernel)) ?_
  refine TL.go (t := 1438) (b := 933) (ylk3 (by decide) (by decide +kernel)) rfl ?_
  exact hQ Z2 _ (GD.two c1 d1 (okx_hawk A.kb o))
theorem law_10 (hn : 0 ≤ n ∧ n + 5 ≤ L) (hL : L ≤ 2560) (g : GD Z a) (hQ : ∀ Z2 a2, GD Z2 a2 → TL L xs 800 1438 n [] Z2) : TL L xs 800 508 n [] Z := by
  obtain ⟨A, B, o⟩ := g
  have wx := o.1
  have vx := o.2
  refine TL.x (ylk3 (by decide) (by decide +kernel)) ?_
  refine TL.call (a := 178) (y' := 95) (As := [.inr 0]) (rest := []) (ylk3 (by decide) (by decide +kernel)) rfl (TI.mono (K_rain A wx) fun r1 Z1 p1 => ?_)
  have c1 : CS Z (oRain a).2 Z1 := ⟨p1.2.1, p1.2.2⟩
  have B1 : RX Z1 a := B.hi c1.2
  refine TL.pop (ylk3 (by decide) (by decide +kernel)) ?_
  refine TL.m (ylk3 (by decide) (by decide +kernel)) ?_
  refine TL.call (a := 179) (y' := 204) (As := [.inr 100]) (rest := []) (ylk3 (by decide) (by decide +kernel)) rfl (TI.mono (J_rain B1 wx vx) fun r2 Z2 p2 => ?_)
  have d1 : RS Z1 (oRain a).2 Z2 := ⟨p2.2.1, p2.2.2⟩
  refine TL.pop (ylk3 (by decide) (by decide +kernel)) ?_
  refine TL.go (t := 1438) (b := 920) (ylk3 (by decide) (by decide +kernel)) rfl ?_
  exact hQ Z2 _ (GD.two c1 d1 (okx_rain A.kb o))
theorem law_11 (hn : 0 ≤ n ∧ n + 5 ≤ L) (hL : L ≤ 2560) (g : GD Z a) (hQ : ∀ Z2 a2, GD Z2 a2 → TL L xs 800 1438 n [] Z2) : TL L xs 800 521 n [] Z := by
  obtain ⟨A, B, o⟩ := g
  have wx := o.1
  have vx := o.2
  refine TL.x (ylk3 (by decide) (by decide +kernel)) ?_
  refine TL.call (a := 180) (y' := 96) (As := [.inr 0]) (rest := []) (ylk3 (by decide) (by decide +kernel)) rfl (TI.mono (K_back A wx) fun r1 Z1 p1 => ?_)
  have c1 : CS Z (oBack a).2 Z1 := ⟨p1.2.1, p1.2.2⟩
  have B1 : RX Z1 a := B.hi c1.2
  refine TL.pop (ylk3 (by decide) (by decide +kernel)) ?_
  refine TL.m (ylk3 (by decide) (by decide +kernel)) ?_
  refine TL.call (a := 181) (y' := 176) (As := [.inr 100]) (rest := []) (ylk3 (by decide) (by decide +kernel)) rfl (TI.mono (J_back B1 wx) fun r2 Z2 p2 => ?_)
  have d1 : RS Z1 (oBack a).2 Z2 := ⟨p2.2.1, p2.2.2⟩
  refine TL.pop (ylk3 (by decide) (by decide +kernel)) ?_
  refine TL.go (t := 1438) (b := 907) (ylk3 (by decide) (by decide +kernel)) rfl ?_
  exact hQ Z2 _ (GD.two c1 d1 (okx_back A.kb o))
theorem law_12 (hn : 0 ≤ n ∧ n + 5 ≤ L) (hL : L ≤ 2560) (g : GD Z a) (hQ : ∀ Z2 a2, GD Z2 a2 → TL L xs 800 1438 n [] Z2) : TL L xs 800 534 n [] Z := by
  obtain ⟨A, B, o⟩ := g
  have wx := o.1
  have vx := o.2
  refine TL.x (ylk3 (by decide) (by decide +kernel)) ?_
  refine TL.arg (j := 1) (ylk3 (by decide) (by decide +kernel)) (ylk3 (by decide) (by decide +kernel)) (ylk3 (by decide) (by decide +kernel)) (ylk4 (by decide) (by decide +kernel)) (ylk4 (by decide) (by decide +kernel)) (by omega) hL ?_
  refine TL.arg (j := 2) (ylk4 (by decide) (by decide +kernel)) (ylk4 (by decide) (by decide +kernel)) (ylk4 (by decide) (by decide +kernel)) (ylk4 (by decide) (by decide +kernel)) (ylk4 (by decide) (by decide +kernel)) (by omega) hL ?_
  refine TL.call (a := 182) (y' := 99) (As := [.inr 0, .inl (xs (n + 1).toNat).toInt, .inl (xs (n + 2).toNat).toInt]) (rest := []) (ylk4 (by decide) (by decide +kernel)) rfl (TI.mono (T_behind A wx (zxr _) (zxr _)) fun r1 Z1 p1 => ?_)
  have c1 := cs_q p1
  have B1 : RX Z1 a := B.hi c1.2
  refine TL.pop (ylk4 (by decide) (by decide +kernel)) ?_
  refine TL.m (ylk4 (by decide) (by decide +kernel)) ?_
  refine TL.arg (j := 1) (ylk4 (by decide) (by decide +kernel)) (ylk4 (by decide) (by decide +kernel)) (ylk4 (by decide) (by decide +kernel)) (ylk4 (by decide) (by decide +kernel)) (ylk4 (by decide) (by decide +kernel)) (by omega) hL ?_
  refine TL.arg (j := 2) (ylk4 (by decide) (by decide +kernel)) (ylk4 (by decide) (by decide +kernel)) (ylk4 (by decide) (by decide +kernel)) (ylk4 (by decide) (by decide +kernel)) (ylk4 (by decide) (by decide +kernel)) (by omega) hL ?_
  refine TL.call (a := 183) (y' := 207) (As := [.inr 100, .inl (xs (n + 1).toNat).toInt, .inl (xs (n + 2).toNat).toInt]) (rest := []) (ylk4 (by decide) (by decide +kernel)) rfl (TI.mono (U_behind B1 wx vx (zxr _) (zxr _)) fun r2 Z2 p2 => ?_)
  have d1 := rs_q p2
  refine TL.pop (ylk4 (by decide) (by decide +kernel)) ?_
  refine TL.go (t := 1438) (b := 874) (ylk4 (by decide) (by decide +kernel)) rfl ?_
  exact hQ Z2 _ (GD.two c1 d1 (okx_q o))
theorem law_13 (hn : 0 ≤ n ∧ n + 5 ≤ L) (hL : L ≤ 2560) (g : GD Z a) (hQ : ∀ Z2 a2, GD Z2 a2 → TL L xs 800 1438 n [] Z2) : TL L xs 800 567 n [] Z := by
  obtain ⟨A, B, o⟩ := g
  have wx := o.1
  have vx := o.2
  refine TL.x (ylk4 (by decide) (by decide +kernel)) ?_
  refine TL.arg (j := 1) (ylk4 (by decide) (by decide +kernel)) (ylk4 (by decide) (by decide +kernel)) (ylk4 (by decide) (by decide +kernel)) (ylk4 (by decide) (by decide +kernel)) (ylk4 (by decide) (by decide +kernel)) (by omega) hL ?_
  refine TL.arg (j := 2) (ylk4 (by decide) (by decide +kernel)) (ylk4 (by decide) (by decide +kernel)) (ylk4 (by decide) (by decide +kernel)) (ylk4 (by decide) (by decide +kernel)) (ylk4 (by decide) (by decide +kernel)) (by omega) hL ?_
  refine TL.call (a := 184) (y' := 100) (As := [.inr 0, .inl (xs (n + 1).toNat).toInt, .inl (xs (n + 2).toNat).toInt]) (rest := []) (ylk4 (by decide) (by decide +kernel)) rfl (TI.mono (T_where A wx (zxr _) (zxr _)) fun r1 Z1 p1 => ?_)
  have c1 := cs_q p1
  have B1 : RX Z1 a := B.hi c1.2
  refine TL.pop (ylk4 (by decide) (by decide +kernel)) ?_
  refine TL.m (ylk4 (by decide) (by decide +kernel)) ?_
  refine TL.arg (j := 1) (ylk4 (by decide) (by decide +kernel)) (ylk4 (by decide) (by decide +kernel)) (ylk4 (by decide) (by decide +kernel)) (ylk4 (by decide) (by decide +kernel)) (ylk4 (by decide) (by decide +kernel)) (by omega) hL ?_
  refine TL.arg (j := 2) (ylk4 (by decide) (by decide +kernel)) (ylk4 (by decide) (by decide +kernel)) (ylk4 (by decide) (by decide +kernel)) (ylk4 (by decide) (by decide +kernel)) (ylk4 (by decide) (by decide +kernel)) (by omega) hL ?_
  refine TL.call (a := 185) (y' := 208) (As := [.inr 100, .inl (xs (n + 1).toNat).toInt, .inl (xs (n + 2).toNat).toInt]) (rest := []) (ylk4 (by decide) (by decide +kernel)) rfl (TI.mono (U_where B1 wx vx (zxr _) (zxr _)) fun r2 Z2 p2 => ?_)
  have d1 := rs_q p2
  refine TL.pop (ylk4 (by decide) (by decide +kernel)) ?_
  refine TL.go (t := 1438) (b := 841) (ylk4 (by decide) (by decide +kernel)) rfl ?_
  exact hQ Z2 _ (GD.two c1 d1 (okx_q o))
theorem law_14 (hn : 0 ≤ n ∧ n + 5 ≤ L) (hL : L ≤ 2560) (g : GD Z a) (hQ : ∀ Z2 a2, GD Z2 a2 → TL L xs 800 1438 n [] Z2) : TL L xs 800 600 n [] Z := by
  obtain ⟨A, B, o⟩ := g
  have wx := o.1
  have vx := o.2
  refine TL.x (ylk4 (by decide) (by decide +kernel)) ?_
  refine TL.call (a := 186) (y' := 101) (As := [.inr 0]) (rest := []) (ylk4 (by decide) (by decide +kernel)) rfl (TI.mono (T_firstWrong A wx) fun r1 Z1 p1 => ?_)
  have c1 := cs_q p1
  have B1 : RX Z1 a := B.hi c1.2
  refine TL.pop (ylk4 (by decide) (by decide +kernel)) ?_
  refine TL.m (ylk4 (by decide) (by decide +kernel)) ?_
  refine TL.call (a := 187) (y' := 209) (As := [.inr 100]) (rest := []) (ylk4 (by decide) (by decide +kernel)) rfl (TI.mono (U_firstWrong B1 wx vx) fun r2 Z2 p2 => ?_)
  have d1 := rs_q p2
  refine TL.pop (ylk4 (by decide) (by decide +kernel)) ?_
  refine TL.go (t := 1438) (b := 828) (ylk4 (by decide) (by decide +kernel)) rfl ?_
  exact hQ Z2 _ (GD.two c1 d1 (okx_q o))
theorem law_15 (hn : 0 ≤ n ∧ n + 5 ≤ L) (hL : L ≤ 2560) (g : GD Z a) (hQ : ∀ Z2 a2, GD Z2 a2 → TL L xs 800 1438 n [] Z2) : TL L xs 800 613 n [] Z := by
  obtain ⟨A, B, o⟩ := g
  have wx := o.1
  have vx := o.2
  refine TL.x (ylk4 (by decide) (by decide +kernel)) ?_
  refine TL.arg (j := 1) (ylk4 (by decide) (by decide +kernel)) (ylk4 (by decide) (by decide +kernel)) (ylk5 (by decide) (by decide +kernel)) (ylk5 (by decide) (by decide +kernel)) (ylk5 (by decide) (by decide +kernel)) (by omega) hL ?_
  refine TL.call (a := 188) (y' := 102) (As := [.inr 0, .inl (xs (n + 1).toNat).toInt]) (rest := []) (ylk5 (by decide) (by decide +kernel)) rfl (TI.mono (T_allWrong A wx (zxr _)) fun r1 Z1 p1 => ?_)
  have c1 := cs_q p1
  have B1 : RX Z1 a := B.hi c1.2
  refine TL.pop (ylk5 (by decide) (by decide +kernel)) ?_
  refine TL.m (ylk5 (by decide) (by decide +kernel)) ?_
  refine TL.arg (j := 1) (ylk5 (by decide) (by decide +kernel)) (ylk5 (by decide) (by decide +kernel)) (ylk5 (by decide) (by decide +kernel)) (ylk5 (by decide) (by decide +kernel)) (ylk5 (by decide) (by decide +kernel)) (by omega) hL ?_
  refine TL.call (a := 189) (y' := 211) (As := [.inr 100, .inl (xs (n + 1).toNat).toInt]) (rest := []) (ylk5 (by decide) (by decide +kernel)) rfl (TI.mono (U_allWrong B1 wx vx (zxr _)) fun r2 Z2 p2 => ?_)
  have d1 := rs_q p2
  refine TL.pop (ylk5 (by decide) (by decide +kernel)) ?_
  refine TL.go (t := 1438) (b := 805) (ylk5 (by decide) (by decide +kernel)) rfl ?_
  exact hQ Z2 _ (GD.two c1 d1 (okx_q o))
theorem law_16 (hn : 0 ≤ n ∧ n + 5 ≤ L) (hL : L ≤ 2560) (g : GD Z a) (hQ : ∀ Z2 a2, GD Z2 a2 → TL L xs 800 1438 n [] Z2) : TL L xs 800 636 n [] Z := by
  obtain ⟨A, B, o⟩ := g
  have wx := o.1
  have vx := o.2
  refine TL.x (ylk5 (by decide) (by decide +kernel)) ?_
  refine TL.arg (j := 1) (ylk5 (by decide) (by decide +kernel)) (ylk5 (by decide) (by decide +kernel)) (ylk5 (by decide) (by decide +kernel)) (ylk5 (by decide) (by decide +kernel)) (ylk5 (by decide) (by decide +kernel)) (by omega) hL ?_
  refine TL.arg (j := 2) (ylk5 (by decide) (by decide +kernel)) (ylk5 (by decide) (by decide +kernel)) (ylk5 (by decide) (by decide +kernel)) (ylk5 (by decide) (by decide +kernel)) (ylk5 (by decide) (by decide +kernel)) (by omega) hL ?_
  refine TL.call (a := 190) (y' := 126) (As := [.inr 0, .inl (xs (n + 1).toNat).toInt, .inl (xs (n + 2).toNat).toInt]) (rest := []) (ylk5 (by decide) (by decide +kernel)) rfl (TI.mono (T_feeding A wx (zxr _) (zxr _)) fun r1 Z1 p1 => ?_)
  have c1 := cs_q p1
  have B1 : RX Z1 a := B.hi c1.2
  refine TL.pop (ylk5 (by decide) (by decide +kernel)) ?_
  refine TL.m (ylk5 (by decide) (by decide +kernel)) ?_
  refine TL.arg (j := 1) (ylk5 (by decide) (by decide +kernel)) (ylk5 (by decide) (by decide +kernel)) (ylk5 (by decide) (by decide +kernel)) (ylk5 (by decide) (by decide +kernel)) (ylk5 (by decide) (by decide +kernel)) (by omega) hL ?_
  refine TL.arg (j := 2) (ylk5 (by decide) (by decide +kernel)) (ylk5 (by decide) (by decide +kernel)) (ylk5 (by decide) (by decide +kernel)) (ylk5 (by decide) (by decide +kernel)) (ylk5 (by decide) (by decide +kernel)) (by omega) hL ?_
  refine TL.call (a := 191) (y' := 219) (As := [.inr 100, .inl (xs (n + 1).toNat).toInt, .inl (xs (n + 2).toNat).toInt]) (rest := []) (ylk5 (by decide) (by decide +kernel)) rfl (TI.mono (U_feeding B1 wx vx (zxr _) (zxr _)) fun r2 Z2 p2 => ?_)
  have d1 := rs_q p2
  refine TL.pop (ylk5 (by decide) (by decide +kernel)) ?_
  refine TL.go (t := 1438) (b := 772) (ylk5 (by decide) (by decide +kernel)) rfl ?_
  exact hQ Z2 _ (GD.two c1 d1 (okx_q o))
theorem law_17 (hn : 0 ≤ n ∧ n + 5 ≤ L) (hL : L ≤ 2560) (g : GD Z a) (hQ : ∀ Z2 a2, GD Z2 a2 → TL L xs 800 1438 n [] Z2) : TL L xs 800 669 n [] Z := by
  obtain ⟨A, B, o⟩ := g
  have wx := o.1
  have vx := o.2
  refine TL.x (ylk5 (by decide) (by decide +kernel)) ?_
  refine TL.arg (j := 1) (ylk5 (by decide) (by decide +kernel)) (ylk5 (by decide) (by decide +kernel)) (ylk5 (by decide) (by decide +kernel)) (ylk5 (by decide) (by decide +kernel)) (ylk5 (by decide) (by decide +kernel)) (by omega) hL ?_
  refine TL.call (a := 192) (y' := 117) (As := [.inr 0, .inl (xs (n + 1).toNat).toInt]) (rest := []) (ylk5 (by decide) (by decide +kernel)) rfl (TI.mono (T_closest A wx (zxr _)) fun r1 Z1 p1 => ?_)
  have c1 := cs_q p1
  have B1 : RX Z1 a := B.hi c1.2
  refine TL.pop (ylk5 (by decide) (by decide +kernel)) ?_
  refine TL.m (ylk5 (by decide) (by decide +kernel)) ?_
  refine TL.arg (j := 1) (ylk5 (by decide) (by decide +kernel)) (ylk5 (by decide) (by decide +kernel)) (ylk5 (by decide) (by decide +kernel)) (ylk5 (by decide) (by decide +kernel)) (ylk5 (by decide) (by decide +kernel)) (by omega) hL ?_
  refine TL.call (a := 193) (y' := 221) (As := [.inr 100, .inl (xs (n + 1).toNat).toInt]) (rest := []) (ylk5 (by decide) (by decide +kernel)) rfl (TI.mono (U_closest B1 wx vx (zxr _)) fun r2 Z2 p2 => ?_)
  have d1 := rs_q p2
  refine TL.pop (ylk5 (by decide) (by decide +kernel)) ?_
  refine TL.go (t := 1438) (b := 749) (ylk5 (by decide) (by decide +kernel)) rfl ?_
  exact hQ Z2 _ (GD.two c1 d1 (okx_q o))
theorem law_18 (hn : 0 ≤ n ∧ n + 5 ≤ L) (hL : L ≤ 2560) (g : GD Z a) (hQ : ∀ Z2 a2, GD Z2 a2 → TL L xs 800 1438 n [] Z2) : TL L xs 800 692 n [] Z := by
  obtain ⟨A, B, o⟩ := g
  have wx := o.1
  have vx := o.2
  refine TL.x (ylk5 (by decide) (by decide +kernel)) ?_
  refine TL.arg (j := 1) (ylk5 (by decide) (by decide +kernel)) (ylk6 (by decide) (by decide +kernel)) (ylk6 (by decide) (by decide +kernel)) (ylk6 (by decide) (by decide +kernel)) (ylk6 (by decide) (by decide +kernel)) (by omega) hL ?_
  refine TL.call (a := 194) (y' := 127) (As := [.inr 0, .inl (xs (n + 1).toNat).toInt]) (rest := []) (ylk6 (by decide) (by decide +kernel)) rfl (TI.mono (T_highest A wx (zxr _)) fun r1 Z1 p1 => ?_)
  have c1 := cs_q p1
  have B1 : RX Z1 a := B.hi c1.2
  refine TL.pop (ylk6 (by decide) (by decide +kernel)) ?_
  refine TL.m (ylk6 (by decide) (by decide +kernel)) ?_
  refine TL.arg (j := 1) (ylk6 (by decide) (by decide +kernel)) (ylk6 (by decide) (by decide +kernel)) (ylk6 (by decide) (by decide +kernel)) (ylk6 (by decide) (by decide +kernel)) (ylk6 (by decide) (by decide +kernel)) (by omega) hL ?_
  refine TL.call (a := 195) (y' := 222) (As := [.inr 100, .inl (xs (n + 1).toNat).toInt]) (rest := []) (ylk6 (by decide) (by decide +kernel)) rfl (TI.mono (U_highest B1 wx vx (zxr _)) fun r2 Z2 p2 => ?_)
  have d1 := rs_q p2
  refine TL.pop (ylk6 (by decide) (by decide +kernel)) ?_
  refine TL.go (t := 1438) (b := 726) (ylk6 (by decide) (by decide +kernel)) rfl ?_
  exact hQ Z2 _ (GD.two c1 d1 (okx_q o))
theorem law_19 (hn : 0 ≤ n ∧ n + 5 ≤ L) (hL : L ≤ 2560) (g : GD Z a) (hQ : ∀ Z2 a2, GD Z2 a2 → TL L xs 800 1438 n [] Z2) : TL L xs 800 715 n [] Z := by
  obtain ⟨A, B, o⟩ := g
  have wx := o.1
  have vx := o.2
  refine TL.x (ylk6 (by decide) (by decide +kernel)) ?_
  refine TL.call (a := 196) (y' := 110) (As := [.inr 0]) (rest := []) (ylk6 (by decide) (by decide +kernel)) rfl (TI.mono (T_happened A wx) fun r1 Z1 p1 => ?_)
  have c1 := cs_q p1
  have B1 : RX Z1 a := B.hi c1.2
  refine TL.pop (ylk6 (by decide) (by decide +kernel)) ?_
  refine TL.m (ylk6 (by decide) (by decide +kernel)) ?_
  refine TL.call (a := 197) (y' := 224) (As := [.inr 100]) (rest := []) (ylk6 (by decide) (by decide +kernel)) rfl (TI.mono (U_happened B1 wx vx) fun r2 Z2 p2 => ?_)
  have d1 := rs_q p2
  refine TL.pop (ylk6 (by decide) (by decide +kernel)) ?_
  refine TL.go (t := 1438) (b := 713) (ylk6 (by decide) (by decide +kernel)) rfl ?_
  exact hQ Z2 _ (GD.two c1 d1 (okx_q o))
theorem law_20 (hn : 0 ≤ n ∧ n + 5 ≤ L) (hL : L ≤ 2560) (g : GD Z a) (hQ : ∀ Z2 a2, GD Z2 a2 → TL L xs 800 1438 n [] Z2) : TL L xs 800 728 n [] Z := by
  obtain ⟨A, B, o⟩ := g
  have wx := o.1
  have vx := o.2
  refine TL.x (ylk6 (by decide) (by decide +kernel)) ?_
  refine TL.arg (j := 1) (ylk6 (by decide) (by decide +kernel)) (ylk6 (by decide) (by decide +kernel)) (ylk6 (by decide) (by decide +kernel)) (ylk6 (by decide) (by decide +kernel)) (ylk6 (by decide) (by decide +kernel)) (by omega) hL ?_
  refine TL.call (a := 198) (y' := 112) (As := [.inr 0, .inl (xs (n + 1).toNat).toInt]) (rest := []) (ylk6 (by decide) (by decide +kernel)) rfl (TI.mono (T_tells A wx (zxr _)) fun r1 Z1 p1 => ?_)
  have c1 := cs_q p1
  have B1 : RX Z1 a := B.hi c1.2
  refine TL.pop (ylk6 (by decide) (by decide +kernel)) ?_
  refine TL.m (ylk6 (by decide) (by decide +kernel)) ?_
  refine TL.arg (j := 1) (ylk6 (by decide) (by decide +kernel)) (ylk6 (by decide) (by decide +kernel)) (ylk6 (by decide) (by decide +kernel)) (ylk6 (by decide) (by decide +kernel)) (ylk6 (by decide) (by decide +kernel)) (by omega) hL ?_
  refine TL.call (a := 199) (y' := 226) (As := [.inr 100, .inl (xs (n + 1).toNat).toInt]) (rest := []) (ylk6 (by decide) (by decide +kernel)) rfl (TI.mono (U_tells B1 wx vx (zxr _)) fun r2 Z2 p2 => ?_)
  have d1 := rs_q p2
  refine TL.pop (ylk6 (by decide) (by decide +kernel)) ?_
  refine TL.go (t := 1438) (b := 690) (ylk6 (by decide) (by decide +kernel)) rfl ?_
  exact hQ Z2 _ (GD.two c1 d1 (okx_q o))
theorem law_21 (hn : 0 ≤ n ∧ n + 5 ≤ L) (hL : L ≤ 2560) (g : GD Z a) (hQ : ∀ Z2 a2, GD Z2 a2 → TL L xs 800 1438 n [] Z2) : TL L xs 800 751 n [] Z := by
  obtain ⟨A, B, o⟩ := g
  have wx := o.1
  have vx := o.2
  refine TL.x (ylk6 (by decide) (by decide +kernel)) ?_
  refine TL.call (a := 200) (y' := 132) (As := [.inr 0]) (rest := []) (ylk6 (by decide) (by decide +kernel)) rfl (TI.mono (T_mixed A wx) fun r1 Z1 p1 => ?_)
  have c1 := cs_q p1
  have B1 : RX Z1 a := B.hi c1.2
  refine TL.pop (ylk6 (by decide) (by decide +kernel)) ?_
  refine TL.m (ylk6 (by decide) (by decide +kernel)) ?_
  refine TL.call (a := 201) (y' := 228) (As := [.inr 100]) (rest := []) (ylk6 (by decide) (by decide +kernel)) rfl (TI.mono (U_mixed B1 wx) fun r2 Z2 p2 => ?_)
  have d1 := rs_q p2
  refine TL.pop (ylk6 (by decide) (by decide +kernel)) ?_
  refine TL.go (t := 1438) (b := 677) (ylk6 (by decide) (by decide +kernel)) rfl ?_
  exact hQ Z2 _ (GD.two c1 d1 (okx_q o))
theorem law_22 (hn : 0 ≤ n ∧ n + 5 ≤ L) (hL : L ≤ 2560) (g : GD Z a) (hQ : ∀ Z2 a2, GD Z2 a2 → TL L xs 800 1438 n [] Z2) : TL L xs 800 764 n [] Z := by
  obtain ⟨A, B, o⟩ := g
  have wx := o.1
  have vx := o.2
  refine TL.x (ylk6 (by decide) (by decide +kernel)) ?_
  refine TL.arg (j := 1) (ylk6 (by decide) (by decide +kernel)) (ylk6 (by decide) (by decide +kernel)) (ylk6 (by decide) (by decide +kernel)) (ylk6 (by decide) (by decide +kernel)) (ylk6 (by decide) (by decide +kernel)) (by omega) hL ?_
  refine TL.call (a := 202) (y' := 133) (As := [.inr 0, .inl (xs (n + 1).toNat).toInt]) (rest := []) (ylk6 (by decide) (by decide +kernel)) rfl (TI.mono (T_near A wx (zxr _)) fun r1 Z1 p1 => ?_)
  have c1 := cs_q p1
  have B1 : RX Z1 a := B.hi c1.2
  refine TL.pop (ylk6 (by decide) (by decide +kernel)) ?_
  refine TL.m (ylk6 (by decide) (by decide +kernel)) ?_
  refine TL.arg (j := 1) (ylk6 (by decide) (by decide +kernel)) (ylk6 (by decide) (by decide +kernel)) (ylk6 (by decide) (by decide +kernel)) (ylk6 (by decide) (by decide +kernel)) (ylk6 (by decide) (by decide +kernel)) (by omega) hL ?_
  refine TL.call (a := 203) (y' := 231) (As := [.inr 100, .inl (xs (n + 1).toNat).toInt]) (rest := []) (ylk7 (by decide) (by decide +kernel)) rfl (TI.mono (U_near B1 wx vx (zxr _)) fun r2 Z2 p2 => ?_)
  have d1 := rs_q p2
  refine TL.pop (ylk7 (by decide) (by decide +kernel)) ?_
  refine TL.go (t := 1438) (b := 654) (ylk7 (by decide) (by decide +kernel)) rfl ?_
  exact hQ Z2 _ (GD.two c1 d1 (okx_q o))
theorem law_23 (hn : 0 ≤ n ∧ n + 5 ≤ L) (hL : L ≤ 2560) (g : GD Z a) (hQ : ∀ Z2 a2, GD Z2 a2 → TL L xs 800 1438 n [] Z2) : TL L xs 800 787 n [] Z := by
  obtain ⟨A, B, o⟩ := g
  have wx := o.1
  have vx := o.2
  refine TL.x (ylk7 (by decide) (by decide +kernel)) ?_
  refine TL.arg (j := 1) (ylk7 (by decide) (by decide +kernel)) (ylk7 (by decide) (by decide +kernel)) (ylk7 (by decide) (by decide +kernel)) (ylk7 (by decide) (by decide +kernel)) (ylk7 (by decide) (by decide +kernel)) (by omega) hL ?_
  refine TL.call (a := 204) (y' := 135) (As := [.inr 0, .inl (xs (n + 1).toNat).toInt]) (rest := []) (ylk7 (by decide) (by decide +kernel)) rfl (TI.mono (T_read A wx (zxr _)) fun r1 Z1 p1 => ?_)
  have c1 := cs_q p1
  have B1 : RX Z1 a := B.hi c1.2
  refine TL.pop (ylk7 (by decide) (by decide +kernel)) ?_
  refine TL.m (ylk7 (by decide) (by decide +kernel)) ?_
  refine TL.arg (j := 1) (ylk7 (by decide) (by decide +kernel)) (ylk7 (by decide) (by decide +kernel)) (ylk7 (by decide) (by decide +kernel)) (ylk7 (by decide) (by decide +kernel)) (ylk7 (by decide) (by decide +kernel)) (by omega) hL ?_
  refine TL.call (a := 205) (y' := 233) (As := [.inr 100, .inl (xs (n + 1).toNat).toInt]) (rest := []) (ylk7 (by decide) (by decide +kernel)) rfl (TI.mono (U_read B1 wx (zxr _)) fun r2 Z2 p2 => ?_)
  have d1 := rs_q p2
  refine TL.pop (ylk7 (by decide) (by decide +kernel)) ?_
  refine TL.go (t := 1438) (b := 631) (ylk7 (by decide) (by decide +kernel)) rfl ?_
  exact hQ Z2 _ (GD.two c1 d1 (okx_q o))
theorem law_24 (hn : 0 ≤ n ∧ n + 5 ≤ L) (hL : L ≤ 2560) (g : GD Z a) (hQ : ∀ Z2 a2, GD Z2 a2 → TL L xs 800 1438 n [] Z2) : TL L xs 800 810 n [] Z := by
  obtain ⟨A, B, o⟩ := g
  have wx := o.1
  have vx := o.2
  refine TL.x (ylk7 (by decide) (by decide +kernel)) ?_
  refine TL.arg (j := 1) (ylk7 (by decide) (by decide +kernel)) (ylk7 (by decide) (by decide +kernel)) (ylk7 (by decide) (by decide +kernel)) (ylk7 (by decide) (by decide +kernel)) (ylk7 (by decide) (by decide +kernel)) (by omega) hL ?_
  refine TL.call (a := 206) (y' := 137) (As := [.inr 0, .inl (xs (n + 1).toNat).toInt]) (rest := []) (ylk7 (by decide) (by decide +kernel)) rfl (TI.mono (T_bestWeight A wx (zxr _)) fun r1 Z1 p1 => ?_)
  have c1 := cs_q p1
  have B1 : RX Z1 a := B.hi c1.2
  refine TL.pop (ylk7 (by decide) (by decide +kernel)) ?_
  refine TL.m (ylk7 (by decide) (by decide +kernel)) ?_
  refine TL.arg (j := 1) (ylk7 (by decide) (by decide +kernel)) (ylk7 (by decide) (by decide +kernel)) (ylk7 (by decide) (by decide +kernel)) (ylk7 (by decide) (by decide +kernel)) (ylk7 (by decide) (by decide +kernel)) (by omega) hL ?_
  refine TL.call (a := 207) (y' := 234) (As := [.inr 100, .inl (xs (n + 1).toNat).toInt]) (rest := []) (ylk7 (by decide) (by decide +kernel)) rfl (TI.mono (U_bestWeight B1 wx vx (zxr _)) fun r2 Z2 p2 => ?_)
  have d1 := rs_q p2
  refine TL.pop (ylk7 (by decide) (by decide +kernel)) ?_
  refine TL.go (t := 1438) (b := 608) (ylk7 (by decide) (by decide +kernel)) rfl ?_
  exact hQ Z2 _ (GD.two c1 d1 (okx_q o))
theorem law_25 (hn : 0 ≤ n ∧ n + 5 ≤ L) (hL : L ≤ 2560) (g : GD Z a) (hQ : ∀ Z2 a2, GD Z2 a2 → TL L xs 800 1438 n [] Z2) : TL L xs 800 833 n [] Z := by
  obtain ⟨A, B, o⟩ := g
  have wx := o.1
  have vx := o.2
  refine TL.x (ylk7 (by decide) (by decide +kernel)) ?_
  refine TL.arg (j := 1) (ylk7 (by decide) (by decide +kernel)) (ylk7 (by decide) (by decide +kernel)) (ylk7 (by decide) (by decide +kernel)) (ylk7 (by decide) (by decide +kernel)) (ylk7 (by decide) (by decide +kernel)) (by omega) hL ?_
  refine TL.arg (j := 2) (ylk7 (by decide) (by decide +kernel)) (ylk7 (by decide) (by decide +kernel)) (ylk7 (by decide) (by decide +kernel)) (ylk7 (by decide) (by decide +kernel)) (ylk7 (by decide) (by decide +kernel)) (by omega) hL ?_
  refine TL.call (a := 208) (y' := 139) (As := [.inr 0, .inl (xs (n + 1).toNat).toInt, .inl (xs (n + 2).toNat).toInt]) (rest := []) (ylk7 (by decide) (by decide +kernel)) rfl (TI.mono (T_bestWire A wx (zxr _) (zxr _)) fun r1 Z1 p1 => ?_)
  have c1 := cs_q p1
  have B1 : RX Z1 a := B.hi c1.2
  refine TL.pop (ylk7 (by decide) (by decide +kernel)) ?_
  refine TL.m (ylk7 (by decide) (by decide +kernel)) ?_
  refine TL.arg (j := 1) (ylk7 (by decide) (by decide +kernel)) (ylk7 (by decide) (by decide +kernel)) (ylk7 (by decide) (by decide +kernel)) (ylk7 (by decide) (by decide +kernel)) (ylk7 (by decide) (by decide +kernel)) (by omega) hL ?_
  refine TL.arg (j := 2) (ylk7 (by decide) (by decide +kernel)) (ylk7 (by decide) (by decide +kernel)) (ylk7 (by decide) (by decide +kernel)) (ylk7 (by decide) (by decide +kernel)) (ylk8 (by decide) (by decide +kernel)) (by omega) hL ?_
  refine TL.call (a := 209) (y' := 236) (As := [.inr 100, .inl (xs (n + 1).toNat).toInt, .inl (xs (n + 2).toNat).toInt]) (rest := []) (ylk8 (by decide) (by decide +kernel)) rfl (TI.mono (U_bestWire B1 wx (zxr _) (zxr _)) fun r2 Z2 p2 => ?_)
  have d1 := rs_q p2
  refine TL.pop (ylk8 (by decide) (by decide +kernel)) ?_
  refine TL.go (t := 1438) (b := 575) (ylk8 (by decide) (by decide +kernel)) rfl ?_
  exact hQ Z2 _ (GD.two c1 d1 (okx_q o))
theorem law_26 (hn : 0 ≤ n ∧ n + 5 ≤ L) (hL : L ≤ 2560) (g : GD Z a) (hQ : ∀ Z2 a2, GD Z2 a2 → TL L xs 800 1438 n [] Z2) : TL L xs 800 866 n [] Z := by
  obtain ⟨A, B, o⟩ := g
  have wx := o.1
  have vx := o.2
  refine TL.x (ylk8 (by decide) (by decide +kernel)) ?_
  refine TL.arg (j := 1) (ylk8 (by decide) (by decide +kernel)) (ylk8 (by decide) (by decide +kernel)) (ylk8 (by decide) (by decide +kernel)) (ylk8 (by decide) (by decide +kernel)) (ylk8 (by decide) (by decide +kernel)) (by omega) hL ?_
  refine TL.call (a := 210) (y' := 118) (As := [.inr 0, .inl (xs (n + 1).toNat).toInt]) (rest := []) (ylk8 (by decide) (by decide +kernel)) rfl (TI.mono (T_chord A wx (zxr _)) fun r1 Z1 p1 => ?_)
  have c1 := cs_q p1
  have B1 : RX Z1 a := B.hi c1.2
  refine TL.pop (ylk8 (by decide) (by decide +kernel)) ?_
  refine TL.m (ylk8 (by decide) (by decide +kernel)) ?_
  refine TL.arg (j := 1) (ylk8 (by decide) (by decide +kernel)) (ylk8 (by decide) (by decide +kernel)) (ylk8 (by decide) (by decide +kernel)) (ylk8 (by decide) (by decide +kernel)) (ylk8 (by decide) (by decide +kernel)) (by omega) hL ?_
  refine TL.call (a := 211) (y' := 239) (As := [.inr 100, .inl (xs (n + 1).toNat).toInt]) (rest := []) (ylk8 (by decide) (by decide +kernel)) rfl (TI.mono (U_chord B1 wx vx (zxr _)) fun r2 Z2 p2 => ?_)
  have d1 := rs_q p2
  refine TL.pop (ylk8 (by decide) (by decide +kernel)) ?_
  refine TL.go (t := 1438) (b := 552) (ylk8 (by decide) (by decide +kernel)) rfl ?_
  exact hQ Z2 _ (GD.two c1 d1 (okx_q o))
theorem law_27 (hn : 0 ≤ n ∧ n + 5 ≤ L) (hL : L ≤ 2560) (g : GD Z a) (hQ : ∀ Z2 a2, GD Z2 a2 → TL L xs 800 1438 n [] Z2) : TL L xs 800 889 n [] Z := by
  obtain ⟨A, B, o⟩ := g
  have wx := o.1
  have vx := o.2
  refine TL.x (ylk8 (by decide) (by decide +kernel)) ?_
  refine TL.arg (j := 1) (ylk8 (by decide) (by decide +kernel)) (ylk8 (by decide) (by decide +kernel)) (ylk8 (by decide) (by decide +kernel)) (ylk8 (by decide) (by decide +kernel)) (ylk8 (by decide) (by decide +kernel)) (by omega) hL ?_
  refine TL.call (a := 212) (y' := 128) (As := [.inr 0, .inl (xs (n + 1).toNat).toInt]) (rest := []) (ylk8 (by decide) (by decide +kernel)) rfl (TI.mono (T_plays A wx (zxr _)) fun r1 Z1 p1 => ?_)
  have c1 := cs_q p1
  have B1 : RX Z1 a := B.hi c1.2
  refine TL.pop (ylk8 (by decide) (by decide +kernel)) ?_
  refine TL.m (ylk8 (by decide) (by decide +kernel)) ?_
  refine TL.arg (j := 1) (ylk8 (by decide) (by decide +kernel)) (ylk8 (by decide) (by decide +kernel)) (ylk8 (by decide) (by decide +kernel)) (ylk8 (by decide) (by decide +kernel)) (ylk8 (by decide) (by decide +kernel)) (by omega) hL ?_
  refine TL.call (a := 213) (y' := 241) (As := [.inr 100, .inl (xs (n + 1).toNat).toInt]) (rest := []) (ylk8 (by decide) (by decide +kernel)) rfl (TI.mono (U_plays B1 wx vx (zxr _)) fun r2 Z2 p2 => ?_)
  have d1 := rs_q p2
  refine TL.pop (ylk8 (by decide) (by decide +kernel)) ?_
  refine TL.go (t := 1438) (b := 529) (ylk8 (by decide) (by decide +kernel)) rfl ?_
  exact hQ Z2 _ (GD.two c1 d1 (okx_q o))
theorem law_28 (hn : 0 ≤ n ∧ n + 5 ≤ L) (hL : L ≤ 2560) (g : GD Z a) (hQ : ∀ Z2 a2, GD Z2 a2 → TL L xs 800 1438 n [] Z2) : TL L xs 800 912 n [] Z := by
  obtain ⟨A, B, o⟩ := g
  have wx := o.1
  have vx := o.2
  refine TL.x (ylk8 (by decide) (by decide +kernel)) ?_
  refine TL.arg (j := 1) (ylk8 (by decide) (by decide +kernel)) (ylk8 (by decide) (by decide +kernel)) (ylk8 (by decide) (by decide +kernel)) (ylk8 (by decide) (by decide +kernel)) (ylk8 (by decide) (by decide +kernel)) (by omega) hL ?_
  refine TL.arg (j := 2) (ylk8 (by decide) (by decide +kernel)) (ylk8 (by decide) (by decide +kernel)) (ylk8 (by decide) (by decide +kernel)) (ylk8 (by decide) (by decide +kernel)) (ylk8 (by decide) (by decide +kernel)) (by omega) hL ?_
  refine TL.arg (j := 3) (ylk8 (by decide) (by decide +kernel)) (ylk8 (by decide) (by decide +kernel)) (ylk8 (by decide) (by decide +kernel)) (ylk8 (by decide) (by decide +kernel)) (ylk8 (by decide) (by decide +kernel)) (by omega) hL ?_
  refine TL.arg (j := 4) (ylk8 (by decide) (by decide +kernel)) (ylk8 (by decide) (by decide +kernel)) (ylk8 (by decide) (by decide +kernel)) (ylk8 (by decide) (by decide +kernel)) (ylk8 (by decide) (by decide +kernel)) (by omega) hL ?_
  refine TL.call (a := 214) (y' := 108) (As := [.inr 0, .inl (xs (n + 1).toNat).toInt, .inl (xs (n + 2).toNat).toInt, .inl (xs (n + 3).toNat).toInt, .inl (xs (n + 4).toNat).toInt]) (rest := []) (ylk8 (by decide) (by decide +kernel)) rfl (TI.mono (T_trains A wx (zxr _) (zxr _) (zxr _) (zxr _)) fun r1 Z1 p1 => ?_)
  have c1 := cs_q p1
  have B1 : RX Z1 a := B.hi c1.2
  refine TL.pop (ylk9 (by decide) (by decide +kernel)) ?_
  refine TL.m (ylk9 (by decide) (by decide +kernel)) ?_
  refine TL.arg (j := 1) (ylk9 (by decide) (by decide +kernel)) (ylk9 (by decide) (by decide +kernel)) (ylk9 (by decide) (by decide +kernel)) (ylk9 (by decide) (by decide +kernel)) (ylk9 (by decide) (by decide +kernel)) (by omega) hL ?_
  refine TL.arg (j := 2) (ylk9 (by decide) (by decide +kernel)) (ylk9 (by decide) (by decide +kernel)) (ylk9 (by decide) (by decide +kernel)) (ylk9 (by decide) (by decide +kernel)) (ylk9 (by decide) (by decide +kernel)) (by omega) hL ?_
  refine TL.arg (j := 3) (ylk9 (by decide) (by decide +kernel)) (ylk9 (by decide) (by decide +kernel)) (ylk9 (by decide) (by decide +kernel)) (ylk9 (by decide) (by decide +kernel)) (ylk9 (by decide) (by decide +kernel)) (by omega) hL ?_
  refine TL.arg (j := 4) (ylk9 (by decide) (by decide +kernel)) (ylk9 (by decide) (by decide +kernel)) (ylk9 (by decide) (by decide +kernel)) (ylk9 (by decide) (by decide +kernel)) (ylk9 (by decide) (by decide +kernel)) (by omega) hL ?_
  refine TL.call (a := 215) (y' := 243) (As := [.inr 100, .inl (xs (n + 1).toNat).toInt, .inl (xs (n + 2).toNat).toInt, .inl (xs (n + 3).toNat).toInt, .inl (xs (n + 4).toNat).toInt]) (rest := []) (ylk9 (by decide) (by decide +kernel)) rfl (TI.mono (U_trains B1 wx vx (zxr _) (zxr _) (zxr _) (zxr _)) fun r2 Z2 p2 => ?_)
  have d1 := rs_q p2
  refine TL.pop (ylk9 (by decide) (by decide +kernel)) ?_
  refine TL.go (t := 1438) (b := 476) (ylk9 (by decide) (by decide +kernel)) rfl ?_
  exact hQ Z2 _ (GD.two c1 d1 (okx_q o))
theorem law_29 (hn : 0 ≤ n ∧ n + 5 ≤ L) (hL : L ≤ 2560) (g : GD Z a) (hQ : ∀ Z2 a2, GD Z2 a2 → TL L xs 800 1438 n [] Z2) : TL L xs 800 965 n [] Z := by
  obtain ⟨A, B, o⟩ := g
  have wx := o.1
  have vx := o.2
  refine TL.x (ylk9 (by decide) (by decide +kernel)) ?_
  refine TL.arg (j := 1) (ylk9 (by decide) (by decide +kernel)) (ylk9 (by decide) (by decide +kernel)) (ylk9 (by decide) (by decide +kernel)) (ylk9 (by decide) (by decide +kernel)) (ylk9 (by decide) (by decide +kernel)) (by omega) hL ?_
  refine TL.call (a := 216) (y' := 129) (As := [.inr 0, .inl (xs (n + 1).toNat).toInt]) (rest := []) (ylk9 (by decide) (by decide +kernel)) rfl (TI.mono (T_whoMoved A wx (zxr _)) fun r1 Z1 p1 => ?_)
  have c1 := cs_q p1
  have B1 : RX Z1 a := B.hi c1.2
  refine TL.pop (ylk9 (by decide) (by decide +kernel)) ?_
  refine TL.m (ylk9 (by decide) (by decide +kernel)) ?_
  refine TL.arg (j := 1) (ylk9 (by decide) (by decide +kernel)) (ylk9 (by decide) (by decide +kernel)) (ylk9 (by decide) (by decide +kernel)) (ylk9 (by decide) (by decide +kernel)) (ylk9 (by decide) (by decide +kernel)) (by omega) hL ?_
  refine TL.call (a := 217) (y' := 244) (As := [.inr 100, .inl (xs (n + 1).toNat).toInt]) (rest := []) (ylk9 (by decide) (by decide +kernel)) rfl (TI.mono (U_whoMoved B1 wx vx (zxr _)) fun r2 Z2 p2 => ?_)
  have d1 := rs_q p2
  refine TL.pop (ylk9 (by decide) (by decide +kernel)) ?_
  refine TL.go (t := 1438) (b := 453) (ylk9 (by decide) (by decide +kernel)) rfl ?_
  exact hQ Z2 _ (GD.two c1 d1 (okx_q o))
theorem law_30 (hn : 0 ≤ n ∧ n + 5 ≤ L) (hL : L ≤ 2560) (g : GD Z a) (hQ : ∀ Z2 a2, GD Z2 a2 → TL L xs 800 1438 n [] Z2) : TL L xs 800 988 n [] Z := by
  obtain ⟨A, B, o⟩ := g
  have wx := o.1
  have vx := o.2
  refine TL.x (ylk9 (by decide) (by decide +kernel)) ?_
  refine TL.arg (j := 1) (ylk9 (by decide) (by decide +kernel)) (ylk9 (by decide) (by decide +kernel)) (ylk9 (by decide) (by decide +kernel)) (ylk9 (by decide) (by decide +kernel)) (ylk9 (by decide) (by decide +kernel)) (by omega) hL ?_
  refine TL.call (a := 218) (y' := 120) (As := [.inr 0, .inl (xs (n + 1).toNat).toInt]) (rest := []) (ylk9 (by decide) (by decide +kernel)) rfl (TI.mono (T_watch A wx (zxr _)) fun r1 Z1 p1 => ?_)
  have c1 := cs_q p1
  have B1 : RX Z1 a := B.hi c1.2
  refine TL.pop (ylk9 (by decide) (by decide +kernel)) ?_
  refine TL.m (ylk9 (by decide) (by decide +kernel)) ?_
  refine TL.arg (j := 1) (ylk9 (by decide) (by decide +kernel)) (ylk9 (by decide) (by decide +kernel)) (ylk9 (by decide) (by decide +kernel)) (ylk9 (by decide) (by decide +kernel)) (ylk9 (by decide) (by decide +kernel)) (by omega) hL ?_
  refine TL.call (a := 219) (y' := 248) (As := [.inr 100, .inl (xs (n + 1).toNat).toInt]) (rest := []) (ylk9 (by decide) (by decide +kernel)) rfl (TI.mono (U_watch B1 wx vx (zxr _)) fun r2 Z2 p2 => ?_)
  have d1 := rs_q p2
  refine TL.pop (ylk9 (by decide) (by decide +kernel)) ?_
  refine TL.go (t := 1438) (b := 430) (ylk9 (by decide) (by decide +kernel)) rfl ?_
  exact hQ Z2 _ (GD.two c1 d1 (okx_q o))
theorem law_31 (hn : 0 ≤ n ∧ n + 5 ≤ L) (hL : L ≤ 2560) (g : GD Z a) (hQ : ∀ Z2 a2, GD Z2 a2 → TL L xs 800 1438 n [] Z2) : TL L xs 800 1011 n [] Z := by
  obtain ⟨A, B, o⟩ := g
  have wx := o.1
  have vx := o.2
  refine TL.x (ylk9 (by decide) (by decide +kernel)) ?_
  refine TL.arg (j := 1) (ylk10 (by decide) (by decide +kernel)) (ylk10 (by decide) (by decide +kernel)) (ylk10 (by decide) (by decide +kernel)) (ylk10 (by decide) (by decide +kernel)) (ylk10 (by decide) (by decide +kernel)) (by omega) hL ?_
  refine TL.call (a := 220) (y' := 148) (As := [.inr 0, .inl (xs (n + 1).toNat).toInt]) (rest := []) (ylk10 (by decide) (by decide +kernel)) rfl (TI.mono (T_winter A (zxr _)) fun r1 Z1 p1 => ?_)
  have c1 := cs_q p1
  have B1 : RX Z1 a := B.hi c1.2
  refine TL.pop (ylk10 (by decide) (by decide +kernel)) ?_
  refine TL.m (ylk10 (by decide) (by decide +kernel)) ?_
  refine TL.arg (j := 1) (ylk10 (by decide) (by decide +kernel)) (ylk10 (by decide) (by decide +kernel)) (ylk10 (by decide) (by decide +kernel)) (ylk10 (by decide) (by decide +kernel)) (ylk10 (by decide) (by decide +kernel)) (by omega) hL ?_
  refine TL.call (a := 221) (y' := 251) (As := [.inr 100, .inl (xs (n + 1).toNat).toInt]) (rest := []) (ylk10 (by decide) (by decide +kernel)) rfl (TI.mono (U_winter B1 wx (zxr _)) fun r2 Z2 p2 => ?_)
  have d1 := rs_q p2
  refine TL.pop (ylk10 (by decide) (by decide +kernel)) ?_
  refine TL.go (t := 1438) (b := 407) (ylk10 (by decide) (by decide +kernel)) rfl ?_
  exact hQ Z2 _ (GD.two c1 d1 (okx_q o))
theorem law_32 (hn : 0 ≤ n ∧ n + 5 ≤ L) (hL : L ≤ 2560) (g : GD Z a) (hQ : ∀ Z2 a2, GD Z2 a2 → TL L xs 800 1438 n [] Z2) : TL L xs 800 1034 n [] Z := by
  obtain ⟨A, B, o⟩ := g
  have wx := o.1
  have vx := o.2
  refine TL.x (ylk10 (by decide) (by decide +kernel)) ?_
  refine TL.call (a := 222) (y' := 106) (As := [.inr 0]) (rest := []) (ylk10 (by decide) (by decide +kernel)) rfl (TI.mono (T_settled A wx) fun r1 Z1 p1 => ?_)
  have c1 := cs_q p1
  have B1 : RX Z1 a := B.hi c1.2
  refine TL.pop (ylk10 (by decide) (by decide +kernel)) ?_
  refine TL.m (ylk10 (by decide) (by decide +kernel)) ?_
  refine TL.call (a := 223) (y' := 252) (As := [.inr 100]) (rest := []) (ylk10 (by decide) (by decide +kernel)) rfl (TI.mono (U_settled B1 wx vx) fun r2 Z2 p2 => ?_)
  have d1 := rs_q p2
  refine TL.pop (ylk10 (by decide) (by decide +kernel)) ?_
  refine TL.go (t := 1438) (b := 394) (ylk10 (by decide) (by decide +kernel)) rfl ?_
  exact hQ Z2 _ (GD.two c1 d1 (okx_q o))
theorem law_33 (hn : 0 ≤ n ∧ n + 5 ≤ L) (hL : L ≤ 2560) (g : GD Z a) (hQ : ∀ Z2 a2, GD Z2 a2 → TL L xs 800 1438 n [] Z2) : TL L xs 800 1047 n [] Z := by
  obtain ⟨A, B, o⟩ := g
  have wx := o.1
  have vx := o.2
  refine TL.x (ylk10 (by decide) (by decide +kernel)) ?_
  refine TL.call (a := 224) (y' := 107) (As := [.inr 0]) (rest := []) (ylk10 (by decide) (by decide +kernel)) rfl (TI.mono (T_round A wx) fun r1 Z1 p1 => ?_)
  have c1 := cs_q p1
  have B1 : RX Z1 a := B.hi c1.2
  refine TL.pop (ylk10 (by decide) (by decide +kernel)) ?_
  refine TL.m (ylk10 (by decide) (by decide +kernel)) ?_
  refine TL.call (a := 225) (y' := 254) (As := [.inr 100]) (rest := []) (ylk10 (by decide) (by decide +kernel)) rfl (TI.mono (U_round B1 wx vx) fun r2 Z2 p2 => ?_)
  have d1 := rs_q p2
  refine TL.pop (ylk10 (by decide) (by decide +kernel)) ?_
  refine TL.go (t := 1438) (b := 381) (ylk10 (by decide) (by decide +kernel)) rfl ?_
  exact hQ Z2 _ (GD.two c1 d1 (okx_q o))
theorem law_34 (hn : 0 ≤ n ∧ n + 5 ≤ L) (hL : L ≤ 2560) (g : GD Z a) (hQ : ∀ Z2 a2, GD Z2 a2 → TL L xs 800 1438 n [] Z2) : TL L xs 800 1060 n [] Z := by
  obtain ⟨A, B, o⟩ := g
  have wx := o.1
  have vx := o.2
  refine TL.x (ylk10 (by decide) (by decide +kernel)) ?_
  refine TL.arg (j := 1) (ylk10 (by decide) (by decide +kernel)) (ylk10 (by decide) (by decide +kernel)) (ylk10 (by decide) (by decide +kernel)) (ylk10 (by decide) (by decide +kernel)) (ylk10 (by decide) (by decide +kernel)) (by omega) hL ?_
  refine TL.arg (j := 2) (ylk10 (by decide) (by decide +kernel)) (ylk10 (by decide) (by decide +kernel)) (ylk10 (by decide) (by decide +kernel)) (ylk10 (by decide) (by decide +kernel)) (ylk10 (by decide) (by decide +kernel)) (by omega) hL ?_
  refine TL.call (a := 226) (y' := 123) (As := [.inr 0, .inl (xs (n + 1).toNat).toInt, .inl (xs (n + 2).toNat).toInt]) (rest := []) (ylk10 (by decide) (by decide +kernel)) rfl (TI.mono (T_always A wx (zxr _) (zxr _)) fun r1 Z1 p1 => ?_)
  have c1 := cs_q p1
  have B1 : RX Z1 a := B.hi c1.2
  refine TL.pop (ylk10 (by decide) (by decide +kernel)) ?_
  refine TL.m (ylk10 (by decide) (by decide +kernel)) ?_
  refine TL.arg (j := 1) (ylk10 (by decide) (by decide +kernel)) (ylk10 (by decide) (by decide +kernel)) (ylk10 (by decide) (by decide +kernel)) (ylk10 (by decide) (by decide +kernel)) (ylk10 (by decide) (by decide +kernel)) (by omega) hL ?_
  refine TL.arg (j := 2) (ylk10 (by decide) (by decide +kernel)) (ylk10 (by decide) (by decide +kernel)) (ylk10 (by decide) (by decide +kernel)) (ylk10 (by decide) (by decide +kernel)) (ylk10 (by decide) (by decide +kernel)) (by omega) hL ?_
  refine TL.call (a := 227) (y' := 255) (As := [.inr 100, .inl (xs (n + 1).toNat).toInt, .inl (xs (n + 2).toNat).toInt]) (rest := []) (ylk10 (by decide) (by decide +kernel)) rfl (TI.mono (U_always B1 wx vx (zxr _) (zxr _)) fun r2 Z2 p2 => ?_)
  have d1 := rs_q p2
  refine TL.pop (ylk10 (by decide) (by decide +kernel)) ?_
  refine TL.go (t := 1438) (b := 348) (ylk10 (by decide) (by decide +kernel)) rfl ?_
  exact hQ Z2 _ (GD.two c1 d1 (okx_q o))
theorem law_35 (hn : 0 ≤ n ∧ n + 5 ≤ L) (hL : L ≤ 2560) (g : GD Z a) (hQ : ∀ Z2 a2, GD Z2 a2 → TL L xs 800 1438 n [] Z2) : TL L xs 800 1093 n [] Z := by
  obtain ⟨A, B, o⟩ := g
  have wx := o.1
  have vx := o.2
  refine TL.x (ylk10 (by decide) (by decide +kernel)) ?_
  refine TL.call (a := 228) (y' := 114) (As := [.inr 0]) (rest := []) (ylk10 (by decide) (by decide +kernel)) rfl (TI.mono (T_catWorth A wx) fun r1 Z1 p1 => ?_)
  have c1 := cs_q p1
  have B1 : RX Z1 a := B.hi c1.2
  refine TL.pop (ylk10 (by decide) (by decide +kernel)) ?_
  refine TL.m (ylk11 (by decide) (by decide +kernel)) ?_
  refine TL.call (a := 229) (y' := 256) (As := [.inr 100]) (rest := []) (ylk11 (by decide) (by decide +kernel)) rfl (TI.mono (U_catWorth B1 wx vx) fun r2 Z2 p2 => ?_)
  have d1 := rs_q p2
  refine TL.pop (ylk11 (by decide) (by decide +kernel)) ?_
  refine TL.go (t := 1438) (b := 335) (ylk11 (by decide) (by decide +kernel)) rfl ?_
  exact hQ Z2 _ (GD.two c1 d1 (okx_q o))
theorem law_36 (hn : 0 ≤ n ∧ n + 5 ≤ L) (hL : L ≤ 2560) (g : GD Z a) (hQ : ∀ Z2 a2, GD Z2 a2 → TL L xs 800 1438 n [] Z2) : TL L xs 800 1106 n [] Z := by
  obtain ⟨A, B, o⟩ := g
  have wx := o.1
  have vx := o.2
  refine TL.x (ylk11 (by decide) (by decide +kernel)) ?_
  refine TL.arg (j := 1) (ylk11 (by decide) (by decide +kernel)) (ylk11 (by decide) (by decide +kernel)) (ylk11 (by decide) (by decide +kernel)) (ylk11 (by decide) (by decide +kernel)) (ylk11 (by decide) (by decide +kernel)) (by omega) hL ?_
  refine TL.call (a := 230) (y' := 142) (As := [.inr 0, .inl (xs (n + 1).toNat).toInt]) (rest := []) (ylk11 (by decide) (by decide +kernel)) rfl (TI.mono (T_spread A wx (zxr _)) fun r1 Z1 p1 => ?_)
  have c1 := cs_q p1
  have B1 : RX Z1 a := B.hi c1.2
  refine TL.pop (ylk11 (by decide) (by decide +kernel)) ?_
  refine TL.m (ylk11 (by decide) (by decide +kernel)) ?_
  refine TL.arg (j := 1) (ylk11 (by decide) (by decide +kernel)) (ylk11 (by decide) (by decide +kernel)) (ylk11 (by decide) (by decide +kernel)) (ylk11 (by decide) (by decide +kernel)) (ylk11 (by decide) (by decide +kernel)) (by omega) hL ?_
  refine TL.call (a := 231) (y' := 260) (As := [.inr 100, .inl (xs (n + 1).toNat).toInt]) (rest := []) (ylk11 (by decide) (by decide +kernel)) rfl (TI.mono (U_spread B1 wx (zxr _)) fun r2 Z2 p2 => ?_)
  have d1 := rs_q p2
  refine TL.pop (ylk11 (by decide) (by decide +kernel)) ?_
  refine TL.go (t := 1438) (b := 312) (ylk11 (by decide) (by decide +kernel)) rfl ?_
  exact hQ Z2 _ (GD.two c1 d1 (okx_q o))
theorem law_37 (hn : 0 ≤ n ∧ n + 5 ≤ L) (hL : L ≤ 2560) (g : GD Z a) (hQ : ∀ Z2 a2, GD Z2 a2 → TL L xs 800 1438 n [] Z2) : TL L xs 800 1129 n [] Z := by
  obtain ⟨A, B, o⟩ := g
  have wx := o.1
  have vx := o.2
  refine TL.x (ylk11 (by decide) (by decide +kernel)) ?_
  refine TL.arg (j := 1) (ylk11 (by decide) (by decide +kernel)) (ylk11 (by decide) (by decide +kernel)) (ylk11 (by decide) (by decide +kernel)) (ylk11 (by decide) (by decide +kernel)) (ylk11 (by decide) (by decide +kernel)) (by omega) hL ?_
  refine TL.arg (j := 2) (ylk11 (by decide) (by decide +kernel)) (ylk11 (by decide) (by decide +kernel)) (ylk11 (by decide) (by decide +kernel)) (ylk11 (by decide) (by decide +kernel)) (ylk11 (by decide) (by decide +kernel)) (by omega) hL ?_
  refine TL.call (a := 232) (y' := 104) (As := [.inr 0, .inl (xs (n + 1).toNat).toInt, .inl (xs (n + 2).toNat).toInt]) (rest := []) (ylk11 (by decide) (by decide +kernel)) rfl (TI.mono (T_later A wx (zxr _) (zxr _)) fun r1 Z1 p1 => ?_)
  have c1 := cs_q p1
  have B1 : RX Z1 a := B.hi c1.2
  refine TL.pop (ylk11 (by decide) (by decide +kernel)) ?_
  refine TL.m (ylk11 (by decide) (by decide +kernel)) ?_
  refine TL.arg (j := 1) (ylk11 (by decide) (by decide +kernel)) (ylk11 (by decide) (by decide +kernel)) (ylk11 (by decide) (by decide +kernel)) (ylk11 (by decide) (by decide +kernel)) (ylk11 (by decide) (by decide +kernel)) (by omega) hL ?_
  refine TL.arg (j := 2) (ylk11 (by decide) (by decide +kernel)) (ylk11 (by decide) (by decide +kernel)) (ylk11 (by decide) (by decide +kernel)) (ylk11 (by decide) (by decide +kernel)) (ylk11 (by decide) (by decide +kernel)) (by omega) hL ?_
  refine TL.call (a := 233) (y' := 261) (As := [.inr 100, .inl (xs (n + 1).toNat).toInt, .inl (xs (n + 2).toNat).toInt]) (rest := []) (ylk11 (by decide) (by decide +kernel)) rfl (TI.mono (U_later B1 wx vx (zxr _) (zxr _)) fun r2 Z2 p2 => ?_)
  have d1 := rs_q p2
  refine TL.pop (ylk11 (by decide) (by decide +kernel)) ?_
  refine TL.go (t := 1438) (b := 279) (ylk11 (by decide) (by decide +kernel)) rfl ?_
  exact hQ Z2 _ (GD.two c1 d1 (okx_q o))
theorem law_38 (hn : 0 ≤ n ∧ n + 5 ≤ L) (hL : L ≤ 2560) (g : GD Z a) (hQ : ∀ Z2 a2, GD Z2 a2 → TL L xs 800 1438 n [] Z2) : TL L xs 800 1162 n [] Z := by
  obtain ⟨A, B, o⟩ := g
  have wx := o.1
  have vx := o.2
  refine TL.x (ylk11 (by decide) (by decide +kernel)) ?_
  refine TL.arg (j := 1) (ylk11 (by decide) (by decide +kernel)) (ylk11 (by decide) (by decide +kernel)) (ylk11 (by decide) (by decide +kernel)) (ylk11 (by decide) (by decide +kernel)) (ylk11 (by decide) (by decide +kernel)) (by omega) hL ?_
  refine TL.call (a := 234) (y' := 105) (As := [.inr 0, .inl (xs (n + 1).toNat).toInt]) (rest := []) (ylk11 (by decide) (by decide +kernel)) rfl (TI.mono (T_stayed A wx (zxr _)) fun r1 Z1 p1 => ?_)
  have c1 := cs_q p1
  have B1 : RX Z1 a := B.hi c1.2
  refine TL.pop (ylk11 (by decide) (by decide +kernel)) ?_
  refine TL.m (ylk11 (by decide) (by decide +kernel)) ?_
  refine TL.arg (j := 1) (ylk11 (by decide) (by decide +kernel)) (ylk11 (by decide) (by decide +kernel)) (ylk11 (by decide) (by decide +kernel)) (ylk12 (by decide) (by decide +kernel)) (ylk12 (by decide) (by decide +kernel)) (by omega) hL ?_
  refine TL.call (a := 235) (y' := 262) (As := [.inr 100, .inl (xs (n + 1).toNat).toInt]) (rest := []) (ylk12 (by decide) (by decide +kernel)) rfl (TI.mono (U_stayed B1 wx vx (zxr _)) fun r2 Z2 p2 => ?_)
  have d1 := rs_q p2
  refine TL.pop (ylk12 (by decide) (by decide +kernel)) ?_
  refine TL.go (t := 1438) (b := 256) (ylk12 (by decide) (by decide +kernel)) rfl ?_
  exact hQ Z2 _ (GD.two c1 d1 (okx_q o))
theorem law_39 (hn : 0 ≤ n ∧ n + 5 ≤ L) (hL : L ≤ 2560) (g : GD Z a) (hQ : ∀ Z2 a2, GD Z2 a2 → TL L xs 800 1438 n [] Z2) : TL L xs 800 1185 n [] Z := by
  obtain ⟨A, B, o⟩ := g
  have wx := o.1
  have vx := o.2
  refine TL.x (ylk12 (by decide) (by decide +kernel)) ?_
  refine TL.arg (j := 1) (ylk12 (by decide) (by decide +kernel)) (ylk12 (by decide) (by decide +kernel)) (ylk12 (by decide) (by decide +kernel)) (ylk12 (by decide) (by decide +kernel)) (ylk12 (by decide) (by decide +kernel)) (by omega) hL ?_
  refine TL.arg (j := 2) (ylk12 (by decide) (by decide +kernel)) (ylk12 (by decide) (by decide +kernel)) (ylk12 (by decide) (by decide +kernel)) (ylk12 (by decide) (by decide +kernel)) (ylk12 (by decide) (by decide +kernel)) (by omega) hL ?_
  refine TL.arg (j := 3) (ylk12 (by decide) (by decide +kernel)) (ylk12 (by decide) (by decide +kernel)) (ylk12 (by decide) (by decide +kernel)) (ylk12 (by decide) (by decide +kernel)) (ylk12 (by decide) (by decide +kernel)) (by omega) hL ?_
  refine TL.call (a := 236) (y' := 130) (As := [.inr 0, .inl (xs (n + 1).toNat).toInt, .inl (xs (n + 2).toNat).toInt, .inl (xs (n + 3).toNat).toInt]) (rest := []) (ylk12 (by decide) (by decide +kernel)) rfl (TI.mono (T_lured A wx (zxr _) (zxr _) (zxr _)) fun r1 Z1 p1 => ?_)
  have c1 := cs_q p1
  have B1 : RX Z1 a := B.hi c1.2
  refine TL.pop (ylk12 (by decide) (by decide +kernel)) ?_
  refine TL.m (ylk12 (by decide) (by decide +kernel)) ?_
  refine TL.arg (j := 1) (ylk12 (by decide) (by decide +kernel)) (ylk12 (by decide) (by decide +kernel)) (ylk12 (by decide) (by decide +kernel)) (ylk12 (by decide) (by decide +kernel)) (ylk12 (by decide) (by decide +kernel)) (by omega) hL ?_
  refine TL.arg (j := 2) (ylk12 (by decide) (by decide +kernel)) (ylk12 (by decide) (by decide +kernel)) (ylk12 (by decide) (by decide +kernel)) (ylk12 (by decide) (by decide +kernel)) (ylk12 (by decide) (by decide +kernel)) (by omega) hL ?_
  refine TL.arg (j := 3) (ylk12 (by decide) (by decide +kernel)) (ylk12 (by decide) (by decide +kernel)) (ylk12 (by decide) (by decide +kernel)) (ylk12 (by decide) (by decide +kernel)) (ylk12 (by decide) (by decide +kernel)) (by omega) hL ?_
  refine TL.call (a := 237) (y' := 265) (As := [.inr 100, .inl (xs (n + 1).toNat).toInt, .inl (xs (n + 2).toNat).toInt, .inl (xs (n + 3).toNat).toInt]) (rest := []) (ylk12 (by decide) (by decide +kernel)) rfl (TI.mono (U_lured B1 wx vx (zxr _) (zxr _) (zxr _)) fun r2 Z2 p2 => ?_)
  have d1 := rs_q p2
  refine TL.pop (ylk12 (by decide) (by decide +kernel)) ?_
  refine TL.go (t := 1438) (b := 213) (ylk12 (by decide) (by decide +kernel)) rfl ?_
  exact hQ Z2 _ (GD.two c1 d1 (okx_q o))
theorem law_40 (hn : 0 ≤ n ∧ n + 5 ≤ L) (hL : L ≤ 2560) (g : GD Z a) (hQ : ∀ Z2 a2, GD Z2 a2 → TL L xs 800 1438 n [] Z2) : TL L xs 800 1228 n [] Z := by
  obtain ⟨A, B, o⟩ := g
  have wx := o.1
  have vx := o.2
  refine TL.x (ylk12 (by decide) (by decide +kernel)) ?_
  refine TL.arg (j := 1) (ylk12 (by decide) (by decide +kernel)) (ylk12 (by decide) (by decide +kernel)) (ylk12 (by decide) (by decide +kernel)) (ylk12 (by decide) (by decide +kernel)) (ylk12 (by decide) (by decide +kernel)) (by omega) hL ?_
  refine TL.arg (j := 2) (ylk12 (by decide) (by decide +kernel)) (ylk12 (by decide) (by decide +kernel)) (ylk12 (by decide) (by decide +kernel)) (ylk12 (by decide) (by decide +kernel)) (ylk12 (by decide) (by decide +kernel)) (by omega) hL ?_
  refine TL.call (a := 238) (y' := 103) (As := [.inr 0, .inl (xs (n + 1).toNat).toInt, .inl (xs (n + 2).toNat).toInt]) (rest := []) (ylk12 (by decide) (by decide +kernel)) rfl (TI.mono (T_right A wx (zxr _) (zxr _)) fun r1 Z1 p1 => ?_)
  have c1 := cs_q p1
  have B1 : RX Z1 a := B.hi c1.2
  refine TL.pop (ylk12 (by decide) (by decide +kernel)) ?_
  refine TL.m (ylk12 (by decide) (by decide +kernel)) ?_
  refine TL.arg (j := 1) (ylk12 (by decide) (by decide +kernel)) (ylk12 (by decide) (by decide +kernel)) (ylk12 (by decide) (by decide +kernel)) (ylk12 (by decide) (by decide +kernel)) (ylk13 (by decide) (by decide +kernel)) (by omega) hL ?_
  refine TL.arg (j := 2) (ylk13 (by decide) (by decide +kernel)) (ylk13 (by decide) (by decide +kernel)) (ylk13 (by decide) (by decide +kernel)) (ylk13 (by decide) (by decide +kernel)) (ylk13 (by decide) (by decide +kernel)) (by omega) hL ?_
  refine TL.call (a := 239) (y' := 266) (As := [.inr 100, .inl (xs (n + 1).toNat).toInt, .inl (xs (n + 2).toNat).toInt]) (rest := []) (ylk13 (by decide) (by decide +kernel)) rfl (TI.mono (U_right B1 wx vx (zxr _) (zxr _)) fun r2 Z2 p2 => ?_)
  have d1 := rs_q p2
  refine TL.pop (ylk13 (by decide) (by decide +kernel)) ?_
  refine TL.go (t := 1438) (b := 180) (ylk13 (by decide) (by decide +kernel)) rfl ?_
  exact hQ Z2 _ (GD.two c1 d1 (okx_q o))
theorem law_41 (hn : 0 ≤ n ∧ n + 5 ≤ L) (hL : L ≤ 2560) (g : GD Z a) (hQ : ∀ Z2 a2, GD Z2 a2 → TL L xs 800 1438 n [] Z2) : TL L xs 800 1261 n [] Z := by
  obtain ⟨A, B, o⟩ := g
  have wx := o.1
  have vx := o.2
  refine TL.x (ylk13 (by decide) (by decide +kernel)) ?_
  refine TL.call (a := 240) (y' := 141) (As := [.inr 0]) (rest := []) (ylk13 (by decide) (by decide +kernel)) rfl (TI.mono (T_worstBird A wx) fun r1 Z1 p1 => ?_)
  have c1 := cs_q p1
  have B1 : RX Z1 a := B.hi c1.2
  refine TL.pop (ylk13 (by decide) (by decide +kernel)) ?_
  refine TL.m (ylk13 (by decide) (by decide +kernel)) ?_
  refine TL.call (a := 241) (y' := 267) (As := [.inr 100]) (rest := []) (ylk13 (by decide) (by decide +kernel)) rfl (TI.mono (U_worstBird B1 wx) fun r2 Z2 p2 => ?_)
  have d1 := rs_q p2
  refine TL.pop (ylk13 (by decide) (by decide +kernel)) ?_
  refine TL.go (t := 1438) (b := 167) (ylk13 (by decide) (by decide +kernel)) rfl ?_
  exact hQ Z2 _ (GD.two c1 d1 (okx_q o))
theorem law_42 (hn : 0 ≤ n ∧ n + 5 ≤ L) (hL : L ≤ 2560) (g : GD Z a) (hQ : ∀ Z2 a2, GD Z2 a2 → TL L xs 800 1438 n [] Z2) : TL L xs 800 1274 n [] Z := by
  obtain ⟨A, B, o⟩ := g
  have wx := o.1
  have vx := o.2
  refine TL.x (ylk13 (by decide) (by decide +kernel)) ?_
  refine TL.arg (j := 1) (ylk13 (by decide) (by decide +kernel)) (ylk13 (by decide) (by decide +kernel)) (ylk13 (by decide) (by decide +kernel)) (ylk13 (by decide) (by decide +kernel)) (ylk13 (by decide) (by decide +kernel)) (by omega) hL ?_
  refine TL.call (a := 242) (y' := 131) (As := [.inr 0, .inl (xs (n + 1).toNat).toInt]) (rest := []) (ylk13 (by decide) (by decide +kernel)) rfl (TI.mono (T_gather A wx (zxr _)) fun r1 Z1 p1 => ?_)
  have c1 := cs_q p1
  have B1 : RX Z1 a := B.hi c1.2
  refine TL.pop (ylk13 (by decide) (by decide +kernel)) ?_
  refine TL.m (ylk13 (by decide) (by decide +kernel)) ?_
  refine TL.arg (j := 1) (ylk13 (by decide) (by decide +kernel)) (ylk13 (by decide) (by decide +kernel)) (ylk13 (by decide) (by decide +kernel)) (ylk13 (by decide) (by decide +kernel)) (ylk13 (by decide) (by decide +kernel)) (by omega) hL ?_
  refine TL.call (a := 243) (y' := 268) (As := [.inr 100, .inl (xs (n + 1).toNat).toInt]) (rest := []) (ylk13 (by decide) (by decide +kernel)) rfl (TI.mono (U_gather B1 wx vx (zxr _)) fun r2 Z2 p2 => ?_)
  have d1 := rs_q p2
  refine TL.pop (ylk13 (by decide) (by decide +kernel)) ?_
  refine TL.go (t := 1438) (b := 144) (ylk13 (by decide) (by decide +kernel)) rfl ?_
  exact hQ Z2 _ (GD.two c1 d1 (okx_q o))
theorem law_43 (hn : 0 ≤ n ∧ n + 5 ≤ L) (hL : L ≤ 2560) (g : GD Z a) (hQ : ∀ Z2 a2, GD Z2 a2 → TL L xs 800 1438 n [] Z2) : TL L xs 800 1297 n [] Z := by
  obtain ⟨A, B, o⟩ := g
  have wx := o.1
  have vx := o.2
  refine TL.x (ylk13 (by decide) (by decide +kernel)) ?_
  refine TL.arg (j := 1) (ylk13 (by decide) (by decide +kernel)) (ylk13 (by decide) (by decide +kernel)) (ylk13 (by decide) (by decide +kernel)) (ylk13 (by decide) (by decide +kernel)) (ylk13 (by decide) (by decide +kernel)) (by omega) hL ?_
  refine TL.call (a := 244) (y' := 145) (As := [.inr 0, .inl (xs (n + 1).toNat).toInt]) (rest := []) (ylk13 (by decide) (by decide +kernel)) rfl (TI.mono (K_row A (zxr _)) fun r1 Z1 p1 => ?_)
  have c1 : CS Z (oRow a (xs (n + 1).toNat).toInt).2 Z1 := ⟨p1.2.1, p1.2.2⟩
  have B1 : RX Z1 a := B.hi c1.2
  refine TL.pop (ylk13 (by decide) (by decide +kernel)) ?_
  refine TL.m (ylk13 (by decide) (by decide +kernel)) ?_
  refine TL.arg (j := 1) (ylk13 (by decide) (by decide +kernel)) (ylk13 (by decide) (by decide +kernel)) (ylk13 (by decide) (by decide +kernel)) (ylk13 (by decide) (by decide +kernel)) (ylk13 (by decide) (by decide +kernel)) (by omega) hL ?_
  refine TL.call (a := 245) (y' := 269) (As := [.inr 100, .inl (xs (n + 1).toNat).toInt]) (rest := []) (ylk13 (by decide) (by decide +kernel)) rfl (TI.mono (J_row B1 wx (zxr _)) fun r2 Z2 p2 => ?_)
  have d1 : RS Z1 (oRow a (xs (n + 1).toNat).toInt).2 Z2 := ⟨p2.2.1, p2.2.2⟩
  refine TL.pop (ylk13 (by decide) (by decide +kernel)) ?_
  refine TL.go (t := 1438) (b := 121) (ylk13 (by decide) (by decide +kernel)) rfl ?_
  exact hQ Z2 _ (GD.two c1 d1 (okx_res o fun _ => o))
theorem law_44 (hn : 0 ≤ n ∧ n + 5 ≤ L) (hL : L ≤ 2560) (g : GD Z a) (hQ : ∀ Z2 a2, GD Z2 a2 → TL L xs 800 1438 n [] Z2) : TL L xs 800 1320 n [] Z := by
  obtain ⟨A, B, o⟩ := g
  have wx := o.1
  have vx := o.2
  refine TL.x (ylk13 (by decide) (by decide +kernel)) ?_
  refine TL.call (a := 246) (y' := 146) (As := [.inr 0]) (rest := []) (ylk13 (by decide) (by decide +kernel)) rfl (TI.mono (X_judge A wx) fun r1 Z1 p1 => ?_)
  have c1 : CS Z (oemp a) Z1 := ⟨p1.2.1, p1.2.2⟩
  have B1 : RX Z1 a := B.hi c1.2
  refine TL.m (ylk13 (by decide) (by decide +kernel)) ?_
  refine TL.call (a := 247) (y' := 270) (As := [.inr 100]) (rest := [.inl r1]) (ylk13 (by decide) (by decide +kernel)) rfl (TI.mono (Y_judge B1 wx) fun r2 Z2 p2 => ?_)
  have d1 : RS Z1 (oemp a) Z2 := ⟨p2.2.1, p2.2.2⟩
  have e : r1 = r2 := by rw [p1.1, p2.1]
  subst e
  refine TL.eq (t := 1438) (b := 110) (ylk13 (by decide) (by decide +kernel)) rfl ?_
  exact hQ Z2 _ (GD.two c1 d1 (⟨oemp_w wx, oemp_v vx⟩))
theorem law_45 (hn : 0 ≤ n ∧ n + 5 ≤ L) (hL : L ≤ 2560) (g : GD Z a) (hQ : ∀ Z2 a2, GD Z2 a2 → TL L xs 800 1438 n [] Z2) : TL L xs 800 1333 n [] Z := by
  obtain ⟨A, B, o⟩ := g
  have wx := o.1
  have vx := o.2
  refine TL.x (ylk13 (by decide) (by decide +kernel)) ?_
  refine TL.call (a := 248) (y' := 147) (As := [.inr 0]) (rest := []) (ylk13 (by decide) (by decide +kernel)) rfl (TI.mono (K_clear A) fun r1 Z1 p1 => ?_)
  have c1 : CS Z (oClear a).2 Z1 := ⟨p1.2.1, p1.2.2⟩
  have B1 : RX Z1 a := B.hi c1.2
  refine TL.pop (ylk13 (by decide) (by decide +kernel)) ?_
  refine TL.m (ylk14 (by decide) (by decide +kernel)) ?_
  refine TL.call (a := 249) (y' := 271) (As := [.inr 100]) (rest := []) (ylk14 (by decide) (by decide +kernel)) rfl (TI.mono (J_clear B1 wx) fun r2 Z2 p2 => ?_)
  have d1 : RS Z1 (oClear a).2 Z2 := ⟨p2.2.1, p2.2.2⟩
  refine TL.pop (ylk14 (by decide) (by decide +kernel)) ?_
  refine TL.go (t := 1438) (b := 95) (ylk14 (by decide) (by decide +kernel)) rfl ?_
  exact hQ Z2 _ (GD.two c1 d1 (o))
theorem law_46 (hn : 0 ≤ n ∧ n + 5 ≤ L) (hL : L ≤ 2560) (g : GD Z a) (hQ : ∀ Z2 a2, GD Z2 a2 → TL L xs 800 1438 n [] Z2) : TL L xs 800 1346 n [] Z := by
  obtain ⟨A, B, o⟩ := g
  have wx := o.1
  have vx := o.2
  refine TL.x (ylk14 (by decide) (by decide +kernel)) ?_
  refine TL.arg (j := 1) (ylk14 (by decide) (by decide +kernel)) (ylk14 (by decide) (by decide +kernel)) (ylk14 (by decide) (by decide +kernel)) (ylk14 (by decide) (by decide +kernel)) (ylk14 (by decide) (by decide +kernel)) (by omega) hL ?_
  refine TL.arg (j := 2) (ylk14 (by decide) (by decide +kernel)) (ylk14 (by decide) (by decide +kernel)) (ylk14 (by decide) (by decide +kernel)) (ylk14 (by decide) (by decide +kernel)) (ylk14 (by decide) (by decide +kernel)) (by omega) hL ?_
  refine TL.arg (j := 3) (ylk14 (by decide) (by decide +kernel)) (ylk14 (by decide) (by decide +kernel)) (ylk14 (by decide) (by decide +kernel)) (ylk14 (by decide) (by decide +kernel)) (ylk14 (by decide) (by decide +kernel)) (by omega) hL ?_
  refine TL.call (a := 250) (y' := 115) (As := [.inr 0, .inl (xs (n + 1).toNat).toInt, .inl (xs (n + 2).toNat).toInt, .inl (xs (n + 3).toNat).toInt]) (rest := []) (ylk14 (by decide) (by decide +kernel)) rfl (TI.mono (T_lots A wx (zxr _) (zxr _)) fun r1 Z1 p1 => ?_)
  have c1 := cs_q p1
  have B1 : RX Z1 a := B.hi c1.2
  refine TL.pop (ylk14 (by decide) (by decide +kernel)) ?_
  refine TL.m (ylk14 (by decide) (by decide +kernel)) ?_
  refine TL.arg (j := 1) (ylk14 (by decide) (by decide +kernel)) (ylk14 (by decide) (by decide +kernel)) (ylk14 (by decide) (by decide +kernel)) (ylk14 (by decide) (by decide +kernel)) (ylk14 (by decide) (by decide +kernel)) (by omega) hL ?_
  refine TL.arg (j := 2) (ylk14 (by decide) (by decide +kernel)) (ylk14 (by decide) (by decide +kernel)) (ylk14 (by decide) (by decide +kernel)) (ylk14 (by decide) (by decide +kernel)) (ylk14 (by decide) (by decide +kernel)) (by omega) hL ?_
  refine TL.arg (j := 3) (ylk14 (by decide) (by decide +kernel)) (ylk14 (by decide) (by decide +kernel)) (ylk14 (by decide) (by decide +kernel)) (ylk14 (by decide) (by decide +kernel)) (ylk14 (by decide) (by decide +kernel)) (by omega) hL ?_
  refine TL.call (a := 251) (y' := 272) (As := [.inr 100, .inl (xs (n + 1).toNat).toInt, .inl (xs (n + 2).toNat).toInt, .inl (xs (n + 3).toNat).toInt]) (rest := []) (ylk14 (by decide) (by decide +kernel)) rfl (TI.mono (U_lots B1 wx vx (zxr _) (zxr _)) fun r2 Z2 p2 => ?_)
  have d1 := rs_q p2
  refine TL.pop (ylk14 (by decide) (by decide +kernel)) ?_
  refine TL.go (t := 1438) (b := 52) (ylk14 (by decide) (by decide +kernel)) rfl ?_
  exact hQ Z2 _ (GD.two c1 d1 (okx_q o))
theorem law_47 (hn : 0 ≤ n ∧ n + 5 ≤ L) (hL : L ≤ 2560) (g : GD Z a) (hQ : ∀ Z2 a2, GD Z2 a2 → TL L xs 800 1438 n [] Z2) : TL L xs 800 1389 n [] Z := by
  obtain ⟨A, B, o⟩ := g
  have wx := o.1
  have vx := o.2
  refine TL.x (ylk14 (by decide) (by decide +kernel)) ?_
  refine TL.call (a := 252) (y' := 149) (As := [.inr 0]) (rest := []) (ylk14 (by decide) (by decide +kernel)) rfl (TI.mono (K_image A wx) fun r1 Z1 p1 => ?_)
  have c1 : CS Z (oImage a).2 Z1 := ⟨p1.2.1, p1.2.2⟩
  have B1 : RX Z1 a := B.hi c1.2
  refine TL.pop (ylk14 (by decide) (by decide +kernel)) ?_
  refine TL.m (ylk14 (by decide) (by decide +kernel)) ?_
  refine TL.call (a := 253) (y' := 177) (As := [.inr 100]) (rest := []) (ylk14 (by decide) (by decide +kernel)) rfl (TI.mono (J_image B1 wx) fun r2 Z2 p2 => ?_)
  have d1 : RS Z1 (oImage a).2 Z2 := ⟨p2.2.1, p2.2.2⟩
  refine TL.pop (ylk14 (by decide) (by decide +kernel)) ?_
  refine TL.go (t := 1438) (b := 39) (ylk14 (by decide) (by decide +kernel)) rfl ?_
  exact hQ Z2 _ (GD.two c1 d1 (okx_image o))
theorem law_48 (hn : 0 ≤ n ∧ n + 5 ≤ L) (hL : L ≤ 2560) (g : GD Z a) (hQ : ∀ Z2 a2, GD Z2 a2 → TL L xs 800 1438 n [] Z2) : TL L xs 800 1402 n [] Z := by
  obtain ⟨A, B, o⟩ := g
  have wx := o.1
  have vx := o.2
  refine TL.x (ylk14 (by decide) (by decide +kernel)) ?_
  refine TL.call (a := 254) (y' := 150) (As := [.inr 0]) (rest := []) (ylk14 (by decide) (by decide +kernel)) rfl (TI.mono (K_restore A wx) fun r1 Z1 p1 => ?_)
  have c1 : CS Z (oRestore a).2 Z1 := ⟨p1.2.1, p1.2.2⟩
  have B1 : RX Z1 a := B.hi c1.2
  refine TL.pop (ylk14 (by decide) (by decide +kernel)) ?_
  refine TL.m (ylk14 (by decide) (by decide +kernel)) ?_
  refine TL.call (a := 255) (y' := 178) (As := [.inr 100]) (rest := []) (ylk14 (by decide) (by decide +kernel)) rfl (TI.mono (J_restore B1 wx) fun r2 Z2 p2 => ?_)
  have d1 : RS Z1 (oRestore a).2 Z2 := ⟨p2.2.1, p2.2.2⟩
  refine TL.pop (ylk14 (by decide) (by decide +kernel)) ?_
  refine TL.go (t := 1438) (b := 26) (ylk14 (by decide) (by decide +kernel)) rfl ?_
  exact hQ Z2 _ (GD.two c1 d1 (okx_restore A.im o))
theorem law_49 (hn : 0 ≤ n ∧ n + 5 ≤ L) (hL : L ≤ 2560) (g : GD Z a) (hQ : ∀ Z2 a2, GD Z2 a2 → TL L xs 800 1438 n [] Z2) : TL L xs 800 1415 n [] Z := by
  obtain ⟨A, B, o⟩ := g
  have wx := o.1
  have vx := o.2
  refine TL.x (ylk14 (by decide) (by decide +kernel)) ?_
  refine TL.arg (j := 1) (ylk14 (by decide) (by decide +kernel)) (ylk14 (by decide) (by decide +kernel)) (ylk14 (by decide) (by decide +kernel)) (ylk14 (by decide) (by decide +kernel)) (ylk15 (by decide) (by decide +kernel)) (by omega) hL ?_
  refine TL.call (a := 256) (y' := 151) (As := [.inr 0, .inl (xs (n + 1).toNat).toInt]) (rest := []) (ylk15 (by decide) (by decide +kernel)) rfl (TI.mono (K_count A wx (zxr _)) fun r1 Z1 p1 => ?_)
  have c1 : CS Z (oCount a (xs (n + 1).toNat).toInt).2 Z1 := ⟨p1.2.1, p1.2.2⟩
  have B1 : RX Z1 a := B.hi c1.2
  refine TL.pop (ylk15 (by decide) (by decide +kernel)) ?_
  refine TL.m (ylk15 (by decide) (by decide +kernel)) ?_
  refine TL.arg (j := 1) (ylk15 (by decide) (by decide +kernel)) (ylk15 (by decide) (by decide +kernel)) (ylk15 (by decide) (by decide +kernel)) (ylk15 (by decide) (by decide +kernel)) (ylk15 (by decide) (by decide +kernel)) (by omega) hL ?_
  refine TL.call (a := 257) (y' := 273) (As := [.inr 100, .inl (xs (n + 1).toNat).toInt]) (rest := []) (ylk15 (by decide) (by decide +kernel)) rfl (TI.mono (J_count B1 wx (zxr _)) fun r2 Z2 p2 => ?_)
  have d1 : RS Z1 (oCount a (xs (n + 1).toNat).toInt).2 Z2 := ⟨p2.2.1, p2.2.2⟩
  refine TL.pop (ylk15 (by decide) (by decide +kernel)) ?_
  refine TL.go (t := 1438) (b := 3) (ylk15 (by decide) (by decide +kernel)) rfl ?_
  exact hQ Z2 _ (GD.two c1 d1 (o))
end
