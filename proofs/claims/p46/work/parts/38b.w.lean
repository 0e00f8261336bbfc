/-! what stretches of code need of integers -/
theorem w78_0 {d : Nat} {x1 : Int} {Z : zM} {Q : Int → zM → Prop}
    (v : zR (Z 39 3) ∧
      (4 < (Z 39 3) → Q (-3) Z) ∧
      (¬ 4 < (Z 39 3) → TI d 59 [.inr 39] Z (fun r4 Z3 =>
          zR r4 ∧
            zR x1 ∧
            (x1 < r4 → Q (-3) Z3) ∧
            (¬ x1 < r4 → Q 0 Z3)))) :
    TZ (d + 1) 78 0 [some (.inr 0), some (.inl x1)] [] Z (zri Q) := by
  refine z0 (op := 5) (a := 0) (b := 0) (by rfl) (by rfl) (?_ : TZ (d + 1) 78 1 [some (.inr 0), some (.inl x1)] [.inr 0] Z (zri Q))
  refine z_fr (by rfl) fr57_0 (?_ : TZ (d + 1) 78 4 [some (.inr 0), some (.inl x1)] [.inr 39] Z (zri Q))
  refine z_fi (by rfl) fi67_39 (?_ : TZ (d + 1) 78 7 [some (.inr 0), some (.inl x1)] [.inl (Z 39 3)] Z (zri Q))
  refine z0 (op := 0) (a := 0) (b := 4) (by rfl) (by rfl) (?_ : TZ (d + 1) 78 8 [some (.inr 0), some (.inl x1)] [.inl 4, .inl (Z 39 3)] Z (zri Q))
  obtain ⟨c1, v1, v2⟩ := v
  refine z_if2 (a := 4) (t := 26) (by rfl) (by rfl) c1 (by decide) (fun h2 => ?_) (fun h2 => ?_)
  · have v := v1 h2; clear v1 v2
    show TZ (d + 1) 78 26 [some (.inr 0), some (.inl x1)] [] Z (zri Q)
    refine z0 (op := 1) (a := 0) (b := (-3)) (by rfl) (by rfl) (?_ : TZ (d + 1) 78 28 [some (.inr 0), some (.inl x1)] [.inl (-3)] Z (zri Q))
    exact z_reti (by rfl) (by rfl) v
  · have v := v2 h2; clear v1 v2
    show TZ (d + 1) 78 11 [some (.inr 0), some (.inl x1)] [] Z (zri Q)
    refine z0 (op := 5) (a := 0) (b := 0) (by rfl) (by rfl) (?_ : TZ (d + 1) 78 12 [some (.inr 0), some (.inl x1)] [.inr 0] Z (zri Q))
    refine z_fr (by rfl) fr57_0 (?_ : TZ (d + 1) 78 15 [some (.inr 0), some (.inl x1)] [.inr 39] Z (zri Q))
    refine z_vi (by rfl) (by rfl) cl_39 (TI.mono v fun r4 Z3 v => ?_)
    show TZ (d + 1) 78 18 [some (.inr 0), some (.inl x1)] [.inl r4] Z3 (zri Q)
    refine z0 (op := 3) (a := 1) (b := 0) (by rfl) (by rfl) (?_ : TZ (d + 1) 78 19 [some (.inr 0), some (.inl x1)] [.inl x1, .inl r4] Z3 (zri Q))
    obtain ⟨c5, c6, v1, v2⟩ := v
    refine z_if2 (a := 4) (t := 26) (by rfl) (by rfl) c5 c6 (fun h7 => ?_) (fun h7 => ?_)
    · have v := v1 h7; clear v1 v2
      show TZ (d + 1) 78 26 [some (.inr 0), some (.inl x1)] [] Z3 (zri Q)
      refine z0 (op := 1) (a := 0) (b := (-3)) (by rfl) (by rfl) (?_ : TZ (d + 1) 78 28 [some (.inr 0), some (.inl x1)] [.inl (-3)] Z3 (zri Q))
      exact z_reti (by rfl) (by rfl) v
    · have v := v2 h7; clear v1 v2
      show TZ (d + 1) 78 22 [some (.inr 0), some (.inl x1)] [] Z3 (zri Q)
      refine z0 (op := 0) (a := 0) (b := 0) (by rfl) (by rfl) (?_ : TZ (d + 1) 78 23 [some (.inr 0), some (.inl x1)] [.inl 0] Z3 (zri Q))
      refine z_goto (t := 28) (by rfl) (by rfl) (?_ : TZ (d + 1) 78 28 [some (.inr 0), some (.inl x1)] [.inl 0] Z3 (zri Q))
      exact z_reti (by rfl) (by rfl) v
theorem w99_0 {d : Nat} {x1 x2 : Int} {Z : zM} {Q : Int → zM → Prop}
    (v : TI d 73 [.inl x1, .inl 0, .inl 20] Z (fun r2 Z1 =>
      TI d 75 [.inl x2, .inl 1] Z1 (fun r4 Z3 =>
        TI d 72 [.inl r2, .inl r4] Z3 (fun r6 Z5 =>
          zR r6 ∧
            (r6 = 0 → TR d 98 [.inr 0, .inl x1] Z5 (fun r10 Z9 =>
                r10 = 19 ∧
                  zR x2 ∧
                  (x2 ≠ 0 → TI d 23 [.inr 19] Z9 (fun r14 Z13 =>
                      Q r14 Z13)) ∧
                  (¬ x2 ≠ 0 → TI d 22 [.inr 19] Z9 (fun r16 Z15 =>
                      Q r16 Z15)))) ∧
            (¬ r6 = 0 → TI d 71 [.inr 0, .inl r6] Z5 (fun r18 Z17 =>
                Q r18 Z17)))))) :
    TZ (d + 1) 99 0 [some (.inr 0), some (.inl x1), some (.inl x2), none, none] [] Z (zri Q) := by
  refine z0 (op := 3) (a := 1) (b := 0) (by rfl) (by rfl) (?_ : TZ (d + 1) 99 1 [some (.inr 0), some (.inl x1), some (.inl x2), none, none] [.inl x1] Z (zri Q))
  refine z0 (op := 0) (a := 0) (b := 0) (by rfl) (by rfl) (?_ : TZ (d + 1) 99 2 [some (.inr 0), some (.inl x1), some (.inl x2), none, none] [.inl 0, .inl x1] Z (zri Q))
  refine z0 (op := 1) (a := 0) (b := 20) (by rfl) (by rfl) (?_ : TZ (d + 1) 99 4 [some (.inr 0), some (.inl x1), some (.inl x2), none, none] [.inl 20, .inl 0, .inl x1] Z (zri Q))
  refine z_si (by rfl) (by rfl) (TI.mono v fun r2 Z1 v => ?_)
  show TZ (d + 1) 99 7 [some (.inr 0), some (.inl x1), some (.inl x2), none, none] [.inl r2] Z1 (zri Q)
  refine z0 (op := 3) (a := 2) (b := 0) (by rfl) (by rfl) (?_ : TZ (d + 1) 99 8 [some (.inr 0), some (.inl x1), some (.inl x2), none, none] [.inl x2, .inl r2] Z1 (zri Q))
  refine z0 (op := 0) (a := 0) (b := 1) (by rfl) (by rfl) (?_ : TZ (d + 1) 99 9 [some (.inr 0), some (.inl x1), some (.inl x2), none, none] [.inl 1, .inl x2, .inl r2] Z1 (zri Q))
  refine z_si (by rfl) (by rfl) (TI.mono v fun r4 Z3 v => ?_)
  show TZ (d + 1) 99 12 [some (.inr 0), some (.inl x1), some (.inl x2), none, none] [.inl r4, .inl r2] Z3 (zri Q)
  refine z_si (by rfl) (by rfl) (TI.mono v fun r6 Z5 v => ?_)
  show TZ (d + 1) 99 15 [some (.inr 0), some (.inl x1), some (.inl x2), none, none] [.inl r6] Z5 (zri Q)
  refine z0 (op := 7) (a := 3) (b := 0) (by rfl) (by rfl) (?_ : TZ (d + 1) 99 16 [some (.inr 0), some (.inl x1), some (.inl x2), some (.inl r6), none] [] Z5 (zri Q))
  refine z0 (op := 3) (a := 3) (b := 0) (by rfl) (by rfl) (?_ : TZ (d + 1) 99 17 [some (.inr 0), some (.inl x1), some (.inl x2), some (.inl r6), none] [.inl r6] Z5 (zri Q))
  obtain ⟨c7, v1, v2⟩ := v
  refine z_if0 (a := 0) (t := 26) (by rfl) (by rfl) c7 (fun h8 => ?_) (fun h8 => ?_)
  · have v := v1 h8; clear v1 v2
    show TZ (d + 1) 99 26 [some (.inr 0), some (.inl x1), some (.inl x2), some (.inl r6), none] [] Z5 (zri Q)
    refine z0 (op := 5) (a := 0) (b := 0) (by rfl) (by rfl) (?_ : TZ (d + 1) 99 27 [some (.inr 0), some (.inl x1), some (.inl x2), some (.inl r6), none] [.inr 0] Z5 (zri Q))
    refine z0 (op := 3) (a := 1) (b := 0) (by rfl) (by rfl) (?_ : TZ (d + 1) 99 28 [some (.inr 0), some (.inl x1), some (.inl x2), some (.inl r6), none] [.inl x1, .inr 0] Z5 (zri Q))
    refine z_vr (by rfl) (by rfl) cl_0 (TR.mono v fun r10 Z9 v => ?_)
    obtain ⟨er10, v⟩ := v
    subst er10
    show TZ (d + 1) 99 31 [some (.inr 0), some (.inl x1), some (.inl x2), some (.inl r6), none] [.inr 19] Z9 (zri Q)
    refine z0 (op := 10) (a := 4) (b := 0) (by rfl) (by rfl) (?_ : TZ (d + 1) 99 33 [some (.inr 0), some (.inl x1), some (.inl x2), some (.inl r6), some (.inr 19)] [] Z9 (zri Q))
    refine z0 (op := 3) (a := 2) (b := 0) (by rfl) (by rfl) (?_ : TZ (d + 1) 99 34 [some (.inr 0), some (.inl x1), some (.inl x2), some (.inl r6), some (.inr 19)] [.inl x2] Z9 (zri Q))
    obtain ⟨c11, v1, v2⟩ := v
    refine z_if0 (a := 1) (t := 45) (by rfl) (by rfl) c11 (fun h12 => ?_) (fun h12 => ?_)
    · have v := v1 h12; clear v1 v2
      show TZ (d + 1) 99 45 [some (.inr 0), some (.inl x1), some (.inl x2), some (.inl r6), some (.inr 19)] [] Z9 (zri Q)
      refine z0 (op := 6) (a := 4) (b := 0) (by rfl) (by rfl) (?_ : TZ (d + 1) 99 47 [some (.inr 0), some (.inl x1), some (.inl x2), some (.inl r6), some (.inr 19)] [.inr 19] Z9 (zri Q))
      refine z_vi (by rfl) (by rfl) cl_19 (TI.mono v fun r14 Z13 v => ?_)
      show TZ (d + 1) 99 50 [some (.inr 0), some (.inl x1), some (.inl x2), some (.inl r6), some (.inr 19)] [.inl r14] Z13 (zri Q)
      exact z_reti (by rfl) (by rfl) v
    · have v := v2 h12; clear v1 v2
      show TZ (d + 1) 99 37 [some (.inr 0), some (.inl x1), some (.inl x2), some (.inl r6), some (.inr 19)] [] Z9 (zri Q)
      refine z0 (op := 6) (a := 4) (b := 0) (by rfl) (by rfl) (?_ : TZ (d + 1) 99 39 [some (.inr 0), some (.inl x1), some (.inl x2), some (.inl r6), some (.inr 19)] [.inr 19] Z9 (zri Q))
      refine z_vi (by rfl) (by rfl) cl_19 (TI.mono v fun r16 Z15 v => ?_)
      show TZ (d + 1) 99 42 [some (.inr 0), some (.inl x1), some (.inl x2), some (.inl r6), some (.inr 19)] [.inl r16] Z15 (zri Q)
      refine z_goto (t := 50) (by rfl) (by rfl) (?_ : TZ (d + 1) 99 50 [some (.inr 0), some (.inl x1), some (.inl x2), some (.inl r6), some (.inr 19)] [.inl r16] Z15 (zri Q))
      exact z_reti (by rfl) (by rfl) v
  · have v := v2 h8; clear v1 v2
    show TZ (d + 1) 99 20 [some (.inr 0), some (.inl x1), some (.inl x2), some (.inl r6), none] [] Z5 (zri Q)
    refine z0 (op := 5) (a := 0) (b := 0) (by rfl) (by rfl) (?_ : TZ (d + 1) 99 21 [some (.inr 0), some (.inl x1), some (.inl x2), some (.inl r6), none] [.inr 0] Z5 (zri Q))
    refine z0 (op := 3) (a := 3) (b := 0) (by rfl) (by rfl) (?_ : TZ (d + 1) 99 22 [some (.inr 0), some (.inl x1), some (.inl x2), some (.inl r6), none] [.inl r6, .inr 0] Z5 (zri Q))
    refine z_vi (by rfl) (by rfl) cl_0 (TI.mono v fun r18 Z17 v => ?_)
    show TZ (d + 1) 99 25 [some (.inr 0), some (.inl x1), some (.inl x2), some (.inl r6), none] [.inl r18] Z17 (zri Q)
    exact z_reti (by rfl) (by rfl) v
theorem w100_0 {d : Nat} {x1 x2 : Int} {Z : zM} {Q : Int → zM → Prop}
    (v : TI d 77 [.inr 0, .inl x1] Z (fun r2 Z1 =>
      TI d 73 [.inl x2, .inl 0, .inl 20] Z1 (fun r4 Z3 =>
        TI d 72 [.inl r2, .inl r4] Z3 (fun r6 Z5 =>
          zR r6 ∧
            (r6 = 0 → TR d 98 [.inr 0, .inl x2] Z5 (fun r10 Z9 =>
                r10 = 19 ∧
                  (0 ≤ x1 ∧ x1 < 8) ∧ Q (Z9 22 x1) Z9)) ∧
            (¬ r6 = 0 → TI d 71 [.inr 0, .inl r6] Z5 (fun r13 Z12 =>
                Q r13 Z12)))))) :
    TZ (d + 1) 100 0 [some (.inr 0), some (.inl x1), some (.inl x2), none] [] Z (zri Q) := by
  refine z0 (op := 5) (a := 0) (b := 0) (by rfl) (by rfl) (?_ : TZ (d + 1) 100 1 [some (.inr 0), some (.inl x1), some (.inl x2), none] [.inr 0] Z (zri Q))
  refine z0 (op := 3) (a := 1) (b := 0) (by rfl) (by rfl) (?_ : TZ (d + 1) 100 2 [some (.inr 0), some (.inl x1), some (.inl x2), none] [.inl x1, .inr 0] Z (zri Q))
  refine z_vi (by rfl) (by rfl) cl_0 (TI.mono v fun r2 Z1 v => ?_)
  show TZ (d + 1) 100 5 [some (.inr 0), some (.inl x1), some (.inl x2), none] [.inl r2] Z1 (zri Q)
  refine z0 (op := 3) (a := 2) (b := 0) (by rfl) (by rfl) (?_ : TZ (d + 1) 100 6 [some (.inr 0), some (.inl x1), some (.inl x2), none] [.inl x2, .inl r2] Z1 (zri Q))
  refine z0 (op := 0) (a := 0) (b := 0) (by rfl) (by rfl) (?_ : TZ (d + 1) 100 7 [some (.inr 0), some (.inl x1), some (.inl x2), none] [.inl 0, .inl x2, .inl r2] Z1 (zri Q))
  refine z0 (op := 1) (a := 0) (b := 20) (by rfl) (by rfl) (?_ : TZ (d + 1) 100 9 [some (.inr 0), some (.inl x1), some (.inl x2), none] [.inl 20, .inl 0, .inl x2, .inl r2] Z1 (zri Q))
  refine z_si (by rfl) (by rfl) (TI.mono v fun r4 Z3 v => ?_)
  show TZ (d + 1) 100 12 [some (.inr 0), some (.inl x1), some (.inl x2), none] [.inl r4, .inl r2] Z3 (zri Q)
  refine z_si (by rfl) (by rfl) (TI.mono v fun r6 Z5 v => ?_)
  show TZ (d + 1) 100 15 [some (.inr 0), some (.inl x1), some (.inl x2), none] [.inl r6] Z5 (zri Q)
  refine z0 (op := 7) (a := 3) (b := 0) (by rfl) (by rfl) (?_ : TZ (d + 1) 100 16 [some (.inr 0), some (.inl x1), some (.inl x2), some (.inl r6)] [] Z5 (zri Q))
  refine z0 (op := 3) (a := 3) (b := 0) (by rfl) (by rfl) (?_ : TZ (d + 1) 100 17 [some (.inr 0), some (.inl x1), some (.inl x2), some (.inl r6)] [.inl r6] Z5 (zri Q))
  obtain ⟨c7, v1, v2⟩ := v
  refine z_if0 (a := 0) (t := 26) (by rfl) (by rfl) c7 (fun h8 => ?_) (fun h8 => ?_)
  · have v := v1 h8; clear v1 v2
    show TZ (d + 1) 100 26 [some (.inr 0), some (.inl x1), some (.inl x2), some (.inl r6)] [] Z5 (zri Q)
    refine z0 (op := 5) (a := 0) (b := 0) (by rfl) (by rfl) (?_ : TZ (d + 1) 100 27 [some (.inr 0), some (.inl x1), some (.inl x2), some (.inl r6)] [.inr 0] Z5 (zri Q))
    refine z0 (op := 3) (a := 2) (b := 0) (by rfl) (by rfl) (?_ : TZ (d + 1) 100 28 [some (.inr 0), some (.inl x1), some (.inl x2), some (.inl r6)] [.inl x2, .inr 0] Z5 (zri Q))
    refine z_vr (by rfl) (by rfl) cl_0 (TR.mono v fun r10 Z9 v => ?_)
    obtain ⟨er10, v⟩ := v
    subst er10
    show TZ (d + 1) 100 31 [some (.inr 0), some (.inl x1), some (.inl x2), some (.inl r6)] [.inr 19] Z9 (zri Q)
    refine z_fr (by rfl) fr75_19 (?_ : TZ (d + 1) 100 34 [some (.inr 0), some (.inl x1), some (.inl x2), some (.inl r6)] [.inr 22] Z9 (zri Q))
    refine z0 (op := 3) (a := 1) (b := 0) (by rfl) (by rfl) (?_ : TZ (d + 1) 100 35 [some (.inr 0), some (.inl x1), some (.inl x2), some (.inl r6)] [.inl x1, .inr 22] Z9 (zri Q))
    obtain ⟨c11, v⟩ := v
    refine z_al (by rfl) ln_22 c11 (?_ : TZ (d + 1) 100 36 [some (.inr 0), some (.inl x1), some (.inl x2), some (.inl r6)] [.inl (Z9 22 x1)] Z9 (zri Q))
    exact z_reti (by rfl) (by rfl) v
  · have v := v2 h8; clear v1 v2
    show TZ (d + 1) 100 20 [some (.inr 0), some (.inl x1), some (.inl x2), some (.inl r6)] [] Z5 (zri Q)
    refine z0 (op := 5) (a := 0) (b := 0) (by rfl) (by rfl) (?_ : TZ (d + 1) 100 21 [some (.inr 0), some (.inl x1), some (.inl x2), some (.inl r6)] [.inr 0] Z5 (zri Q))
    refine z0 (op := 3) (a := 3) (b := 0) (by rfl) (by rfl) (?_ : TZ (d + 1) 100 22 [some (.inr 0), some (.inl x1), some (.inl x2), some (.inl r6)] [.inl r6, .inr 0] Z5 (zri Q))
    refine z_vi (by rfl) (by rfl) cl_0 (TI.mono v fun r13 Z12 v => ?_)
    show TZ (d + 1) 100 25 [some (.inr 0), some (.inl x1), some (.inl x2), some (.inl r6)] [.inl r13] Z12 (zri Q)
    exact z_reti (by rfl) (by rfl) v
theorem w101_0 {d : Nat} {Z : zM} {Q : Int → zM → Prop}
    (v : TR d 97 [.inr 0] Z (fun r2 Z1 =>
      r2 = 19 ∧ TZ (d + 1) 101 7 [some (.inr 0), some (.inr 19), some (.inl 0)] [] Z1 (zri Q))) :
    TZ (d + 1) 101 0 [some (.inr 0), none, none] [] Z (zri Q) := by
  refine z0 (op := 5) (a := 0) (b := 0) (by rfl) (by rfl) (?_ : TZ (d + 1) 101 1 [some (.inr 0), none, none] [.inr 0] Z (zri Q))
  refine z_vr (by rfl) (by rfl) cl_0 (TR.mono v fun r2 Z1 v => ?_)
  obtain ⟨er2, v⟩ := v
  subst er2
  show TZ (d + 1) 101 4 [some (.inr 0), none, none] [.inr 19] Z1 (zri Q)
  refine z0 (op := 9) (a := 1) (b := 0) (by rfl) (by rfl) (?_ : TZ (d + 1) 101 5 [some (.inr 0), some (.inr 19), none] [] Z1 (zri Q))
  refine z0 (op := 0) (a := 0) (b := 0) (by rfl) (by rfl) (?_ : TZ (d + 1) 101 6 [some (.inr 0), some (.inr 19), none] [.inl 0] Z1 (zri Q))
  refine z0 (op := 7) (a := 2) (b := 0) (by rfl) (by rfl) (?_ : TZ (d + 1) 101 7 [some (.inr 0), some (.inr 19), some (.inl 0)] [] Z1 (zri Q))
  exact v
theorem w101_7 {d : Nat} {x2 : Int} {Z : zM} {Q : Int → zM → Prop}
    (v : zR x2 ∧
      (20 < x2 → Q (-9) Z) ∧
      (¬ 20 < x2 → TI d 23 [.inr 19] Z (fun r4 Z3 =>
          zR r4 ∧
            (r4 = 0 → TI d 25 [.inr 19, .inl (-1)] Z3 (fun r8 Z7 =>
                TZ (d + 1) 101 7 [some (.inr 0), some (.inr 19), some (.inl (x2 + 1))] [] Z7 (zri Q))) ∧
            (¬ r4 = 0 → Q x2 Z3)))) :
    TZ (d + 1) 101 7 [some (.inr 0), some (.inr 19), some (.inl x2)] [] Z (zri Q) := by
  refine z0 (op := 3) (a := 2) (b := 0) (by rfl) (by rfl) (?_ : TZ (d + 1) 101 8 [some (.inr 0), some (.inr 19), some (.inl x2)] [.inl x2] Z (zri Q))
  refine z0 (op := 1) (a := 0) (b := 20) (by rfl) (by rfl) (?_ : TZ (d + 1) 101 10 [some (.inr 0), some (.inr 19), some (.inl x2)] [.inl 20, .inl x2] Z (zri Q))
  obtain ⟨c1, v1, v2⟩ := v
  refine z_if2 (a := 4) (t := 34) (by rfl) (by rfl) c1 (by decide) (fun h2 => ?_) (fun h2 => ?_)
  · have v := v1 h2; clear v1 v2
    show TZ (d + 1) 101 34 [some (.inr 0), some (.inr 19), some (.inl x2)] [] Z (zri Q)
    refine z0 (op := 1) (a := 0) (b := (-9)) (by rfl) (by rfl) (?_ : TZ (d + 1) 101 36 [some (.inr 0), some (.inr 19), some (.inl x2)] [.inl (-9)] Z (zri Q))
    exact z_reti (by rfl) (by rfl) v
  · have v := v2 h2; clear v1 v2
    show TZ (d + 1) 101 13 [some (.inr 0), some (.inr 19), some (.inl x2)] [] Z (zri Q)
    refine z0 (op := 5) (a := 1) (b := 0) (by rfl) (by rfl) (?_ : TZ (d + 1) 101 14 [some (.inr 0), some (.inr 19), some (.inl x2)] [.inr 19] Z (zri Q))
    refine z_vi (by rfl) (by rfl) cl_19 (TI.mono v fun r4 Z3 v => ?_)
    show TZ (d + 1) 101 17 [some (.inr 0), some (.inr 19), some (.inl x2)] [.inl r4] Z3 (zri Q)
    obtain ⟨c5, v1, v2⟩ := v
    refine z_if0 (a := 0) (t := 22) (by rfl) (by rfl) c5 (fun h6 => ?_) (fun h6 => ?_)
    · have v := v1 h6; clear v1 v2
      show TZ (d + 1) 101 22 [some (.inr 0), some (.inr 19), some (.inl x2)] [] Z3 (zri Q)
      refine z0 (op := 5) (a := 1) (b := 0) (by rfl) (by rfl) (?_ : TZ (d + 1) 101 23 [some (.inr 0), some (.inr 19), some (.inl x2)] [.inr 19] Z3 (zri Q))
      refine z0 (op := 0) (a := 0) (b := (-1)) (by rfl) (by rfl) (?_ : TZ (d + 1) 101 24 [some (.inr 0), some (.inr 19), some (.inl x2)] [.inl (-1), .inr 19] Z3 (zri Q))
      refine z_vi (by rfl) (by rfl) cl_19 (TI.mono v fun r8 Z7 v => ?_)
      show TZ (d + 1) 101 27 [some (.inr 0), some (.inr 19), some (.inl x2)] [.inl r8] Z7 (zri Q)
      refine z0 (op := 14) (a := 0) (b := 0) (by rfl) (by rfl) (?_ : TZ (d + 1) 101 28 [some (.inr 0), some (.inr 19), some (.inl x2)] [] Z7 (zri Q))
      refine z0 (op := 11) (a := 2) (b := 1) (by rfl) (by rfl) (?_ : TZ (d + 1) 101 31 [some (.inr 0), some (.inr 19), some (.inl (x2 + 1))] [] Z7 (zri Q))
      refine z_goto (t := 7) (by rfl) (by rfl) (?_ : TZ (d + 1) 101 7 [some (.inr 0), some (.inr 19), some (.inl (x2 + 1))] [] Z7 (zri Q))
      exact v
    · have v := v2 h6; clear v1 v2
      show TZ (d + 1) 101 20 [some (.inr 0), some (.inr 19), some (.inl x2)] [] Z3 (zri Q)
      refine z0 (op := 3) (a := 2) (b := 0) (by rfl) (by rfl) (?_ : TZ (d + 1) 101 21 [some (.inr 0), some (.inr 19), some (.inl x2)] [.inl x2] Z3 (zri Q))
      exact z_reti (by rfl) (by rfl) v
theorem w102_0 {d : Nat} {x1 : Int} {Z : zM} {Q : Int → zM → Prop}
    (v : TI d 73 [.inl x1, .inl 0, .inl 20] Z (fun r2 Z1 =>
      zR r2 ∧
        (r2 = 0 → TR d 97 [.inr 0] Z1 (fun r6 Z5 =>
            r6 = 19 ∧ TZ (d + 1) 102 29 [some (.inr 0), some (.inl x1), some (.inl r2), some (.inr 19), some (.inl 0), some (.inl 0)] [] Z5 (zri Q))) ∧
        (¬ r2 = 0 → TI d 71 [.inr 0, .inl r2] Z1 (fun r8 Z7 =>
            Q r8 Z7)))) :
    TZ (d + 1) 102 0 [some (.inr 0), some (.inl x1), none, none, none, none] [] Z (zri Q) := by
  refine z0 (op := 3) (a := 1) (b := 0) (by rfl) (by rfl) (?_ : TZ (d + 1) 102 1 [some (.inr 0), some (.inl x1), none, none, none, none] [.inl x1] Z (zri Q))
  refine z0 (op := 0) (a := 0) (b := 0) (by rfl) (by rfl) (?_ : TZ (d + 1) 102 2 [some (.inr 0), some (.inl x1), none, none, none, none] [.inl 0, .inl x1] Z (zri Q))
  refine z0 (op := 1) (a := 0) (b := 20) (by rfl) (by rfl) (?_ : TZ (d + 1) 102 4 [some (.inr 0), some (.inl x1), none, none, none, none] [.inl 20, .inl 0, .inl x1] Z (zri Q))
  refine z_si (by rfl) (by rfl) (TI.mono v fun r2 Z1 v => ?_)
  show TZ (d + 1) 102 7 [some (.inr 0), some (.inl x1), none, none, none, none] [.inl r2] Z1 (zri Q)
  refine z0 (op := 7) (a := 2) (b := 0) (by rfl) (by rfl) (?_ : TZ (d + 1) 102 8 [some (.inr 0), some (.inl x1), some (.inl r2), none, none, none] [] Z1 (zri Q))
  refine z0 (op := 3) (a := 2) (b := 0) (by rfl) (by rfl) (?_ : TZ (d + 1) 102 9 [some (.inr 0), some (.inl x1), some (.inl r2), none, none, none] [.inl r2] Z1 (zri Q))
  obtain ⟨c3, v1, v2⟩ := v
  refine z_if0 (a := 0) (t := 18) (by rfl) (by rfl) c3 (fun h4 => ?_) (fun h4 => ?_)
  · have v := v1 h4; clear v1 v2
    show TZ (d + 1) 102 18 [some (.inr 0), some (.inl x1), some (.inl r2), none, none, none] [] Z1 (zri Q)
    refine z0 (op := 5) (a := 0) (b := 0) (by rfl) (by rfl) (?_ : TZ (d + 1) 102 19 [some (.inr 0), some (.inl x1), some (.inl r2), none, none, none] [.inr 0] Z1 (zri Q))
    refine z_vr (by rfl) (by rfl) cl_0 (TR.mono v fun r6 Z5 v => ?_)
    obtain ⟨er6, v⟩ := v
    subst er6
    show TZ (d + 1) 102 22 [some (.inr 0), some (.inl x1), some (.inl r2), none, none, none] [.inr 19] Z5 (zri Q)
    refine z0 (op := 9) (a := 3) (b := 0) (by rfl) (by rfl) (?_ : TZ (d + 1) 102 23 [some (.inr 0), some (.inl x1), some (.inl r2), some (.inr 19), none, none] [] Z5 (zri Q))
    refine z0 (op := 0) (a := 0) (b := 0) (by rfl) (by rfl) (?_ : TZ (d + 1) 102 24 [some (.inr 0), some (.inl x1), some (.inl r2), some (.inr 19), none, none] [.inl 0] Z5 (zri Q))
    refine z0 (op := 8) (a := 4) (b := 0) (by rfl) (by rfl) (?_ : TZ (d + 1) 102 26 [some (.inr 0), some (.inl x1), some (.inl r2), some (.inr 19), some (.inl 0), none] [] Z5 (zri Q))
    refine z0 (op := 0) (a := 0) (b := 0) (by rfl) (by rfl) (?_ : TZ (d + 1) 102 27 [some (.inr 0), some (.inl x1), some (.inl r2), some (.inr 19), some (.inl 0), none] [.inl 0] Z5 (zri Q))
    refine z0 (op := 8) (a := 5) (b := 0) (by rfl) (by rfl) (?_ : TZ (d + 1) 102 29 [some (.inr 0), some (.inl x1), some (.inl r2), some (.inr 19), some (.inl 0), some (.inl 0)] [] Z5 (zri Q))
    exact v
  · have v := v2 h4; clear v1 v2
    show TZ (d + 1) 102 12 [some (.inr 0), some (.inl x1), some (.inl r2), none, none, none] [] Z1 (zri Q)
    refine z0 (op := 5) (a := 0) (b := 0) (by rfl) (by rfl) (?_ : TZ (d + 1) 102 13 [some (.inr 0), some (.inl x1), some (.inl r2), none, none, none] [.inr 0] Z1 (zri Q))
    refine z0 (op := 3) (a := 2) (b := 0) (by rfl) (by rfl) (?_ : TZ (d + 1) 102 14 [some (.inr 0), some (.inl x1), some (.inl r2), none, none, none] [.inl r2, .inr 0] Z1 (zri Q))
    refine z_vi (by rfl) (by rfl) cl_0 (TI.mono v fun r8 Z7 v => ?_)
    show TZ (d + 1) 102 17 [some (.inr 0), some (.inl x1), some (.inl r2), none, none, none] [.inl r8] Z7 (zri Q)
    exact z_reti (by rfl) (by rfl) v
theorem w102_29 {d : Nat} {x1 x2 x4 x5 : Int} {Z : zM} {Q : Int → zM → Prop}
    (v : zR x5 ∧
      zR x1 ∧
      (x1 ≤ x5 → Q x4 Z) ∧
      (¬ x1 ≤ x5 → TI d 25 [.inr 19, .inl (-1)] Z (fun r5 Z4 =>
          TI d 23 [.inr 19] Z4 (fun r7 Z6 =>
            TZ (d + 1) 102 29 [some (.inr 0), some (.inl x1), some (.inl x2), some (.inr 19), some (.inl (x4 + r7)), some (.inl (x5 + 1))] [] Z6 (zri Q))))) :
    TZ (d + 1) 102 29 [some (.inr 0), some (.inl x1), some (.inl x2), some (.inr 19), some (.inl x4), some (.inl x5)] [] Z (zri Q) := by
  refine z0 (op := 4) (a := 5) (b := 0) (by rfl) (by rfl) (?_ : TZ (d + 1) 102 31 [some (.inr 0), some (.inl x1), some (.inl x2), some (.inr 19), some (.inl x4), some (.inl x5)] [.inl x5] Z (zri Q))
  refine z0 (op := 3) (a := 1) (b := 0) (by rfl) (by rfl) (?_ : TZ (d + 1) 102 32 [some (.inr 0), some (.inl x1), some (.inl x2), some (.inr 19), some (.inl x4), some (.inl x5)] [.inl x1, .inl x5] Z (zri Q))
  obtain ⟨c1, c2, v1, v2⟩ := v
  refine z_if2 (a := 3) (t := 56) (by rfl) (by rfl) c1 c2 (fun h3 => ?_) (fun h3 => ?_)
  · have v := v1 h3; clear v1 v2
    show TZ (d + 1) 102 56 [some (.inr 0), some (.inl x1), some (.inl x2), some (.inr 19), some (.inl x4), some (.inl x5)] [] Z (zri Q)
    refine z0 (op := 4) (a := 4) (b := 0) (by rfl) (by rfl) (?_ : TZ (d + 1) 102 58 [some (.inr 0), some (.inl x1), some (.inl x2), some (.inr 19), some (.inl x4), some (.inl x5)] [.inl x4] Z (zri Q))
    exact z_reti (by rfl) (by rfl) v
  · have v := v2 h3; clear v1 v2
    show TZ (d + 1) 102 35 [some (.inr 0), some (.inl x1), some (.inl x2), some (.inr 19), some (.inl x4), some (.inl x5)] [] Z (zri Q)
    refine z0 (op := 5) (a := 3) (b := 0) (by rfl) (by rfl) (?_ : TZ (d + 1) 102 36 [some (.inr 0), some (.inl x1), some (.inl x2), some (.inr 19), some (.inl x4), some (.inl x5)] [.inr 19] Z (zri Q))
    refine z0 (op := 0) (a := 0) (b := (-1)) (by rfl) (by rfl) (?_ : TZ (d + 1) 102 37 [some (.inr 0), some (.inl x1), some (.inl x2), some (.inr 19), some (.inl x4), some (.inl x5)] [.inl (-1), .inr 19] Z (zri Q))
    refine z_vi (by rfl) (by rfl) cl_19 (TI.mono v fun r5 Z4 v => ?_)
    show TZ (d + 1) 102 40 [some (.inr 0), some (.inl x1), some (.inl x2), some (.inr 19), some (.inl x4), some (.inl x5)] [.inl r5] Z4 (zri Q)
    refine z0 (op := 14) (a := 0) (b := 0) (by rfl) (by rfl) (?_ : TZ (d + 1) 102 41 [some (.inr 0), some (.inl x1), some (.inl x2), some (.inr 19), some (.inl x4), some (.inl x5)] [] Z4 (zri Q))
    refine z0 (op := 4) (a := 4) (b := 0) (by rfl) (by rfl) (?_ : TZ (d + 1) 102 43 [some (.inr 0), some (.inl x1), some (.inl x2), some (.inr 19), some (.inl x4), some (.inl x5)] [.inl x4] Z4 (zri Q))
    refine z0 (op := 5) (a := 3) (b := 0) (by rfl) (by rfl) (?_ : TZ (d + 1) 102 44 [some (.inr 0), some (.inl x1), some (.inl x2), some (.inr 19), some (.inl x4), some (.inl x5)] [.inr 19, .inl x4] Z4 (zri Q))
    refine z_vi (by rfl) (by rfl) cl_19 (TI.mono v fun r7 Z6 v => ?_)
    show TZ (d + 1) 102 47 [some (.inr 0), some (.inl x1), some (.inl x2), some (.inr 19), some (.inl x4), some (.inl x5)] [.inl r7, .inl x4] Z6 (zri Q)
    refine z0 (op := 12) (a := 0) (b := 0) (by rfl) (by rfl) (?_ : TZ (d + 1) 102 48 [some (.inr 0), some (.inl x1), some (.inl x2), some (.inr 19), some (.inl x4), some (.inl x5)] [.inl (x4 + r7)] Z6 (zri Q))
    refine z0 (op := 8) (a := 4) (b := 0) (by rfl) (by rfl) (?_ : TZ (d + 1) 102 50 [some (.inr 0), some (.inl x1), some (.inl x2), some (.inr 19), some (.inl (x4 + r7)), some (.inl x5)] [] Z6 (zri Q))
    refine z0 (op := 11) (a := 5) (b := 1) (by rfl) (by rfl) (?_ : TZ (d + 1) 102 53 [some (.inr 0), some (.inl x1), some (.inl x2), some (.inr 19), some (.inl (x4 + r7)), some (.inl (x5 + 1))] [] Z6 (zri Q))
    refine z_goto (t := 29) (by rfl) (by rfl) (?_ : TZ (d + 1) 102 29 [some (.inr 0), some (.inl x1), some (.inl x2), some (.inr 19), some (.inl (x4 + r7)), some (.inl (x5 + 1))] [] Z6 (zri Q))
    exact v
theorem w103_0 {d : Nat} {x1 x2 : Int} {Z : zM} {Q : Int → zM → Prop}
    (v : TI d 73 [.inl x1, .inl 0, .inl 20] Z (fun r2 Z1 =>
      TI d 75 [.inl x2, .inl 1] Z1 (fun r4 Z3 =>
        TI d 72 [.inl r2, .inl r4] Z3 (fun r6 Z5 =>
          zR r6 ∧
            (r6 = 0 → TR d 97 [.inr 0] Z5 (fun r10 Z9 =>
                r10 = 19 ∧ TZ (d + 1) 103 44 [some (.inr 0), some (.inl x1), some (.inl x2), some (.inl r6), some (.inr 19), some (.inl 0), some (.inl 0), some (.inl 0), some (.inl 0), none] [] Z9 (zri Q))) ∧
            (¬ r6 = 0 → TI d 71 [.inr 0, .inl r6] Z5 (fun r12 Z11 =>
                Q r12 Z11)))))) :
    TZ (d + 1) 103 0 [some (.inr 0), some (.inl x1), some (.inl x2), none, none, none, none, none, none, none] [] Z (zri Q) := by
  refine z0 (op := 3) (a := 1) (b := 0) (by rfl) (by rfl) (?_ : TZ (d + 1) 103 1 [some (.inr 0), some (.inl x1), some (.inl x2), none, none, none, none, none, none, none] [.inl x1] Z (zri Q))
  refine z0 (op := 0) (a := 0) (b := 0) (by rfl) (by rfl) (?_ : TZ (d + 1) 103 2 [some (.inr 0), some (.inl x1), some (.inl x2), none, none, none, none, none, none, none] [.inl 0, .inl x1] Z (zri Q))
  refine z0 (op := 1) (a := 0) (b := 20) (by rfl) (by rfl) (?_ : TZ (d + 1) 103 4 [some (.inr 0), some (.inl x1), some (.inl x2), none, none, none, none, none, none, none] [.inl 20, .inl 0, .inl x1] Z (zri Q))
  refine z_si (by rfl) (by rfl) (TI.mono v fun r2 Z1 v => ?_)
  show TZ (d + 1) 103 7 [some (.inr 0), some (.inl x1), some (.inl x2), none, none, none, none, none, none, none] [.inl r2] Z1 (zri Q)
  refine z0 (op := 3) (a := 2) (b := 0) (by rfl) (by rfl) (?_ : TZ (d + 1) 103 8 [some (.inr 0), some (.inl x1), some (.inl x2), none, none, none, none, none, none, none] [.inl x2, .inl r2] Z1 (zri Q))
  refine z0 (op := 0) (a := 0) (b := 1) (by rfl) (by rfl) (?_ : TZ (d + 1) 103 9 [some (.inr 0), some (.inl x1), some (.inl x2), none, none, none, none, none, none, none] [.inl 1, .inl x2, .inl r2] Z1 (zri Q))
  refine z_si (by rfl) (by rfl) (TI.mono v fun r4 Z3 v => ?_)
  show TZ (d + 1) 103 12 [some (.inr 0), some (.inl x1), some (.inl x2), none, none, none, none, none, none, none] [.inl r4, .inl r2] Z3 (zri Q)
  refine z_si (by rfl) (by rfl) (TI.mono v fun r6 Z5 v => ?_)
  show TZ (d + 1) 103 15 [some (.inr 0), some (.inl x1), some (.inl x2), none, none, none, none, none, none, none] [.inl r6] Z5 (zri Q)
  refine z0 (op := 7) (a := 3) (b := 0) (by rfl) (by rfl) (?_ : TZ (d + 1) 103 16 [some (.inr 0), some (.inl x1), some (.inl x2), some (.inl r6), none, none, none, none, none, none] [] Z5 (zri Q))
  refine z0 (op := 3) (a := 3) (b := 0) (by rfl) (by rfl) (?_ : TZ (d + 1) 103 17 [some (.inr 0), some (.inl x1), some (.inl x2), some (.inl r6), none, none, none, none, none, none] [.inl r6] Z5 (zri Q))
  obtain ⟨c7, v1, v2⟩ := v
  refine z_if0 (a := 0) (t := 26) (by rfl) (by rfl) c7 (fun h8 => ?_) (fun h8 => ?_)
  · have v := v1 h8; clear v1 v2
    show TZ (d + 1) 103 26 [some (.inr 0), some (.inl x1), some (.inl x2), some (.inl r6), none, none, none, none, none, none] [] Z5 (zri Q)
    refine z0 (op := 5) (a := 0) (b := 0) (by rfl) (by rfl) (?_ : TZ (d + 1) 103 27 [some (.inr 0), some (.inl x1), some (.inl x2), some (.inl r6), none, none, none, none, none, none] [.inr 0] Z5 (zri Q))
    refine z_vr (by rfl) (by rfl) cl_0 (TR.mono v fun r10 Z9 v => ?_)
    obtain ⟨er10, v⟩ := v
    subst er10
    show TZ (d + 1) 103 30 [some (.inr 0), some (.inl x1), some (.inl x2), some (.inl r6), none, none, none, none, none, none] [.inr 19] Z9 (zri Q)
    refine z0 (op := 10) (a := 4) (b := 0) (by rfl) (by rfl) (?_ : TZ (d + 1) 103 32 [some (.inr 0), some (.inl x1), some (.inl x2), some (.inl r6), some (.inr 19), none, none, none, none, none] [] Z9 (zri Q))
    refine z0 (op := 0) (a := 0) (b := 0) (by rfl) (by rfl) (?_ : TZ (d + 1) 103 33 [some (.inr 0), some (.inl x1), some (.inl x2), some (.inl r6), some (.inr 19), none, none, none, none, none] [.inl 0] Z9 (zri Q))
    refine z0 (op := 8) (a := 5) (b := 0) (by rfl) (by rfl) (?_ : TZ (d + 1) 103 35 [some (.inr 0), some (.inl x1), some (.inl x2), some (.inl r6), some (.inr 19), some (.inl 0), none, none, none, none] [] Z9 (zri Q))
    refine z0 (op := 0) (a := 0) (b := 0) (by rfl) (by rfl) (?_ : TZ (d + 1) 103 36 [some (.inr 0), some (.inl x1), some (.inl x2), some (.inl r6), some (.inr 19), some (.inl 0), none, none, none, none] [.inl 0] Z9 (zri Q))
    refine z0 (op := 8) (a := 6) (b := 0) (by rfl) (by rfl) (?_ : TZ (d + 1) 103 38 [some (.inr 0), some (.inl x1), some (.inl x2), some (.inl r6), some (.inr 19), some (.inl 0), some (.inl 0), none, none, none] [] Z9 (zri Q))
    refine z0 (op := 0) (a := 0) (b := 0) (by rfl) (by rfl) (?_ : TZ (d + 1) 103 39 [some (.inr 0), some (.inl x1), some (.inl x2), some (.inl r6), some (.inr 19), some (.inl 0), some (.inl 0), none, none, none] [.inl 0] Z9 (zri Q))
    refine z0 (op := 8) (a := 7) (b := 0) (by rfl) (by rfl) (?_ : TZ (d + 1) 103 41 [some (.inr 0), some (.inl x1), some (.inl x2), some (.inl r6), some (.inr 19), some (.inl 0), some (.inl 0), some (.inl 0), none, none] [] Z9 (zri Q))
    refine z0 (op := 0) (a := 0) (b := 0) (by rfl) (by rfl) (?_ : TZ (d + 1) 103 42 [some (.inr 0), some (.inl x1), some (.inl x2), some (.inl r6), some (.inr 19), some (.inl 0), some (.inl 0), some (.inl 0), none, none] [.inl 0] Z9 (zri Q))
    refine z0 (op := 8) (a := 8) (b := 0) (by rfl) (by rfl) (?_ : TZ (d + 1) 103 44 [some (.inr 0), some (.inl x1), some (.inl x2), some (.inl r6), some (.inr 19), some (.inl 0), some (.inl 0), some (.inl 0), some (.inl 0), none] [] Z9 (zri Q))
    exact v
  · have v := v2 h8; clear v1 v2
    show TZ (d + 1) 103 20 [some (.inr 0), some (.inl x1), some (.inl x2), some (.inl r6), none, none, none, none, none, none] [] Z5 (zri Q)
    refine z0 (op := 5) (a := 0) (b := 0) (by rfl) (by rfl) (?_ : TZ (d + 1) 103 21 [some (.inr 0), some (.inl x1), some (.inl x2), some (.inl r6), none, none, none, none, none, none] [.inr 0] Z5 (zri Q))
    refine z0 (op := 3) (a := 3) (b := 0) (by rfl) (by rfl) (?_ : TZ (d + 1) 103 22 [some (.inr 0), some (.inl x1), some (.inl x2), some (.inl r6), none, none, none, none, none, none] [.inl r6, .inr 0] Z5 (zri Q))
    refine z_vi (by rfl) (by rfl) cl_0 (TI.mono v fun r12 Z11 v => ?_)
    show TZ (d + 1) 103 25 [some (.inr 0), some (.inl x1), some (.inl x2), some (.inl r6), none, none, none, none, none, none] [.inl r12] Z11 (zri Q)
    exact z_reti (by rfl) (by rfl) v
theorem w103_44 {d : Nat} {x1 x2 x3 x5 x6 x7 x8 : Int} {o9 : Option zV} {Z : zM} {Q : Int → zM → Prop}
    (v : zR x8 ∧
      zR x1 ∧
      (x1 ≤ x8 → (zR x2 ∧
          (x2 ≠ 0 → Q x7 Z) ∧
          (¬ x2 ≠ 0 → Q x5 Z))) ∧
      (¬ x1 ≤ x8 → TI d 25 [.inr 19, .inl (-1)] Z (fun r7 Z6 =>
          TI d 23 [.inr 19] Z6 (fun r9 Z8 =>
            zR r9 ∧
              (r9 ≠ 0 → (zR x7 ∧ TZ (d + 1) 103 44 [some (.inr 0), some (.inl x1), some (.inl x2), some (.inl x3), some (.inr 19), some (.inl (x5 + 0)), some (.inl 0), some (.inl (max x7 0)), some (.inl (x8 + 1)), some (.inl 0)] [] Z8 (zri Q))) ∧
              (¬ r9 ≠ 0 → (zR x7 ∧
                  zR (x6 + 1) ∧ TZ (d + 1) 103 44 [some (.inr 0), some (.inl x1), some (.inl x2), some (.inl x3), some (.inr 19), some (.inl (x5 + 1)), some (.inl (x6 + 1)), some (.inl (max x7 (x6 + 1))), some (.inl (x8 + 1)), some (.inl 1)] [] Z8 (zri Q))))))) :
    TZ (d + 1) 103 44 [some (.inr 0), some (.inl x1), some (.inl x2), some (.inl x3), some (.inr 19), some (.inl x5), some (.inl x6), some (.inl x7), some (.inl x8), o9] [] Z (zri Q) := by
  refine z0 (op := 4) (a := 8) (b := 0) (by rfl) (by rfl) (?_ : TZ (d + 1) 103 46 [some (.inr 0), some (.inl x1), some (.inl x2), some (.inl x3), some (.inr 19), some (.inl x5), some (.inl x6), some (.inl x7), some (.inl x8), o9] [.inl x8] Z (zri Q))
  refine z0 (op := 3) (a := 1) (b := 0) (by rfl) (by rfl) (?_ : TZ (d + 1) 103 47 [some (.inr 0), some (.inl x1), some (.inl x2), some (.inl x3), some (.inr 19), some (.inl x5), some (.inl x6), some (.inl x7), some (.inl x8), o9] [.inl x1, .inl x8] Z (zri Q))
  obtain ⟨c1, c2, v1, v2⟩ := v
  refine z_if2 (a := 3) (t := 117) (by rfl) (by rfl) c1 c2 (fun h3 => ?_) (fun h3 => ?_)
  · have v := v1 h3; clear v1 v2
    show TZ (d + 1) 103 117 [some (.inr 0), some (.inl x1), some (.inl x2), some (.inl x3), some (.inr 19), some (.inl x5), some (.inl x6), some (.inl x7), some (.inl x8), o9] [] Z (zri Q)
    refine z0 (op := 3) (a := 2) (b := 0) (by rfl) (by rfl) (?_ : TZ (d + 1) 103 118 [some (.inr 0), some (.inl x1), some (.inl x2), some (.inl x3), some (.inr 19), some (.inl x5), some (.inl x6), some (.inl x7), some (.inl x8), o9] [.inl x2] Z (zri Q))
    obtain ⟨c4, v1, v2⟩ := v
    refine z_if0 (a := 1) (t := 126) (by rfl) (by rfl) c4 (fun h5 => ?_) (fun h5 => ?_)
    · have v := v1 h5; clear v1 v2
      show TZ (d + 1) 103 126 [some (.inr 0), some (.inl x1), some (.inl x2), some (.inl x3), some (.inr 19), some (.inl x5), some (.inl x6), some (.inl x7), some (.inl x8), o9] [] Z (zri Q)
      refine z0 (op := 4) (a := 7) (b := 0) (by rfl) (by rfl) (?_ : TZ (d + 1) 103 128 [some (.inr 0), some (.inl x1), some (.inl x2), some (.inl x3), some (.inr 19), some (.inl x5), some (.inl x6), some (.inl x7), some (.inl x8), o9] [.inl x7] Z (zri Q))
      exact z_reti (by rfl) (by rfl) v
    · have v := v2 h5; clear v1 v2
      show TZ (d + 1) 103 121 [some (.inr 0), some (.inl x1), some (.inl x2), some (.inl x3), some (.inr 19), some (.inl x5), some (.inl x6), some (.inl x7), some (.inl x8), o9] [] Z (zri Q)
      refine z0 (op := 4) (a := 5) (b := 0) (by rfl) (by rfl) (?_ : TZ (d + 1) 103 123 [some (.inr 0), some (.inl x1), some (.inl x2), some (.inl x3), some (.inr 19), some (.inl x5), some (.inl x6), some (.inl x7), some (.inl x8), o9] [.inl x5] Z (zri Q))
      refine z_goto (t := 128) (by rfl) (by rfl) (?_ : TZ (d + 1) 103 128 [some (.inr 0), some (.inl x1), some (.inl x2), some (.inl x3), some (.inr 19), some (.inl x5), some (.inl x6), some (.inl x7), some (.inl x8), o9] [.inl x5] Z (zri Q))
      exact z_reti (by rfl) (by rfl) v
  · have v := v2 h3; clear v1 v2
    show TZ (d + 1) 103 50 [some (.inr 0), some (.inl x1), some (.inl x2), some (.inl x3), some (.inr 19), some (.inl x5), some (.inl x6), some (.inl x7), some (.inl x8), o9] [] Z (zri Q)
    refine z0 (op := 6) (a := 4) (b := 0) (by rfl) (by rfl) (?_ : TZ (d + 1) 103 52 [some (.inr 0), some (.inl x1), some (.inl x2), some (.inl x3), some (.inr 19), some (.inl x5), some (.inl x6), some (.inl x7), some (.inl x8), o9] [.inr 19] Z (zri Q))
    refine z0 (op := 0) (a := 0) (b := (-1)) (by rfl) (by rfl) (?_ : TZ (d + 1) 103 53 [some (.inr 0), some (.inl x1), some (.inl x2), some (.inl x3), some (.inr 19), some (.inl x5), some (.inl x6), some (.inl x7), some (.inl x8), o9] [.inl (-1), .inr 19] Z (zri Q))
    refine z_vi (by rfl) (by rfl) cl_19 (TI.mono v fun r7 Z6 v => ?_)
    show TZ (d + 1) 103 56 [some (.inr 0), some (.inl x1), some (.inl x2), some (.inl x3), some (.inr 19), some (.inl x5), some (.inl x6), some (.inl x7), some (.inl x8), o9] [.inl r7] Z6 (zri Q)
    refine z0 (op := 14) (a := 0) (b := 0) (by rfl) (by rfl) (?_ : TZ (d + 1) 103 57 [some (.inr 0), some (.inl x1), some (.inl x2), some (.inl x3), some (.inr 19), some (.inl x5), some (.inl x6), some (.inl x7), some (.inl x8), o9] [] Z6 (zri Q))
    refine z0 (op := 6) (a := 4) (b := 0) (by rfl) (by rfl) (?_ : TZ (d + 1) 103 59 [some (.inr 0), some (.inl x1), some (.inl x2), some (.inl x3), some (.inr 19), some (.inl x5), some (.inl x6), some (.inl x7), some (.inl x8), o9] [.inr 19] Z6 (zri Q))
    refine z_vi (by rfl) (by rfl) cl_19 (TI.mono v fun r9 Z8 v => ?_)
    show TZ (d + 1) 103 62 [some (.inr 0), some (.inl x1), some (.inl x2), some (.inl x3), some (.inr 19), some (.inl x5), some (.inl x6), some (.inl x7), some (.inl x8), o9] [.inl r9] Z8 (zri Q)
    obtain ⟨c10, v1, v2⟩ := v
    refine z_if0 (a := 1) (t := 69) (by rfl) (by rfl) c10 (fun h11 => ?_) (fun h11 => ?_)
    · have v := v1 h11; clear v1 v2
      show TZ (d + 1) 103 69 [some (.inr 0), some (.inl x1), some (.inl x2), some (.inl x3), some (.inr 19), some (.inl x5), some (.inl x6), some (.inl x7), some (.inl x8), o9] [] Z8 (zri Q)
      refine z0 (op := 0) (a := 0) (b := 0) (by rfl) (by rfl) (?_ : TZ (d + 1) 103 70 [some (.inr 0), some (.inl x1), some (.inl x2), some (.inl x3), some (.inr 19), some (.inl x5), some (.inl x6), some (.inl x7), some (.inl x8), o9] [.inl 0] Z8 (zri Q))
      refine z0 (op := 8) (a := 9) (b := 0) (by rfl) (by rfl) (?_ : TZ (d + 1) 103 72 [some (.inr 0), some (.inl x1), some (.inl x2), some (.inl x3), some (.inr 19), some (.inl x5), some (.inl x6), some (.inl x7), some (.inl x8), some (.inl 0)] [] Z8 (zri Q))
      refine z0 (op := 4) (a := 9) (b := 0) (by rfl) (by rfl) (?_ : TZ (d + 1) 103 74 [some (.inr 0), some (.inl x1), some (.inl x2), some (.inl x3), some (.inr 19), some (.inl x5), some (.inl x6), some (.inl x7), some (.inl x8), some (.inl 0)] [.inl 0] Z8 (zri Q))
      refine z_if0 (a := 0) (t := 84) (by rfl) (by rfl) (by decide) (fun _ => ?_) (fun h => absurd (show (0 : Int) = (0 : Int) by decide) h)
      show TZ (d + 1) 103 84 [some (.inr 0), some (.inl x1), some (.inl x2), some (.inl x3), some (.inr 19), some (.inl x5), some (.inl x6), some (.inl x7), some (.inl x8), some (.inl 0)] [] Z8 (zri Q)
      refine z0 (op := 0) (a := 0) (b := 0) (by rfl) (by rfl) (?_ : TZ (d + 1) 103 85 [some (.inr 0), some (.inl x1), some (.inl x2), some (.inl x3), some (.inr 19), some (.inl x5), some (.inl x6), some (.inl x7), some (.inl x8), some (.inl 0)] [.inl 0] Z8 (zri Q))
      refine z0 (op := 8) (a := 6) (b := 0) (by rfl) (by rfl) (?_ : TZ (d + 1) 103 87 [some (.inr 0), some (.inl x1), some (.inl x2), some (.inl x3), some (.inr 19), some (.inl x5), some (.inl 0), some (.inl x7), some (.inl x8), some (.inl 0)] [] Z8 (zri Q))
      refine z0 (op := 4) (a := 5) (b := 0) (by rfl) (by rfl) (?_ : TZ (d + 1) 103 89 [some (.inr 0), some (.inl x1), some (.inl x2), some (.inl x3), some (.inr 19), some (.inl x5), some (.inl 0), some (.inl x7), some (.inl x8), some (.inl 0)] [.inl x5] Z8 (zri Q))
      refine z0 (op := 4) (a := 9) (b := 0) (by rfl) (by rfl) (?_ : TZ (d + 1) 103 91 [some (.inr 0), some (.inl x1), some (.inl x2), some (.inl x3), some (.inr 19), some (.inl x5), some (.inl 0), some (.inl x7), some (.inl x8), some (.inl 0)] [.inl 0, .inl x5] Z8 (zri Q))
      refine z_if0 (a := 0) (t := 98) (by rfl) (by rfl) (by decide) (fun _ => ?_) (fun h => absurd (show (0 : Int) = (0 : Int) by decide) h)
      show TZ (d + 1) 103 98 [some (.inr 0), some (.inl x1), some (.inl x2), some (.inl x3), some (.inr 19), some (.inl x5), some (.inl 0), some (.inl x7), some (.inl x8), some (.inl 0)] [.inl x5] Z8 (zri Q)
      refine z0 (op := 0) (a := 0) (b := 0) (by rfl) (by rfl) (?_ : TZ (d + 1) 103 99 [some (.inr 0), some (.inl x1), some (.inl x2), some (.inl x3), some (.inr 19), some (.inl x5), some (.inl 0), some (.inl x7), some (.inl x8), some (.inl 0)] [.inl 0, .inl x5] Z8 (zri Q))
      refine z0 (op := 12) (a := 0) (b := 0) (by rfl) (by rfl) (?_ : TZ (d + 1) 103 100 [some (.inr 0), some (.inl x1), some (.inl x2), some (.inl x3), some (.inr 19), some (.inl x5), some (.inl 0), some (.inl x7), some (.inl x8), some (.inl 0)] [.inl (x5 + 0)] Z8 (zri Q))
      refine z0 (op := 8) (a := 5) (b := 0) (by rfl) (by rfl) (?_ : TZ (d + 1) 103 102 [some (.inr 0), some (.inl x1), some (.inl x2), some (.inl x3), some (.inr 19), some (.inl (x5 + 0)), some (.inl 0), some (.inl x7), some (.inl x8), some (.inl 0)] [] Z8 (zri Q))
      refine z0 (op := 4) (a := 7) (b := 0) (by rfl) (by rfl) (?_ : TZ (d + 1) 103 104 [some (.inr 0), some (.inl x1), some (.inl x2), some (.inl x3), some (.inr 19), some (.inl (x5 + 0)), some (.inl 0), some (.inl x7), some (.inl x8), some (.inl 0)] [.inl x7] Z8 (zri Q))
      refine z0 (op := 4) (a := 6) (b := 0) (by rfl) (by rfl) (?_ : TZ (d + 1) 103 106 [some (.inr 0), some (.inl x1), some (.inl x2), some (.inl x3), some (.inr 19), some (.inl (x5 + 0)), some (.inl 0), some (.inl x7), some (.inl x8), some (.inl 0)] [.inl 0, .inl x7] Z8 (zri Q))
      obtain ⟨c12, v⟩ := v
      refine z_max (by rfl) (by rfl) (Nat.le_of_ble_eq_true rfl) c12 (by decide) (?_ : TZ (d + 1) 103 109 [some (.inr 0), some (.inl x1), some (.inl x2), some (.inl x3), some (.inr 19), some (.inl (x5 + 0)), some (.inl 0), some (.inl x7), some (.inl x8), some (.inl 0)] [.inl (max x7 0)] Z8 (zri Q))
      refine z0 (op := 8) (a := 7) (b := 0) (by rfl) (by rfl) (?_ : TZ (d + 1) 103 111 [some (.inr 0), some (.inl x1), some (.inl x2), some (.inl x3), some (.inr 19), some (.inl (x5 + 0)), some (.inl 0), some (.inl (max x7 0)), some (.inl x8), some (.inl 0)] [] Z8 (zri Q))
      refine z0 (op := 11) (a := 8) (b := 1) (by rfl) (by rfl) (?_ : TZ (d + 1) 103 114 [some (.inr 0), some (.inl x1), some (.inl x2), some (.inl x3), some (.inr 19), some (.inl (x5 + 0)), some (.inl 0), some (.inl (max x7 0)), some (.inl (x8 + 1)), some (.inl 0)] [] Z8 (zri Q))
      refine z_goto (t := 44) (by rfl) (by rfl) (?_ : TZ (d + 1) 103 44 [some (.inr 0), some (.inl x1), some (.inl x2), some (.inl x3), some (.inr 19), some (.inl (x5 + 0)), some (.inl 0), some (.inl (max x7 0)), some (.inl (x8 + 1)), some (.inl 0)] [] Z8 (zri Q))
      exact v
    · have v := v2 h11; clear v1 v2
      show TZ (d + 1) 103 65 [some (.inr 0), some (.inl x1), some (.inl x2), some (.inl x3), some (.inr 19), some (.inl x5), some (.inl x6), some (.inl x7), some (.inl x8), o9] [] Z8 (zri Q)
      refine z0 (op := 0) (a := 0) (b := 1) (by rfl) (by rfl) (?_ : TZ (d + 1) 103 66 [some (.inr 0), some (.inl x1), some (.inl x2), some (.inl x3), some (.inr 19), some (.inl x5), some (.inl x6), some (.inl x7), some (.inl x8), o9] [.inl 1] Z8 (zri Q))
      refine z_goto (t := 70) (by rfl) (by rfl) (?_ : TZ (d + 1) 103 70 [some (.inr 0), some (.inl x1), some (.inl x2), some (.inl x3), some (.inr 19), some (.inl x5), some (.inl x6), some (.inl x7), some (.inl x8), o9] [.inl 1] Z8 (zri Q))
      refine z0 (op := 8) (a := 9) (b := 0) (by rfl) (by rfl) (?_ : TZ (d + 1) 103 72 [some (.inr 0), some (.inl x1), some (.inl x2), some (.inl x3), some (.inr 19), some (.inl x5), some (.inl x6), some (.inl x7), some (.inl x8), some (.inl 1)] [] Z8 (zri Q))
      refine z0 (op := 4) (a := 9) (b := 0) (by rfl) (by rfl) (?_ : TZ (d + 1) 103 74 [some (.inr 0), some (.inl x1), some (.inl x2), some (.inl x3), some (.inr 19), some (.inl x5), some (.inl x6), some (.inl x7), some (.inl x8), some (.inl 1)] [.inl 1] Z8 (zri Q))
      refine z_if0 (a := 0) (t := 84) (by rfl) (by rfl) (by decide) (fun h => absurd (show (1 : Int) = (0 : Int) from h) (by decide)) (fun _ => ?_)
      show TZ (d + 1) 103 77 [some (.inr 0), some (.inl x1), some (.inl x2), some (.inl x3), some (.inr 19), some (.inl x5), some (.inl x6), some (.inl x7), some (.inl x8), some (.inl 1)] [] Z8 (zri Q)
      refine z0 (op := 4) (a := 6) (b := 0) (by rfl) (by rfl) (?_ : TZ (d + 1) 103 79 [some (.inr 0), some (.inl x1), some (.inl x2), some (.inl x3), some (.inr 19), some (.inl x5), some (.inl x6), some (.inl x7), some (.inl x8), some (.inl 1)] [.inl x6] Z8 (zri Q))
      refine z0 (op := 0) (a := 0) (b := 1) (by rfl) (by rfl) (?_ : TZ (d + 1) 103 80 [some (.inr 0), some (.inl x1), some (.inl x2), some (.inl x3), some (.inr 19), some (.inl x5), some (.inl x6), some (.inl x7), some (.inl x8), some (.inl 1)] [.inl 1, .inl x6] Z8 (zri Q))
      refine z0 (op := 12) (a := 0) (b := 0) (by rfl) (by rfl) (?_ : TZ (d + 1) 103 81 [some (.inr 0), some (.inl x1), some (.inl x2), some (.inl x3), some (.inr 19), some (.inl x5), some (.inl x6), some (.inl x7), some (.inl x8), some (.inl 1)] [.inl (x6 + 1)] Z8 (zri Q))
      refine z_goto (t := 85) (by rfl) (by rfl) (?_ : TZ (d + 1) 103 85 [some (.inr 0), some (.inl x1), some (.inl x2), some (.inl x3), some (.inr 19), some (.inl x5), some (.inl x6), some (.inl x7), some (.inl x8), some (.inl 1)] [.inl (x6 + 1)] Z8 (zri Q))
      refine z0 (op := 8) (a := 6) (b := 0) (by rfl) (by rfl) (?_ : TZ (d + 1) 103 87 [some (.inr 0), some (.inl x1), some (.inl x2), some (.inl x3), some (.inr 19), some (.inl x5), some (.inl (x6 + 1)), some (.inl x7), some (.inl x8), some (.inl 1)] [] Z8 (zri Q))
      refine z0 (op := 4) (a := 5) (b := 0) (by rfl) (by rfl) (?_ : TZ (d + 1) 103 89 [some (.inr 0), some (.inl x1), some (.inl x2), some (.inl x3), some (.inr 19), some (.inl x5), some (.inl (x6 + 1)), some (.inl x7), some (.inl x8), some (.inl 1)] [.inl x5] Z8 (zri Q))
      refine z0 (op := 4) (a := 9) (b := 0) (by rfl) (by rfl) (?_ : TZ (d + 1) 103 91 [some (.inr 0), some (.inl x1), some (.inl x2), some (.inl x3), some (.inr 19), some (.inl x5), some (.inl (x6 + 1)), some (.inl x7), some (.inl x8), some (.inl 1)] [.inl 1, .inl x5] Z8 (zri Q))
      refine z_if0 (a := 0) (t := 98) (by rfl) (by rfl) (by decide) (fun h => absurd (show (1 : Int) = (0 : Int) from h) (by decide)) (fun _ => ?_)
      show TZ (d + 1) 103 94 [some (.inr 0), some (.inl x1), some (.inl x2), some (.inl x3), some (.inr 19), some (.inl x5), some (.inl (x6 + 1)), some (.inl x7), some (.inl x8), some (.inl 1)] [.inl x5] Z8 (zri Q)
      refine z0 (op := 0) (a := 0) (b := 1) (by rfl) (by rfl) (?_ : TZ (d + 1) 103 95 [some (.inr 0), some (.inl x1), some (.inl x2), some (.inl x3), some (.inr 19), some (.inl x5), some (.inl (x6 + 1)), some (.inl x7), some (.inl x8), some (.inl 1)] [.inl 1, .inl x5] Z8 (zri Q))
      refine z_goto (t := 99) (by rfl) (by rfl) (?_ : TZ (d + 1) 103 99 [some (.inr 0), some (.inl x1), some (.inl x2), some (.inl x3), some (.inr 19), some (.inl x5), some (.inl (x6 + 1)), some (.inl x7), some (.inl x8), some (.inl 1)] [.inl 1, .inl x5] Z8 (zri Q))
      refine z0 (op := 12) (a := 0) (b := 0) (by rfl) (by rfl) (?_ : TZ (d + 1) 103 100 [some (.inr 0), some (.inl x1), some (.inl x2), some (.inl x3), some (.inr 19), some (.inl x5), some (.inl (x6 + 1)), some (.inl x7), some (.inl x8), some (.inl 1)] [.inl (x5 + 1)] Z8 (zri Q))
      refine z0 (op := 8) (a := 5) (b := 0) (by rfl) (by rfl) (?_ : TZ (d + 1) 103 102 [some (.inr 0), some (.inl x1), some (.inl x2), some (.inl x3), some (.inr 19), some (.inl (x5 + 1)), some (.inl (x6 + 1)), some (.inl x7), some (.inl x8), some (.inl 1)] [] Z8 (zri Q))
      refine z0 (op := 4) (a := 7) (b := 0) (by rfl) (by rfl) (?_ : TZ (d + 1) 103 104 [some (.inr 0), some (.inl x1), some (.inl x2), some (.inl x3), some (.inr 19), some (.inl (x5 + 1)), some (.inl (x6 + 1)), some (.inl x7), some (.inl x8), some (.inl 1)] [.inl x7] Z8 (zri Q))
      refine z0 (op := 4) (a := 6) (b := 0) (by rfl) (by rfl) (?_ : TZ (d + 1) 103 106 [some (.inr 0), some (.inl x1), some (.inl x2), some (.inl x3), some (.inr 19), some (.inl (x5 + 1)), some (.inl (x6 + 1)), some (.inl x7), some (.inl x8), some (.inl 1)] [.inl (x6 + 1), .inl x7] Z8 (zri Q))
      obtain ⟨c13, c14, v⟩ := v
      refine z_max (by rfl) (by rfl) (Nat.le_of_ble_eq_true rfl) c13 c14 (?_ : TZ (d + 1) 103 109 [some (.inr 0), some (.inl x1), some (.inl x2), some (.inl x3), some (.inr 19), some (.inl (x5 + 1)), some (.inl (x6 + 1)), some (.inl x7), some (.inl x8), some (.inl 1)] [.inl (max x7 (x6 + 1))] Z8 (zri Q))
      refine z0 (op := 8) (a := 7) (b := 0) (by rfl) (by rfl) (?_ : TZ (d + 1) 103 111 [some (.inr 0), some (.inl x1), some (.inl x2), some (.inl x3), some (.inr 19), some (.inl (x5 + 1)), some (.inl (x6 + 1)), some (.inl (max x7 (x6 + 1))), some (.inl x8), some (.inl 1)] [] Z8 (zri Q))
      refine z0 (op := 11) (a := 8) (b := 1) (by rfl) (by rfl) (?_ : TZ (d + 1) 103 114 [some (.inr 0), some (.inl x1), some (.inl x2), some (.inl x3), some (.inr 19), some (.inl (x5 + 1)), some (.inl (x6 + 1)), some (.inl (max x7 (x6 + 1))), some (.inl (x8 + 1)), some (.inl 1)] [] Z8 (zri Q))
      refine z_goto (t := 44) (by rfl) (by rfl) (?_ : TZ (d + 1) 103 44 [some (.inr 0), some (.inl x1), some (.inl x2), some (.inl x3), some (.inr 19), some (.inl (x5 + 1)), some (.inl (x6 + 1)), some (.inl (max x7 (x6 + 1))), some (.inl (x8 + 1)), some (.inl 1)] [] Z8 (zri Q))
      exact v
theorem w104_0 {d : Nat} {x1 x2 : Int} {Z : zM} {Q : Int → zM → Prop}
    (v : TI d 73 [.inl x1, .inl 0, .inl 20] Z (fun r2 Z1 =>
      TI d 75 [.inl x2, .inl 1] Z1 (fun r4 Z3 =>
        TI d 72 [.inl r2, .inl r4] Z3 (fun r6 Z5 =>
          zR r6 ∧
            (r6 = 0 → TR d 98 [.inr 0, .inl x1] Z5 (fun r10 Z9 =>
                r10 = 19 ∧
                  TI d 22 [.inr 19] Z9 (fun r12 Z11 =>
                  TI d 2 [.inl ((Z9 19 7) - r12), .inl 12] Z11 (fun r14 Z13 =>
                    zR x2 ∧
                      (x2 ≠ 0 → (zR (12 - r14) ∧ Q (Int.tmod (12 - r14) 12) Z13)) ∧
                      (¬ x2 ≠ 0 → Q r14 Z13))))) ∧
            (¬ r6 = 0 → TI d 71 [.inr 0, .inl r6] Z5 (fun r19 Z18 =>
                Q r19 Z18)))))) :
    TZ (d + 1) 104 0 [some (.inr 0), some (.inl x1), some (.inl x2), none, none, none] [] Z (zri Q) := by
  refine z0 (op := 3) (a := 1) (b := 0) (by rfl) (by rfl) (?_ : TZ (d + 1) 104 1 [some (.inr 0), some (.inl x1), some (.inl x2), none, none, none] [.inl x1] Z (zri Q))
  refine z0 (op := 0) (a := 0) (b := 0) (by rfl) (by rfl) (?_ : TZ (d + 1) 104 2 [some (.inr 0), some (.inl x1), some (.inl x2), none, none, none] [.inl 0, .inl x1] Z (zri Q))
  refine z0 (op := 1) (a := 0) (b := 20) (by rfl) (by rfl) (?_ : TZ (d + 1) 104 4 [some (.inr 0), some (.inl x1), some (.inl x2), none, none, none] [.inl 20, .inl 0, .inl x1] Z (zri Q))
  refine z_si (by rfl) (by rfl) (TI.mono v fun r2 Z1 v => ?_)
  show TZ (d + 1) 104 7 [some (.inr 0), some (.inl x1), some (.inl x2), none, none, none] [.inl r2] Z1 (zri Q)
  refine z0 (op := 3) (a := 2) (b := 0) (by rfl) (by rfl) (?_ : TZ (d + 1) 104 8 [some (.inr 0), some (.inl x1), some (.inl x2), none, none, none] [.inl x2, .inl r2] Z1 (zri Q))
  refine z0 (op := 0) (a := 0) (b := 1) (by rfl) (by rfl) (?_ : TZ (d + 1) 104 9 [some (.inr 0), some (.inl x1), some (.inl x2), none, none, none] [.inl 1, .inl x2, .inl r2] Z1 (zri Q))
  refine z_si (by rfl) (by rfl) (TI.mono v fun r4 Z3 v => ?_)
  show TZ (d + 1) 104 12 [some (.inr 0), some (.inl x1), some (.inl x2), none, none, none] [.inl r4, .inl r2] Z3 (zri Q)
  refine z_si (by rfl) (by rfl) (TI.mono v fun r6 Z5 v => ?_)
  show TZ (d + 1) 104 15 [some (.inr 0), some (.inl x1), some (.inl x2), none, none, none] [.inl r6] Z5 (zri Q)
  refine z0 (op := 7) (a := 3) (b := 0) (by rfl) (by rfl) (?_ : TZ (d + 1) 104 16 [some (.inr 0), some (.inl x1), some (.inl x2), some (.inl r6), none, none] [] Z5 (zri Q))
  refine z0 (op := 3) (a := 3) (b := 0) (by rfl) (by rfl) (?_ : TZ (d + 1) 104 17 [some (.inr 0), some (.inl x1), some (.inl x2), some (.inl r6), none, none] [.inl r6] Z5 (zri Q))
  obtain ⟨c7, v1, v2⟩ := v
  refine z_if0 (a := 0) (t := 26) (by rfl) (by rfl) c7 (fun h8 => ?_) (fun h8 => ?_)
  · have v := v1 h8; clear v1 v2
    show TZ (d + 1) 104 26 [some (.inr 0), some (.inl x1), some (.inl x2), some (.inl r6), none, none] [] Z5 (zri Q)
    refine z0 (op := 5) (a := 0) (b := 0) (by rfl) (by rfl) (?_ : TZ (d + 1) 104 27 [some (.inr 0), some (.inl x1), some (.inl x2), some (.inl r6), none, none] [.inr 0] Z5 (zri Q))
    refine z0 (op := 3) (a := 1) (b := 0) (by rfl) (by rfl) (?_ : TZ (d + 1) 104 28 [some (.inr 0), some (.inl x1), some (.inl x2), some (.inl r6), none, none] [.inl x1, .inr 0] Z5 (zri Q))
    refine z_vr (by rfl) (by rfl) cl_0 (TR.mono v fun r10 Z9 v => ?_)
    obtain ⟨er10, v⟩ := v
    subst er10
    show TZ (d + 1) 104 31 [some (.inr 0), some (.inl x1), some (.inl x2), some (.inl r6), none, none] [.inr 19] Z9 (zri Q)
    refine z0 (op := 10) (a := 4) (b := 0) (by rfl) (by rfl) (?_ : TZ (d + 1) 104 33 [some (.inr 0), some (.inl x1), some (.inl x2), some (.inl r6), some (.inr 19), none] [] Z9 (zri Q))
    refine z0 (op := 6) (a := 4) (b := 0) (by rfl) (by rfl) (?_ : TZ (d + 1) 104 35 [some (.inr 0), some (.inl x1), some (.inl x2), some (.inl r6), some (.inr 19), none] [.inr 19] Z9 (zri Q))
    refine z_fi (by rfl) fi72_19 (?_ : TZ (d + 1) 104 38 [some (.inr 0), some (.inl x1), some (.inl x2), some (.inl r6), some (.inr 19), none] [.inl (Z9 19 7)] Z9 (zri Q))
    refine z0 (op := 6) (a := 4) (b := 0) (by rfl) (by rfl) (?_ : TZ (d + 1) 104 40 [some (.inr 0), some (.inl x1), some (.inl x2), some (.inl r6), some (.inr 19), none] [.inr 19, .inl (Z9 19 7)] Z9 (zri Q))
    refine z_vi (by rfl) (by rfl) cl_19 (TI.mono v fun r12 Z11 v => ?_)
    show TZ (d + 1) 104 43 [some (.inr 0), some (.inl x1), some (.inl x2), some (.inl r6), some (.inr 19), none] [.inl r12, .inl (Z9 19 7)] Z11 (zri Q)
    refine z0 (op := 12) (a := 1) (b := 0) (by rfl) (by rfl) (?_ : TZ (d + 1) 104 44 [some (.inr 0), some (.inl x1), some (.inl x2), some (.inl r6), some (.inr 19), none] [.inl ((Z9 19 7) - r12)] Z11 (zri Q))
    refine z0 (op := 1) (a := 0) (b := 12) (by rfl) (by rfl) (?_ : TZ (d + 1) 104 46 [some (.inr 0), some (.inl x1), some (.inl x2), some (.inl r6), some (.inr 19), none] [.inl 12, .inl ((Z9 19 7) - r12)] Z11 (zri Q))
    refine z_si (by rfl) (by rfl) (TI.mono v fun r14 Z13 v => ?_)
    show TZ (d + 1) 104 49 [some (.inr 0), some (.inl x1), some (.inl x2), some (.inl r6), some (.inr 19), none] [.inl r14] Z13 (zri Q)
    refine z0 (op := 8) (a := 5) (b := 0) (by rfl) (by rfl) (?_ : TZ (d + 1) 104 51 [some (.inr 0), some (.inl x1), some (.inl x2), some (.inl r6), some (.inr 19), some (.inl r14)] [] Z13 (zri Q))
    refine z0 (op := 3) (a := 2) (b := 0) (by rfl) (by rfl) (?_ : TZ (d + 1) 104 52 [some (.inr 0), some (.inl x1), some (.inl x2), some (.inl r6), some (.inr 19), some (.inl r14)] [.inl x2] Z13 (zri Q))
    obtain ⟨c15, v1, v2⟩ := v
    refine z_if0 (a := 1) (t := 60) (by rfl) (by rfl) c15 (fun h16 => ?_) (fun h16 => ?_)
    · have v := v1 h16; clear v1 v2
      show TZ (d + 1) 104 60 [some (.inr 0), some (.inl x1), some (.inl x2), some (.inl r6), some (.inr 19), some (.inl r14)] [] Z13 (zri Q)
      refine z0 (op := 1) (a := 0) (b := 12) (by rfl) (by rfl) (?_ : TZ (d + 1) 104 62 [some (.inr 0), some (.inl x1), some (.inl x2), some (.inl r6), some (.inr 19), some (.inl r14)] [.inl 12] Z13 (zri Q))
      refine z0 (op := 4) (a := 5) (b := 0) (by rfl) (by rfl) (?_ : TZ (d + 1) 104 64 [some (.inr 0), some (.inl x1), some (.inl x2), some (.inl r6), some (.inr 19), some (.inl r14)] [.inl r14, .inl 12] Z13 (zri Q))
      refine z0 (op := 12) (a := 1) (b := 0) (by rfl) (by rfl) (?_ : TZ (d + 1) 104 65 [some (.inr 0), some (.inl x1), some (.inl x2), some (.inl r6), some (.inr 19), some (.inl r14)] [.inl (12 - r14)] Z13 (zri Q))
      refine z0 (op := 1) (a := 0) (b := 12) (by rfl) (by rfl) (?_ : TZ (d + 1) 104 67 [some (.inr 0), some (.inl x1), some (.inl x2), some (.inl r6), some (.inr 19), some (.inl r14)] [.inl 12, .inl (12 - r14)] Z13 (zri Q))
      obtain ⟨c17, v⟩ := v
      refine z_rem (by rfl) c17 (by decide) (?_ : TZ (d + 1) 104 68 [some (.inr 0), some (.inl x1), some (.inl x2), some (.inl r6), some (.inr 19), some (.inl r14)] [.inl (Int.tmod (12 - r14) 12)] Z13 (zri Q))
      exact z_reti (by rfl) (by rfl) v
    · have v := v2 h16; clear v1 v2
      show TZ (d + 1) 104 55 [some (.inr 0), some (.inl x1), some (.inl x2), some (.inl r6), some (.inr 19), some (.inl r14)] [] Z13 (zri Q)
      refine z0 (op := 4) (a := 5) (b := 0) (by rfl) (by rfl) (?_ : TZ (d + 1) 104 57 [some (.inr 0), some (.inl x1), some (.inl x2), some (.inl r6), some (.inr 19), some (.inl r14)] [.inl r14] Z13 (zri Q))
      refine z_goto (t := 68) (by rfl) (by rfl) (?_ : TZ (d + 1) 104 68 [some (.inr 0), some (.inl x1), some (.inl x2), some (.inl r6), some (.inr 19), some (.inl r14)] [.inl r14] Z13 (zri Q))
      exact z_reti (by rfl) (by rfl) v
  · have v := v2 h8; clear v1 v2
    show TZ (d + 1) 104 20 [some (.inr 0), some (.inl x1), some (.inl x2), some (.inl r6), none, none] [] Z5 (zri Q)
    refine z0 (op := 5) (a := 0) (b := 0) (by rfl) (by rfl) (?_ : TZ (d + 1) 104 21 [some (.inr 0), some (.inl x1), some (.inl x2), some (.inl r6), none, none] [.inr 0] Z5 (zri Q))
    refine z0 (op := 3) (a := 3) (b := 0) (by rfl) (by rfl) (?_ : TZ (d + 1) 104 22 [some (.inr 0), some (.inl x1), some (.inl x2), some (.inl r6), none, none] [.inl r6, .inr 0] Z5 (zri Q))
    refine z_vi (by rfl) (by rfl) cl_0 (TI.mono v fun r19 Z18 v => ?_)
    show TZ (d + 1) 104 25 [some (.inr 0), some (.inl x1), some (.inl x2), some (.inl r6), none, none] [.inl r19] Z18 (zri Q)
    exact z_reti (by rfl) (by rfl) v
theorem w105_0 {d : Nat} {x1 : Int} {Z : zM} {Q : Int → zM → Prop}
    (v : TI d 73 [.inl x1, .inl 0, .inl 20] Z (fun r2 Z1 =>
      zR r2 ∧
        (r2 = 0 → TR d 97 [.inr 0] Z1 (fun r6 Z5 =>
            r6 = 19 ∧ TZ (d + 1) 105 29 [some (.inr 0), some (.inl x1), some (.inl r2), some (.inr 19), some (.inl 0), some (.inl 0)] [] Z5 (zri Q))) ∧
        (¬ r2 = 0 → TI d 71 [.inr 0, .inl r2] Z1 (fun r8 Z7 =>
            Q r8 Z7)))) :
    TZ (d + 1) 105 0 [some (.inr 0), some (.inl x1), none, none, none, none] [] Z (zri Q) := by
  refine z0 (op := 3) (a := 1) (b := 0) (by rfl) (by rfl) (?_ : TZ (d + 1) 105 1 [some (.inr 0), some (.inl x1), none, none, none, none] [.inl x1] Z (zri Q))
  refine z0 (op := 0) (a := 0) (b := 0) (by rfl) (by rfl) (?_ : TZ (d + 1) 105 2 [some (.inr 0), some (.inl x1), none, none, none, none] [.inl 0, .inl x1] Z (zri Q))
  refine z0 (op := 1) (a := 0) (b := 20) (by rfl) (by rfl) (?_ : TZ (d + 1) 105 4 [some (.inr 0), some (.inl x1), none, none, none, none] [.inl 20, .inl 0, .inl x1] Z (zri Q))
  refine z_si (by rfl) (by rfl) (TI.mono v fun r2 Z1 v => ?_)
  show TZ (d + 1) 105 7 [some (.inr 0), some (.inl x1), none, none, none, none] [.inl r2] Z1 (zri Q)
  refine z0 (op := 7) (a := 2) (b := 0) (by rfl) (by rfl) (?_ : TZ (d + 1) 105 8 [some (.inr 0), some (.inl x1), some (.inl r2), none, none, none] [] Z1 (zri Q))
  refine z0 (op := 3) (a := 2) (b := 0) (by rfl) (by rfl) (?_ : TZ (d + 1) 105 9 [some (.inr 0), some (.inl x1), some (.inl r2), none, none, none] [.inl r2] Z1 (zri Q))
  obtain ⟨c3, v1, v2⟩ := v
  refine z_if0 (a := 0) (t := 18) (by rfl) (by rfl) c3 (fun h4 => ?_) (fun h4 => ?_)
  · have v := v1 h4; clear v1 v2
    show TZ (d + 1) 105 18 [some (.inr 0), some (.inl x1), some (.inl r2), none, none, none] [] Z1 (zri Q)
    refine z0 (op := 5) (a := 0) (b := 0) (by rfl) (by rfl) (?_ : TZ (d + 1) 105 19 [some (.inr 0), some (.inl x1), some (.inl r2), none, none, none] [.inr 0] Z1 (zri Q))
    refine z_vr (by rfl) (by rfl) cl_0 (TR.mono v fun r6 Z5 v => ?_)
    obtain ⟨er6, v⟩ := v
    subst er6
    show TZ (d + 1) 105 22 [some (.inr 0), some (.inl x1), some (.inl r2), none, none, none] [.inr 19] Z5 (zri Q)
    refine z0 (op := 9) (a := 3) (b := 0) (by rfl) (by rfl) (?_ : TZ (d + 1) 105 23 [some (.inr 0), some (.inl x1), some (.inl r2), some (.inr 19), none, none] [] Z5 (zri Q))
    refine z0 (op := 0) (a := 0) (b := 0) (by rfl) (by rfl) (?_ : TZ (d + 1) 105 24 [some (.inr 0), some (.inl x1), some (.inl r2), some (.inr 19), none, none] [.inl 0] Z5 (zri Q))
    refine z0 (op := 8) (a := 4) (b := 0) (by rfl) (by rfl) (?_ : TZ (d + 1) 105 26 [some (.inr 0), some (.inl x1), some (.inl r2), some (.inr 19), some (.inl 0), none] [] Z5 (zri Q))
    refine z0 (op := 0) (a := 0) (b := 0) (by rfl) (by rfl) (?_ : TZ (d + 1) 105 27 [some (.inr 0), some (.inl x1), some (.inl r2), some (.inr 19), some (.inl 0), none] [.inl 0] Z5 (zri Q))
    refine z0 (op := 8) (a := 5) (b := 0) (by rfl) (by rfl) (?_ : TZ (d + 1) 105 29 [some (.inr 0), some (.inl x1), some (.inl r2), some (.inr 19), some (.inl 0), some (.inl 0)] [] Z5 (zri Q))
    exact v
  · have v := v2 h4; clear v1 v2
    show TZ (d + 1) 105 12 [some (.inr 0), some (.inl x1), some (.inl r2), none, none, none] [] Z1 (zri Q)
    refine z0 (op := 5) (a := 0) (b := 0) (by rfl) (by rfl) (?_ : TZ (d + 1) 105 13 [some (.inr 0), some (.inl x1), some (.inl r2), none, none, none] [.inr 0] Z1 (zri Q))
    refine z0 (op := 3) (a := 2) (b := 0) (by rfl) (by rfl) (?_ : TZ (d + 1) 105 14 [some (.inr 0), some (.inl x1), some (.inl r2), none, none, none] [.inl r2, .inr 0] Z1 (zri Q))
    refine z_vi (by rfl) (by rfl) cl_0 (TI.mono v fun r8 Z7 v => ?_)
    show TZ (d + 1) 105 17 [some (.inr 0), some (.inl x1), some (.inl r2), none, none, none] [.inl r8] Z7 (zri Q)
    exact z_reti (by rfl) (by rfl) v
theorem w105_29 {d : Nat} {x1 x2 x4 x5 : Int} {Z : zM} {Q : Int → zM → Prop}
    (v : zR x5 ∧
      zR x1 ∧
      (x1 ≤ x5 → Q (zbit 3 ((zbit 6 1 (Z 19 5)) - 1) (zbit 5 x4 (-1))) Z) ∧
      (¬ x1 ≤ x5 → TI d 25 [.inr 19, .inl (-1)] Z (fun r5 Z4 =>
          TZ (d + 1) 105 29 [some (.inr 0), some (.inl x1), some (.inl x2), some (.inr 19), some (.inl (zbit 4 x4 r5)), some (.inl (x5 + 1))] [] Z4 (zri Q)))) :
    TZ (d + 1) 105 29 [some (.inr 0), some (.inl x1), some (.inl x2), some (.inr 19), some (.inl x4), some (.inl x5)] [] Z (zri Q) := by
  refine z0 (op := 4) (a := 5) (b := 0) (by rfl) (by rfl) (?_ : TZ (d + 1) 105 31 [some (.inr 0), some (.inl x1), some (.inl x2), some (.inr 19), some (.inl x4), some (.inl x5)] [.inl x5] Z (zri Q))
  refine z0 (op := 3) (a := 1) (b := 0) (by rfl) (by rfl) (?_ : TZ (d + 1) 105 32 [some (.inr 0), some (.inl x1), some (.inl x2), some (.inr 19), some (.inl x4), some (.inl x5)] [.inl x1, .inl x5] Z (zri Q))
  obtain ⟨c1, c2, v1, v2⟩ := v
  refine z_if2 (a := 3) (t := 51) (by rfl) (by rfl) c1 c2 (fun h3 => ?_) (fun h3 => ?_)
  · have v := v1 h3; clear v1 v2
    show TZ (d + 1) 105 51 [some (.inr 0), some (.inl x1), some (.inl x2), some (.inr 19), some (.inl x4), some (.inl x5)] [] Z (zri Q)
    refine z0 (op := 0) (a := 0) (b := 1) (by rfl) (by rfl) (?_ : TZ (d + 1) 105 52 [some (.inr 0), some (.inl x1), some (.inl x2), some (.inr 19), some (.inl x4), some (.inl x5)] [.inl 1] Z (zri Q))
    refine z0 (op := 5) (a := 3) (b := 0) (by rfl) (by rfl) (?_ : TZ (d + 1) 105 53 [some (.inr 0), some (.inl x1), some (.inl x2), some (.inr 19), some (.inl x4), some (.inl x5)] [.inr 19, .inl 1] Z (zri Q))
    refine z_fi (by rfl) fi70_19 (?_ : TZ (d + 1) 105 56 [some (.inr 0), some (.inl x1), some (.inl x2), some (.inr 19), some (.inl x4), some (.inl x5)] [.inl (Z 19 5), .inl 1] Z (zri Q))
    refine z0 (op := 12) (a := 6) (b := 0) (by rfl) (by rfl) (?_ : TZ (d + 1) 105 57 [some (.inr 0), some (.inl x1), some (.inl x2), some (.inr 19), some (.inl x4), some (.inl x5)] [.inl (zbit 6 1 (Z 19 5))] Z (zri Q))
    refine z0 (op := 0) (a := 0) (b := 1) (by rfl) (by rfl) (?_ : TZ (d + 1) 105 58 [some (.inr 0), some (.inl x1), some (.inl x2), some (.inr 19), some (.inl x4), some (.inl x5)] [.inl 1, .inl (zbit 6 1 (Z 19 5))] Z (zri Q))
    refine z0 (op := 12) (a := 1) (b := 0) (by rfl) (by rfl) (?_ : TZ (d + 1) 105 59 [some (.inr 0), some (.inl x1), some (.inl x2), some (.inr 19), some (.inl x4), some (.inl x5)] [.inl ((zbit 6 1 (Z 19 5)) - 1)] Z (zri Q))
    refine z0 (op := 4) (a := 4) (b := 0) (by rfl) (by rfl) (?_ : TZ (d + 1) 105 61 [some (.inr 0), some (.inl x1), some (.inl x2), some (.inr 19), some (.inl x4), some (.inl x5)] [.inl x4, .inl ((zbit 6 1 (Z 19 5)) - 1)] Z (zri Q))
    refine z0 (op := 0) (a := 0) (b := (-1)) (by rfl) (by rfl) (?_ : TZ (d + 1) 105 62 [some (.inr 0), some (.inl x1), some (.inl x2), some (.inr 19), some (.inl x4), some (.inl x5)] [.inl (-1), .inl x4, .inl ((zbit 6 1 (Z 19 5)) - 1)] Z (zri Q))
    refine z0 (op := 12) (a := 5) (b := 0) (by rfl) (by rfl) (?_ : TZ (d + 1) 105 63 [some (.inr 0), some (.inl x1), some (.inl x2), some (.inr 19), some (.inl x4), some (.inl x5)] [.inl (zbit 5 x4 (-1)), .inl ((zbit 6 1 (Z 19 5)) - 1)] Z (zri Q))
    refine z0 (op := 12) (a := 3) (b := 0) (by rfl) (by rfl) (?_ : TZ (d + 1) 105 64 [some (.inr 0), some (.inl x1), some (.inl x2), some (.inr 19), some (.inl x4), some (.inl x5)] [.inl (zbit 3 ((zbit 6 1 (Z 19 5)) - 1) (zbit 5 x4 (-1)))] Z (zri Q))
    exact z_reti (by rfl) (by rfl) v
  · have v := v2 h3; clear v1 v2
    show TZ (d + 1) 105 35 [some (.inr 0), some (.inl x1), some (.inl x2), some (.inr 19), some (.inl x4), some (.inl x5)] [] Z (zri Q)
    refine z0 (op := 4) (a := 4) (b := 0) (by rfl) (by rfl) (?_ : TZ (d + 1) 105 37 [some (.inr 0), some (.inl x1), some (.inl x2), some (.inr 19), some (.inl x4), some (.inl x5)] [.inl x4] Z (zri Q))
    refine z0 (op := 5) (a := 3) (b := 0) (by rfl) (by rfl) (?_ : TZ (d + 1) 105 38 [some (.inr 0), some (.inl x1), some (.inl x2), some (.inr 19), some (.inl x4), some (.inl x5)] [.inr 19, .inl x4] Z (zri Q))
    refine z0 (op := 0) (a := 0) (b := (-1)) (by rfl) (by rfl) (?_ : TZ (d + 1) 105 39 [some (.inr 0), some (.inl x1), some (.inl x2), some (.inr 19), some (.inl x4), some (.inl x5)] [.inl (-1), .inr 19, .inl x4] Z (zri Q))
    refine z_vi (by rfl) (by rfl) cl_19 (TI.mono v fun r5 Z4 v => ?_)
    show TZ (d + 1) 105 42 [some (.inr 0), some (.inl x1), some (.inl x2), some (.inr 19), some (.inl x4), some (.inl x5)] [.inl r5, .inl x4] Z4 (zri Q)
    refine z0 (op := 12) (a := 4) (b := 0) (by rfl) (by rfl) (?_ : TZ (d + 1) 105 43 [some (.inr 0), some (.inl x1), some (.inl x2), some (.inr 19), some (.inl x4), some (.inl x5)] [.inl (zbit 4 x4 r5)] Z4 (zri Q))
    refine z0 (op := 8) (a := 4) (b := 0) (by rfl) (by rfl) (?_ : TZ (d + 1) 105 45 [some (.inr 0), some (.inl x1), some (.inl x2), some (.inr 19), some (.inl (zbit 4 x4 r5)), some (.inl x5)] [] Z4 (zri Q))
    refine z0 (op := 11) (a := 5) (b := 1) (by rfl) (by rfl) (?_ : TZ (d + 1) 105 48 [some (.inr 0), some (.inl x1), some (.inl x2), some (.inr 19), some (.inl (zbit 4 x4 r5)), some (.inl (x5 + 1))] [] Z4 (zri Q))
    refine z_goto (t := 29) (by rfl) (by rfl) (?_ : TZ (d + 1) 105 29 [some (.inr 0), some (.inl x1), some (.inl x2), some (.inr 19), some (.inl (zbit 4 x4 r5)), some (.inl (x5 + 1))] [] Z4 (zri Q))
    exact v
theorem w106_0 {d : Nat} {Z : zM} {Q : Int → zM → Prop}
    (v : TR d 97 [.inr 0] Z (fun r2 Z1 =>
      r2 = 19 ∧ TZ (d + 1) 106 9 [some (.inr 0), some (.inr 19), some (.inl 0), some (.inl 1)] [] Z1 (zri Q))) :
    TZ (d + 1) 106 0 [some (.inr 0), none, none, none] [] Z (zri Q) := by
  refine z0 (op := 5) (a := 0) (b := 0) (by rfl) (by rfl) (?_ : TZ (d + 1) 106 1 [some (.inr 0), none, none, none] [.inr 0] Z (zri Q))
  refine z_vr (by rfl) (by rfl) cl_0 (TR.mono v fun r2 Z1 v => ?_)
  obtain ⟨er2, v⟩ := v
  subst er2
  show TZ (d + 1) 106 4 [some (.inr 0), none, none, none] [.inr 19] Z1 (zri Q)
  refine z0 (op := 9) (a := 1) (b := 0) (by rfl) (by rfl) (?_ : TZ (d + 1) 106 5 [some (.inr 0), some (.inr 19), none, none] [] Z1 (zri Q))
  refine z0 (op := 0) (a := 0) (b := 0) (by rfl) (by rfl) (?_ : TZ (d + 1) 106 6 [some (.inr 0), some (.inr 19), none, none] [.inl 0] Z1 (zri Q))
  refine z0 (op := 7) (a := 2) (b := 0) (by rfl) (by rfl) (?_ : TZ (d + 1) 106 7 [some (.inr 0), some (.inr 19), some (.inl 0), none] [] Z1 (zri Q))
  refine z0 (op := 0) (a := 0) (b := 1) (by rfl) (by rfl) (?_ : TZ (d + 1) 106 8 [some (.inr 0), some (.inr 19), some (.inl 0), none] [.inl 1] Z1 (zri Q))
  refine z0 (op := 7) (a := 3) (b := 0) (by rfl) (by rfl) (?_ : TZ (d + 1) 106 9 [some (.inr 0), some (.inr 19), some (.inl 0), some (.inl 1)] [] Z1 (zri Q))
  exact v
theorem w106_9 {d : Nat} {x2 x3 : Int} {Z : zM} {Q : Int → zM → Prop}
    (v : zR x3 ∧
      (43 < x3 → Q (-9) Z) ∧
      (¬ 43 < x3 → TI d 25 [.inr 19, .inl (-1)] Z (fun r4 Z3 =>
          zR r4 ∧
            (r4 ≠ 0 → TZ (d + 1) 106 9 [some (.inr 0), some (.inr 19), some (.inl 0), some (.inl (x3 + 1))] [] Z3 (zri Q)) ∧
            (¬ r4 ≠ 0 → (zR (x2 + 1) ∧
                ((x2 + 1) ≠ 3 → TZ (d + 1) 106 9 [some (.inr 0), some (.inr 19), some (.inl (x2 + 1)), some (.inl (x3 + 1))] [] Z3 (zri Q)) ∧
                (¬ (x2 + 1) ≠ 3 → Q (x3 - 3) Z3)))))) :
    TZ (d + 1) 106 9 [some (.inr 0), some (.inr 19), some (.inl x2), some (.inl x3)] [] Z (zri Q) := by
  refine z0 (op := 3) (a := 3) (b := 0) (by rfl) (by rfl) (?_ : TZ (d + 1) 106 10 [some (.inr 0), some (.inr 19), some (.inl x2), some (.inl x3)] [.inl x3] Z (zri Q))
  refine z0 (op := 1) (a := 0) (b := 43) (by rfl) (by rfl) (?_ : TZ (d + 1) 106 12 [some (.inr 0), some (.inr 19), some (.inl x2), some (.inl x3)] [.inl 43, .inl x3] Z (zri Q))
  obtain ⟨c1, v1, v2⟩ := v
  refine z_if2 (a := 4) (t := 46) (by rfl) (by rfl) c1 (by decide) (fun h2 => ?_) (fun h2 => ?_)
  · have v := v1 h2; clear v1 v2
    show TZ (d + 1) 106 46 [some (.inr 0), some (.inr 19), some (.inl x2), some (.inl x3)] [] Z (zri Q)
    refine z0 (op := 1) (a := 0) (b := (-9)) (by rfl) (by rfl) (?_ : TZ (d + 1) 106 48 [some (.inr 0), some (.inr 19), some (.inl x2), some (.inl x3)] [.inl (-9)] Z (zri Q))
    exact z_reti (by rfl) (by rfl) v
  · have v := v2 h2; clear v1 v2
    show TZ (d + 1) 106 15 [some (.inr 0), some (.inr 19), some (.inl x2), some (.inl x3)] [] Z (zri Q)
    refine z0 (op := 5) (a := 1) (b := 0) (by rfl) (by rfl) (?_ : TZ (d + 1) 106 16 [some (.inr 0), some (.inr 19), some (.inl x2), some (.inl x3)] [.inr 19] Z (zri Q))
    refine z0 (op := 0) (a := 0) (b := (-1)) (by rfl) (by rfl) (?_ : TZ (d + 1) 106 17 [some (.inr 0), some (.inr 19), some (.inl x2), some (.inl x3)] [.inl (-1), .inr 19] Z (zri Q))
    refine z_vi (by rfl) (by rfl) cl_19 (TI.mono v fun r4 Z3 v => ?_)
    show TZ (d + 1) 106 20 [some (.inr 0), some (.inr 19), some (.inl x2), some (.inl x3)] [.inl r4] Z3 (zri Q)
    obtain ⟨c5, v1, v2⟩ := v
    refine z_if0 (a := 1) (t := 29) (by rfl) (by rfl) c5 (fun h6 => ?_) (fun h6 => ?_)
    · have v := v1 h6; clear v1 v2
      show TZ (d + 1) 106 29 [some (.inr 0), some (.inr 19), some (.inl x2), some (.inl x3)] [] Z3 (zri Q)
      refine z0 (op := 0) (a := 0) (b := 0) (by rfl) (by rfl) (?_ : TZ (d + 1) 106 30 [some (.inr 0), some (.inr 19), some (.inl x2), some (.inl x3)] [.inl 0] Z3 (zri Q))
      refine z0 (op := 7) (a := 2) (b := 0) (by rfl) (by rfl) (?_ : TZ (d + 1) 106 31 [some (.inr 0), some (.inr 19), some (.inl 0), some (.inl x3)] [] Z3 (zri Q))
      refine z0 (op := 3) (a := 2) (b := 0) (by rfl) (by rfl) (?_ : TZ (d + 1) 106 32 [some (.inr 0), some (.inr 19), some (.inl 0), some (.inl x3)] [.inl 0] Z3 (zri Q))
      refine z0 (op := 0) (a := 0) (b := 3) (by rfl) (by rfl) (?_ : TZ (d + 1) 106 33 [some (.inr 0), some (.inr 19), some (.inl 0), some (.inl x3)] [.inl 3, .inl 0] Z3 (zri Q))
      refine z_if2 (a := 1) (t := 40) (by rfl) (by rfl) (by decide) (by decide) (fun _ => ?_) (fun h => absurd (show (0 : Int) ≠ (3 : Int) by decide) h)
      show TZ (d + 1) 106 40 [some (.inr 0), some (.inr 19), some (.inl 0), some (.inl x3)] [] Z3 (zri Q)
      refine z0 (op := 11) (a := 3) (b := 1) (by rfl) (by rfl) (?_ : TZ (d + 1) 106 43 [some (.inr 0), some (.inr 19), some (.inl 0), some (.inl (x3 + 1))] [] Z3 (zri Q))
      refine z_goto (t := 9) (by rfl) (by rfl) (?_ : TZ (d + 1) 106 9 [some (.inr 0), some (.inr 19), some (.inl 0), some (.inl (x3 + 1))] [] Z3 (zri Q))
      exact v
    · have v := v2 h6; clear v1 v2
      show TZ (d + 1) 106 23 [some (.inr 0), some (.inr 19), some (.inl x2), some (.inl x3)] [] Z3 (zri Q)
      refine z0 (op := 3) (a := 2) (b := 0) (by rfl) (by rfl) (?_ : TZ (d + 1) 106 24 [some (.inr 0), some (.inr 19), some (.inl x2), some (.inl x3)] [.inl x2] Z3 (zri Q))
      refine z0 (op := 0) (a := 0) (b := 1) (by rfl) (by rfl) (?_ : TZ (d + 1) 106 25 [some (.inr 0), some (.inr 19), some (.inl x2), some (.inl x3)] [.inl 1, .inl x2] Z3 (zri Q))
      refine z0 (op := 12) (a := 0) (b := 0) (by rfl) (by rfl) (?_ : TZ (d + 1) 106 26 [some (.inr 0), some (.inr 19), some (.inl x2), some (.inl x3)] [.inl (x2 + 1)] Z3 (zri Q))
      refine z_goto (t := 30) (by rfl) (by rfl) (?_ : TZ (d + 1) 106 30 [some (.inr 0), some (.inr 19), some (.inl x2), some (.inl x3)] [.inl (x2 + 1)] Z3 (zri Q))
      refine z0 (op := 7) (a := 2) (b := 0) (by rfl) (by rfl) (?_ : TZ (d + 1) 106 31 [some (.inr 0), some (.inr 19), some (.inl (x2 + 1)), some (.inl x3)] [] Z3 (zri Q))
      refine z0 (op := 3) (a := 2) (b := 0) (by rfl) (by rfl) (?_ : TZ (d + 1) 106 32 [some (.inr 0), some (.inr 19), some (.inl (x2 + 1)), some (.inl x3)] [.inl (x2 + 1)] Z3 (zri Q))
      refine z0 (op := 0) (a := 0) (b := 3) (by rfl) (by rfl) (?_ : TZ (d + 1) 106 33 [some (.inr 0), some (.inr 19), some (.inl (x2 + 1)), some (.inl x3)] [.inl 3, .inl (x2 + 1)] Z3 (zri Q))
      obtain ⟨c7, v1, v2⟩ := v
      refine z_if2 (a := 1) (t := 40) (by rfl) (by rfl) c7 (by decide) (fun h8 => ?_) (fun h8 => ?_)
      · have v := v1 h8; clear v1 v2
        show TZ (d + 1) 106 40 [some (.inr 0), some (.inr 19), some (.inl (x2 + 1)), some (.inl x3)] [] Z3 (zri Q)
        refine z0 (op := 11) (a := 3) (b := 1) (by rfl) (by rfl) (?_ : TZ (d + 1) 106 43 [some (.inr 0), some (.inr 19), some (.inl (x2 + 1)), some (.inl (x3 + 1))] [] Z3 (zri Q))
        refine z_goto (t := 9) (by rfl) (by rfl) (?_ : TZ (d + 1) 106 9 [some (.inr 0), some (.inr 19), some (.inl (x2 + 1)), some (.inl (x3 + 1))] [] Z3 (zri Q))
        exact v
      · have v := v2 h8; clear v1 v2
        show TZ (d + 1) 106 36 [some (.inr 0), some (.inr 19), some (.inl (x2 + 1)), some (.inl x3)] [] Z3 (zri Q)
        refine z0 (op := 3) (a := 3) (b := 0) (by rfl) (by rfl) (?_ : TZ (d + 1) 106 37 [some (.inr 0), some (.inr 19), some (.inl (x2 + 1)), some (.inl x3)] [.inl x3] Z3 (zri Q))
        refine z0 (op := 0) (a := 0) (b := 3) (by rfl) (by rfl) (?_ : TZ (d + 1) 106 38 [some (.inr 0), some (.inr 19), some (.inl (x2 + 1)), some (.inl x3)] [.inl 3, .inl x3] Z3 (zri Q))
        refine z0 (op := 12) (a := 1) (b := 0) (by rfl) (by rfl) (?_ : TZ (d + 1) 106 39 [some (.inr 0), some (.inr 19), some (.inl (x2 + 1)), some (.inl x3)] [.inl (x3 - 3)] Z3 (zri Q))
        exact z_reti (by rfl) (by rfl) v
theorem w107_0 {d : Nat} {Z : zM} {Q : Int → zM → Prop}
    (v : TR d 97 [.inr 0] Z (fun r2 Z1 =>
      r2 = 19 ∧ TZ (d + 1) 107 7 [some (.inr 0), some (.inr 19), some (.inl 3)] [] Z1 (zri Q))) :
    TZ (d + 1) 107 0 [some (.inr 0), none, none] [] Z (zri Q) := by
  refine z0 (op := 5) (a := 0) (b := 0) (by rfl) (by rfl) (?_ : TZ (d + 1) 107 1 [some (.inr 0), none, none] [.inr 0] Z (zri Q))
  refine z_vr (by rfl) (by rfl) cl_0 (TR.mono v fun r2 Z1 v => ?_)
  obtain ⟨er2, v⟩ := v
  subst er2
  show TZ (d + 1) 107 4 [some (.inr 0), none, none] [.inr 19] Z1 (zri Q)
  refine z0 (op := 9) (a := 1) (b := 0) (by rfl) (by rfl) (?_ : TZ (d + 1) 107 5 [some (.inr 0), some (.inr 19), none] [] Z1 (zri Q))
  refine z0 (op := 0) (a := 0) (b := 3) (by rfl) (by rfl) (?_ : TZ (d + 1) 107 6 [some (.inr 0), some (.inr 19), none] [.inl 3] Z1 (zri Q))
  refine z0 (op := 7) (a := 2) (b := 0) (by rfl) (by rfl) (?_ : TZ (d + 1) 107 7 [some (.inr 0), some (.inr 19), some (.inl 3)] [] Z1 (zri Q))
  exact v
theorem w107_7 {d : Nat} {x2 : Int} {Z : zM} {Q : Int → zM → Prop}
    (v : zR x2 ∧
      (60 < x2 → Q (-9) Z) ∧
      (¬ 60 < x2 → TI d 25 [.inr 19, .inl (-1)] Z (fun r4 Z3 =>
          TI d 25 [.inr 19, .inl (-1)] Z3 (fun r6 Z5 =>
            TI d 25 [.inr 19, .inl (-1)] Z5 (fun r8 Z7 =>
              TI d 14 [.inr 19, .inr 1] Z7 (fun r10 Z9 =>
                zR r10 ∧
                  (r10 = 0 → TZ (d + 1) 107 7 [some (.inr 0), some (.inr 19), some (.inl (x2 + 3))] [] Z9 (zri Q)) ∧
                  (¬ r10 = 0 → Q x2 Z9))))))) :
    TZ (d + 1) 107 7 [some (.inr 0), some (.inr 19), some (.inl x2)] [] Z (zri Q) := by
  refine z0 (op := 3) (a := 2) (b := 0) (by rfl) (by rfl) (?_ : TZ (d + 1) 107 8 [some (.inr 0), some (.inr 19), some (.inl x2)] [.inl x2] Z (zri Q))
  refine z0 (op := 1) (a := 0) (b := 60) (by rfl) (by rfl) (?_ : TZ (d + 1) 107 10 [some (.inr 0), some (.inr 19), some (.inl x2)] [.inl 60, .inl x2] Z (zri Q))
  obtain ⟨c1, v1, v2⟩ := v
  refine z_if2 (a := 4) (t := 50) (by rfl) (by rfl) c1 (by decide) (fun h2 => ?_) (fun h2 => ?_)
  · have v := v1 h2; clear v1 v2
    show TZ (d + 1) 107 50 [some (.inr 0), some (.inr 19), some (.inl x2)] [] Z (zri Q)
    refine z0 (op := 1) (a := 0) (b := (-9)) (by rfl) (by rfl) (?_ : TZ (d + 1) 107 52 [some (.inr 0), some (.inr 19), some (.inl x2)] [.inl (-9)] Z (zri Q))
    exact z_reti (by rfl) (by rfl) v
  · have v := v2 h2; clear v1 v2
    show TZ (d + 1) 107 13 [some (.inr 0), some (.inr 19), some (.inl x2)] [] Z (zri Q)
    refine z0 (op := 5) (a := 1) (b := 0) (by rfl) (by rfl) (?_ : TZ (d + 1) 107 14 [some (.inr 0), some (.inr 19), some (.inl x2)] [.inr 19] Z (zri Q))
    refine z0 (op := 0) (a := 0) (b := (-1)) (by rfl) (by rfl) (?_ : TZ (d + 1) 107 15 [some (.inr 0), some (.inr 19), some (.inl x2)] [.inl (-1), .inr 19] Z (zri Q))
    refine z_vi (by rfl) (by rfl) cl_19 (TI.mono v fun r4 Z3 v => ?_)
    show TZ (d + 1) 107 18 [some (.inr 0), some (.inr 19), some (.inl x2)] [.inl r4] Z3 (zri Q)
    refine z0 (op := 14) (a := 0) (b := 0) (by rfl) (by rfl) (?_ : TZ (d + 1) 107 19 [some (.inr 0), some (.inr 19), some (.inl x2)] [] Z3 (zri Q))
    refine z0 (op := 5) (a := 1) (b := 0) (by rfl) (by rfl) (?_ : TZ (d + 1) 107 20 [some (.inr 0), some (.inr 19), some (.inl x2)] [.inr 19] Z3 (zri Q))
    refine z0 (op := 0) (a := 0) (b := (-1)) (by rfl) (by rfl) (?_ : TZ (d + 1) 107 21 [some (.inr 0), some (.inr 19), some (.inl x2)] [.inl (-1), .inr 19] Z3 (zri Q))
    refine z_vi (by rfl) (by rfl) cl_19 (TI.mono v fun r6 Z5 v => ?_)
    show TZ (d + 1) 107 24 [some (.inr 0), some (.inr 19), some (.inl x2)] [.inl r6] Z5 (zri Q)
    refine z0 (op := 14) (a := 0) (b := 0) (by rfl) (by rfl) (?_ : TZ (d + 1) 107 25 [some (.inr 0), some (.inr 19), some (.inl x2)] [] Z5 (zri Q))
    refine z0 (op := 5) (a := 1) (b := 0) (by rfl) (by rfl) (?_ : TZ (d + 1) 107 26 [some (.inr 0), some (.inr 19), some (.inl x2)] [.inr 19] Z5 (zri Q))
    refine z0 (op := 0) (a := 0) (b := (-1)) (by rfl) (by rfl) (?_ : TZ (d + 1) 107 27 [some (.inr 0), some (.inr 19), some (.inl x2)] [.inl (-1), .inr 19] Z5 (zri Q))
    refine z_vi (by rfl) (by rfl) cl_19 (TI.mono v fun r8 Z7 v => ?_)
    show TZ (d + 1) 107 30 [some (.inr 0), some (.inr 19), some (.inl x2)] [.inl r8] Z7 (zri Q)
    refine z0 (op := 14) (a := 0) (b := 0) (by rfl) (by rfl) (?_ : TZ (d + 1) 107 31 [some (.inr 0), some (.inr 19), some (.inl x2)] [] Z7 (zri Q))
    refine z0 (op := 5) (a := 1) (b := 0) (by rfl) (by rfl) (?_ : TZ (d + 1) 107 32 [some (.inr 0), some (.inr 19), some (.inl x2)] [.inr 19] Z7 (zri Q))
    refine z0 (op := 5) (a := 0) (b := 0) (by rfl) (by rfl) (?_ : TZ (d + 1) 107 33 [some (.inr 0), some (.inr 19), some (.inl x2)] [.inr 0, .inr 19] Z7 (zri Q))
    refine z_fr (by rfl) fr50_0 (?_ : TZ (d + 1) 107 36 [some (.inr 0), some (.inr 19), some (.inl x2)] [.inr 1, .inr 19] Z7 (zri Q))
    refine z_vi (by rfl) (by rfl) cl_19 (TI.mono v fun r10 Z9 v => ?_)
    show TZ (d + 1) 107 39 [some (.inr 0), some (.inr 19), some (.inl x2)] [.inl r10] Z9 (zri Q)
    obtain ⟨c11, v1, v2⟩ := v
    refine z_if0 (a := 0) (t := 44) (by rfl) (by rfl) c11 (fun h12 => ?_) (fun h12 => ?_)
    · have v := v1 h12; clear v1 v2
      show TZ (d + 1) 107 44 [some (.inr 0), some (.inr 19), some (.inl x2)] [] Z9 (zri Q)
      refine z0 (op := 11) (a := 2) (b := 3) (by rfl) (by rfl) (?_ : TZ (d + 1) 107 47 [some (.inr 0), some (.inr 19), some (.inl (x2 + 3))] [] Z9 (zri Q))
      refine z_goto (t := 7) (by rfl) (by rfl) (?_ : TZ (d + 1) 107 7 [some (.inr 0), some (.inr 19), some (.inl (x2 + 3))] [] Z9 (zri Q))
      exact v
    · have v := v2 h12; clear v1 v2
      show TZ (d + 1) 107 42 [some (.inr 0), some (.inr 19), some (.inl x2)] [] Z9 (zri Q)
      refine z0 (op := 3) (a := 2) (b := 0) (by rfl) (by rfl) (?_ : TZ (d + 1) 107 43 [some (.inr 0), some (.inr 19), some (.inl x2)] [.inl x2] Z9 (zri Q))
      exact z_reti (by rfl) (by rfl) v
theorem w108_0 {d : Nat} {x1 x2 x3 x4 : Int} {Z : zM} {Q : Int → zM → Prop}
    (v : zR x1 ∧
      (x1 < 0 → TI d 75 [.inl x4, .inl 1] Z (fun r4 Z3 =>
          TI d 72 [.inl (-4), .inl r4] Z3 (fun r6 Z5 =>
            zR r6 ∧
              (r6 = 0 → TZ (d + 1) 108 76 [some (.inr 0), some (.inl x1), some (.inl x2), some (.inl x3), some (.inl x4), some (.inl r6), some (.inl 0), some (.inl x1)] [] Z5 (zri Q)) ∧
              (¬ r6 = 0 → TI d 71 [.inr 0, .inl r6] Z5 (fun r10 Z9 =>
                  Q r10 Z9))))) ∧
      (¬ x1 < 0 → (zR x2 ∧
          (x2 < 1 → TI d 75 [.inl x4, .inl 1] Z (fun r14 Z13 =>
              TI d 72 [.inl (-4), .inl r14] Z13 (fun r16 Z15 =>
                zR r16 ∧
                  (r16 = 0 → TZ (d + 1) 108 76 [some (.inr 0), some (.inl x1), some (.inl x2), some (.inl x3), some (.inl x4), some (.inl r16), some (.inl 0), some (.inl x1)] [] Z15 (zri Q)) ∧
                  (¬ r16 = 0 → TI d 71 [.inr 0, .inl r16] Z15 (fun r20 Z19 =>
                      Q r20 Z19))))) ∧
          (¬ x2 < 1 → (zR x3 ∧
              (0 ≤ x3 → (zR x1 ∧
                  (12 ≤ x1 → TI d 75 [.inl x4, .inl 1] Z (fun r26 Z25 =>
                      TI d 72 [.inl (-6), .inl r26] Z25 (fun r28 Z27 =>
                        zR r28 ∧
                          (r28 = 0 → TZ (d + 1) 108 76 [some (.inr 0), some (.inl x1), some (.inl x2), some (.inl x3), some (.inl x4), some (.inl r28), some (.inl 0), some (.inl x1)] [] Z27 (zri Q)) ∧
                          (¬ r28 = 0 → TI d 71 [.inr 0, .inl r28] Z27 (fun r32 Z31 =>
                              Q r32 Z31))))) ∧
                  (¬ 12 ≤ x1 → (zR x2 ∧
                      (12 < x2 → TI d 75 [.inl x4, .inl 1] Z (fun r36 Z35 =>
                          TI d 72 [.inl (-6), .inl r36] Z35 (fun r38 Z37 =>
                            zR r38 ∧
                              (r38 = 0 → TZ (d + 1) 108 76 [some (.inr 0), some (.inl x1), some (.inl x2), some (.inl x3), some (.inl x4), some (.inl r38), some (.inl 0), some (.inl x1)] [] Z37 (zri Q)) ∧
                              (¬ r38 = 0 → TI d 71 [.inr 0, .inl r38] Z37 (fun r42 Z41 =>
                                  Q r42 Z41))))) ∧
                      (¬ 12 < x2 → (zR x3 ∧
                          (x3 ≤ 20 → TI d 75 [.inl x4, .inl 1] Z (fun r46 Z45 =>
                              TI d 72 [.inl 0, .inl r46] Z45 (fun r48 Z47 =>
                                zR r48 ∧
                                  (r48 = 0 → TZ (d + 1) 108 76 [some (.inr 0), some (.inl x1), some (.inl x2), some (.inl x3), some (.inl x4), some (.inl r48), some (.inl 0), some (.inl x1)] [] Z47 (zri Q)) ∧
                                  (¬ r48 = 0 → TI d 71 [.inr 0, .inl r48] Z47 (fun r52 Z51 =>
                                      Q r52 Z51))))) ∧
                          (¬ x3 ≤ 20 → TI d 75 [.inl x4, .inl 1] Z (fun r54 Z53 =>
                              TI d 72 [.inl (-6), .inl r54] Z53 (fun r56 Z55 =>
                                zR r56 ∧
                                  (r56 = 0 → TZ (d + 1) 108 76 [some (.inr 0), some (.inl x1), some (.inl x2), some (.inl x3), some (.inl x4), some (.inl r56), some (.inl 0), some (.inl x1)] [] Z55 (zri Q)) ∧
                                  (¬ r56 = 0 → TI d 71 [.inr 0, .inl r56] Z55 (fun r60 Z59 =>
                                      Q r60 Z59))))))))))) ∧
              (¬ 0 ≤ x3 → TI d 75 [.inl x4, .inl 1] Z (fun r62 Z61 =>
                  TI d 72 [.inl (-4), .inl r62] Z61 (fun r64 Z63 =>
                    zR r64 ∧
                      (r64 = 0 → TZ (d + 1) 108 76 [some (.inr 0), some (.inl x1), some (.inl x2), some (.inl x3), some (.inl x4), some (.inl r64), some (.inl 0), some (.inl x1)] [] Z63 (zri Q)) ∧
                      (¬ r64 = 0 → TI d 71 [.inr 0, .inl r64] Z63 (fun r68 Z67 =>
                          Q r68 Z67)))))))))) :
    TZ (d + 1) 108 0 [some (.inr 0), some (.inl x1), some (.inl x2), some (.inl x3), some (.inl x4), none, none, none] [] Z (zri Q) := by
  refine z0 (op := 0) (a := 0) (b := 0) (by rfl) (by rfl) (?_ : TZ (d + 1) 108 1 [some (.inr 0), some (.inl x1), some (.inl x2), some (.inl x3), some (.inl x4), none, none, none] [.inl 0] Z (zri Q))
  refine z0 (op := 8) (a := 5) (b := 0) (by rfl) (by rfl) (?_ : TZ (d + 1) 108 3 [some (.inr 0), some (.inl x1), some (.inl x2), some (.inl x3), some (.inl x4), some (.inl 0), none, none] [] Z (zri Q))
  refine z0 (op := 3) (a := 1) (b := 0) (by rfl) (by rfl) (?_ : TZ (d + 1) 108 4 [some (.inr 0), some (.inl x1), some (.inl x2), some (.inl x3), some (.inl x4), some (.inl 0), none, none] [.inl x1] Z (zri Q))
  obtain ⟨c1, v1, v2⟩ := v
  refine z_if0 (a := 2) (t := 16) (by rfl) (by rfl) c1 (fun h2 => ?_) (fun h2 => ?_)
  · have v := v1 h2; clear v1 v2
    show TZ (d + 1) 108 16 [some (.inr 0), some (.inl x1), some (.inl x2), some (.inl x3), some (.inl x4), some (.inl 0), none, none] [] Z (zri Q)
    refine z0 (op := 1) (a := 0) (b := (-4)) (by rfl) (by rfl) (?_ : TZ (d + 1) 108 18 [some (.inr 0), some (.inl x1), some (.inl x2), some (.inl x3), some (.inl x4), some (.inl 0), none, none] [.inl (-4)] Z (zri Q))
    refine z0 (op := 8) (a := 5) (b := 0) (by rfl) (by rfl) (?_ : TZ (d + 1) 108 20 [some (.inr 0), some (.inl x1), some (.inl x2), some (.inl x3), some (.inl x4), some (.inl (-4)), none, none] [] Z (zri Q))
    refine z_goto (t := 45) (by rfl) (by rfl) (?_ : TZ (d + 1) 108 45 [some (.inr 0), some (.inl x1), some (.inl x2), some (.inl x3), some (.inl x4), some (.inl (-4)), none, none] [] Z (zri Q))
    refine z0 (op := 4) (a := 5) (b := 0) (by rfl) (by rfl) (?_ : TZ (d + 1) 108 47 [some (.inr 0), some (.inl x1), some (.inl x2), some (.inl x3), some (.inl x4), some (.inl (-4)), none, none] [.inl (-4)] Z (zri Q))
    refine z0 (op := 4) (a := 4) (b := 0) (by rfl) (by rfl) (?_ : TZ (d + 1) 108 49 [some (.inr 0), some (.inl x1), some (.inl x2), some (.inl x3), some (.inl x4), some (.inl (-4)), none, none] [.inl x4, .inl (-4)] Z (zri Q))
    refine z0 (op := 0) (a := 0) (b := 1) (by rfl) (by rfl) (?_ : TZ (d + 1) 108 50 [some (.inr 0), some (.inl x1), some (.inl x2), some (.inl x3), some (.inl x4), some (.inl (-4)), none, none] [.inl 1, .inl x4, .inl (-4)] Z (zri Q))
    refine z_si (by rfl) (by rfl) (TI.mono v fun r4 Z3 v => ?_)
    show TZ (d + 1) 108 53 [some (.inr 0), some (.inl x1), some (.inl x2), some (.inl x3), some (.inl x4), some (.inl (-4)), none, none] [.inl r4, .inl (-4)] Z3 (zri Q)
    refine z_si (by rfl) (by rfl) (TI.mono v fun r6 Z5 v => ?_)
    show TZ (d + 1) 108 56 [some (.inr 0), some (.inl x1), some (.inl x2), some (.inl x3), some (.inl x4), some (.inl (-4)), none, none] [.inl r6] Z5 (zri Q)
    refine z0 (op := 8) (a := 5) (b := 0) (by rfl) (by rfl) (?_ : TZ (d + 1) 108 58 [some (.inr 0), some (.inl x1), some (.inl x2), some (.inl x3), some (.inl x4), some (.inl r6), none, none] [] Z5 (zri Q))
    refine z0 (op := 4) (a := 5) (b := 0) (by rfl) (by rfl) (?_ : TZ (d + 1) 108 60 [some (.inr 0), some (.inl x1), some (.inl x2), some (.inl x3), some (.inl x4), some (.inl r6), none, none] [.inl r6] Z5 (zri Q))
    obtain ⟨c7, v1, v2⟩ := v
    refine z_if0 (a := 0) (t := 70) (by rfl) (by rfl) c7 (fun h8 => ?_) (fun h8 => ?_)
    · have v := v1 h8; clear v1 v2
      show TZ (d + 1) 108 70 [some (.inr 0), some (.inl x1), some (.inl x2), some (.inl x3), some (.inl x4), some (.inl r6), none, none] [] Z5 (zri Q)
      refine z0 (op := 0) (a := 0) (b := 0) (by rfl) (by rfl) (?_ : TZ (d + 1) 108 71 [some (.inr 0), some (.inl x1), some (.inl x2), some (.inl x3), some (.inl x4), some (.inl r6), none, none] [.inl 0] Z5 (zri Q))
      refine z0 (op := 8) (a := 6) (b := 0) (by rfl) (by rfl) (?_ : TZ (d + 1) 108 73 [some (.inr 0), some (.inl x1), some (.inl x2), some (.inl x3), some (.inl x4), some (.inl r6), some (.inl 0), none] [] Z5 (zri Q))
      refine z0 (op := 3) (a := 1) (b := 0) (by rfl) (by rfl) (?_ : TZ (d + 1) 108 74 [some (.inr 0), some (.inl x1), some (.inl x2), some (.inl x3), some (.inl x4), some (.inl r6), some (.inl 0), none] [.inl x1] Z5 (zri Q))
      refine z0 (op := 8) (a := 7) (b := 0) (by rfl) (by rfl) (?_ : TZ (d + 1) 108 76 [some (.inr 0), some (.inl x1), some (.inl x2), some (.inl x3), some (.inl x4), some (.inl r6), some (.inl 0), some (.inl x1)] [] Z5 (zri Q))
      exact v
    · have v := v2 h8; clear v1 v2
      show TZ (d + 1) 108 63 [some (.inr 0), some (.inl x1), some (.inl x2), some (.inl x3), some (.inl x4), some (.inl r6), none, none] [] Z5 (zri Q)
      refine z0 (op := 5) (a := 0) (b := 0) (by rfl) (by rfl) (?_ : TZ (d + 1) 108 64 [some (.inr 0), some (.inl x1), some (.inl x2), some (.inl x3), some (.inl x4), some (.inl r6), none, none] [.inr 0] Z5 (zri Q))
      refine z0 (op := 4) (a := 5) (b := 0) (by rfl) (by rfl) (?_ : TZ (d + 1) 108 66 [some (.inr 0), some (.inl x1), some (.inl x2), some (.inl x3), some (.inl x4), some (.inl r6), none, none] [.inl r6, .inr 0] Z5 (zri Q))
      refine z_vi (by rfl) (by rfl) cl_0 (TI.mono v fun r10 Z9 v => ?_)
      show TZ (d + 1) 108 69 [some (.inr 0), some (.inl x1), some (.inl x2), some (.inl x3), some (.inl x4), some (.inl r6), none, none] [.inl r10] Z9 (zri Q)
      exact z_reti (by rfl) (by rfl) v
  · have v := v2 h2; clear v1 v2
    show TZ (d + 1) 108 7 [some (.inr 0), some (.inl x1), some (.inl x2), some (.inl x3), some (.inl x4), some (.inl 0), none, none] [] Z (zri Q)
    refine z0 (op := 3) (a := 2) (b := 0) (by rfl) (by rfl) (?_ : TZ (d + 1) 108 8 [some (.inr 0), some (.inl x1), some (.inl x2), some (.inl x3), some (.inl x4), some (.inl 0), none, none] [.inl x2] Z (zri Q))
    refine z0 (op := 0) (a := 0) (b := 1) (by rfl) (by rfl) (?_ : TZ (d + 1) 108 9 [some (.inr 0), some (.inl x1), some (.inl x2), some (.inl x3), some (.inl x4), some (.inl 0), none, none] [.inl 1, .inl x2] Z (zri Q))
    obtain ⟨c11, v1, v2⟩ := v
    refine z_if2 (a := 2) (t := 16) (by rfl) (by rfl) c11 (by decide) (fun h12 => ?_) (fun h12 => ?_)
    · have v := v1 h12; clear v1 v2
      show TZ (d + 1) 108 16 [some (.inr 0), some (.inl x1), some (.inl x2), some (.inl x3), some (.inl x4), some (.inl 0), none, none] [] Z (zri Q)
      refine z0 (op := 1) (a := 0) (b := (-4)) (by rfl) (by rfl) (?_ : TZ (d + 1) 108 18 [some (.inr 0), some (.inl x1), some (.inl x2), some (.inl x3), some (.inl x4), some (.inl 0), none, none] [.inl (-4)] Z (zri Q))
      refine z0 (op := 8) (a := 5) (b := 0) (by rfl) (by rfl) (?_ : TZ (d + 1) 108 20 [some (.inr 0), some (.inl x1), some (.inl x2), some (.inl x3), some (.inl x4), some (.inl (-4)), none, none] [] Z (zri Q))
      refine z_goto (t := 45) (by rfl) (by rfl) (?_ : TZ (d + 1) 108 45 [some (.inr 0), some (.inl x1), some (.inl x2), some (.inl x3), some (.inl x4), some (.inl (-4)), none, none] [] Z (zri Q))
      refine z0 (op := 4) (a := 5) (b := 0) (by rfl) (by rfl) (?_ : TZ (d + 1) 108 47 [some (.inr 0), some (.inl x1), some (.inl x2), some (.inl x3), some (.inl x4), some (.inl (-4)), none, none] [.inl (-4)] Z (zri Q))
      refine z0 (op := 4) (a := 4) (b := 0) (by rfl) (by rfl) (?_ : TZ (d + 1) 108 49 [some (.inr 0), some (.inl x1), some (.inl x2), some (.inl x3), some (.inl x4), some (.inl (-4)), none, none] [.inl x4, .inl (-4)] Z (zri Q))
      refine z0 (op := 0) (a := 0) (b := 1) (by rfl) (by rfl) (?_ : TZ (d + 1) 108 50 [some (.inr 0), some (.inl x1), some (.inl x2), some (.inl x3), some (.inl x4), some (.inl (-4)), none, none] [.inl 1, .inl x4, .inl (-4)] Z (zri Q))
      refine z_si (by rfl) (by rfl) (TI.mono v fun r14 Z13 v => ?_)
      show TZ (d + 1) 108 53 [some (.inr 0), some (.inl x1), some (.inl x2), some (.inl x3), some (.inl x4), some (.inl (-4)), none, none] [.inl r14, .inl (-4)] Z13 (zri Q)
      refine z_si (by rfl) (by rfl) (TI.mono v fun r16 Z15 v => ?_)
      show TZ (d + 1) 108 56 [some (.inr 0), some (.inl x1), some (.inl x2), some (.inl x3), some (.inl x4), some (.inl (-4)), none, none] [.inl r16] Z15 (zri Q)
      refine z0 (op := 8) (a := 5) (b := 0) (by rfl) (by rfl) (?_ : TZ (d + 1) 108 58 [some (.inr 0), some (.inl x1), some (.inl x2), some (.inl x3), some (.inl x4), some (.inl r16), none, none] [] Z15 (zri Q))
      refine z0 (op := 4) (a := 5) (b := 0) (by rfl) (by rfl) (?_ : TZ (d + 1) 108 60 [some (.inr 0), some (.inl x1), some (.inl x2), some (.inl x3), some (.inl x4), some (.inl r16), none, none] [.inl r16] Z15 (zri Q))
      obtain ⟨c17, v1, v2⟩ := v
      refine z_if0 (a := 0) (t := 70) (by rfl) (by rfl) c17 (fun h18 => ?_) (fun h18 => ?_)
      · have v := v1 h18; clear v1 v2
        show TZ (d + 1) 108 70 [some (.inr 0), some (.inl x1), some (.inl x2), some (.inl x3), some (.inl x4), some (.inl r16), none, none] [] Z15 (zri Q)
        refine z0 (op := 0) (a := 0) (b := 0) (by rfl) (by rfl) (?_ : TZ (d + 1) 108 71 [some (.inr 0), some (.inl x1), some (.inl x2), some (.inl x3), some (.inl x4), some (.inl r16), none, none] [.inl 0] Z15 (zri Q))
        refine z0 (op := 8) (a := 6) (b := 0) (by rfl) (by rfl) (?_ : TZ (d + 1) 108 73 [some (.inr 0), some (.inl x1), some (.inl x2), some (.inl x3), some (.inl x4), some (.inl r16), some (.inl 0), none] [] Z15 (zri Q))
        refine z0 (op := 3) (a := 1) (b := 0) (by rfl) (by rfl) (?_ : TZ (d + 1) 108 74 [some (.inr 0), some (.inl x1), some (.inl x2), some (.inl x3), some (.inl x4), some (.inl r16), some (.inl 0), none] [.inl x1] Z15 (zri Q))
        refine z0 (op := 8) (a := 7) (b := 0) (by rfl) (by rfl) (?_ : TZ (d + 1) 108 76 [some (.inr 0), some (.inl x1), some (.inl x2), some (.inl x3), some (.inl x4), some (.inl r16), some (.inl 0), some (.inl x1)] [] Z15 (zri Q))
        exact v
      · have v := v2 h18; clear v1 v2
        show TZ (d + 1) 108 63 [some (.inr 0), some (.inl x1), some (.inl x2), some (.inl x3), some (.inl x4), some (.inl r16), none, none] [] Z15 (zri Q)
        refine z0 (op := 5) (a := 0) (b := 0) (by rfl) (by rfl) (?_ : TZ (d + 1) 108 64 [some (.inr 0), some (.inl x1), some (.inl x2), some (.inl x3), some (.inl x4), some (.inl r16), none, none] [.inr 0] Z15 (zri Q))
        refine z0 (op := 4) (a := 5) (b := 0) (by rfl) (by rfl) (?_ : TZ (d + 1) 108 66 [some (.inr 0), some (.inl x1), some (.inl x2), some (.inl x3), some (.inl x4), some (.inl r16), none, none] [.inl r16, .inr 0] Z15 (zri Q))
        refine z_vi (by rfl) (by rfl) cl_0 (TI.mono v fun r20 Z19 v => ?_)
        show TZ (d + 1) 108 69 [some (.inr 0), some (.inl x1), some (.inl x2), some (.inl x3), some (.inl x4), some (.inl r16), none, none] [.inl r20] Z19 (zri Q)
        exact z_reti (by rfl) (by rfl) v
    · have v := v2 h12; clear v1 v2
      show TZ (d + 1) 108 12 [some (.inr 0), some (.inl x1), some (.inl x2), some (.inl x3), some (.inl x4), some (.inl 0), none, none] [] Z (zri Q)
      refine z0 (op := 3) (a := 3) (b := 0) (by rfl) (by rfl) (?_ : TZ (d + 1) 108 13 [some (.inr 0), some (.inl x1), some (.inl x2), some (.inl x3), some (.inl x4), some (.inl 0), none, none] [.inl x3] Z (zri Q))
      obtain ⟨c21, v1, v2⟩ := v
      refine z_if0 (a := 3) (t := 23) (by rfl) (by rfl) c21 (fun h22 => ?_) (fun h22 => ?_)
      · have v := v1 h22; clear v1 v2
        show TZ (d + 1) 108 23 [some (.inr 0), some (.inl x1), some (.inl x2), some (.inl x3), some (.inl x4), some (.inl 0), none, none] [] Z (zri Q)
        refine z0 (op := 3) (a := 1) (b := 0) (by rfl) (by rfl) (?_ : TZ (d + 1) 108 24 [some (.inr 0), some (.inl x1), some (.inl x2), some (.inl x3), some (.inl x4), some (.inl 0), none, none] [.inl x1] Z (zri Q))
        refine z0 (op := 1) (a := 0) (b := 12) (by rfl) (by rfl) (?_ : TZ (d + 1) 108 26 [some (.inr 0), some (.inl x1), some (.inl x2), some (.inl x3), some (.inl x4), some (.inl 0), none, none] [.inl 12, .inl x1] Z (zri Q))
        obtain ⟨c23, v1, v2⟩ := v
        refine z_if2 (a := 3) (t := 41) (by rfl) (by rfl) c23 (by decide) (fun h24 => ?_) (fun h24 => ?_)
        · have v := v1 h24; clear v1 v2
          show TZ (d + 1) 108 41 [some (.inr 0), some (.inl x1), some (.inl x2), some (.inl x3), some (.inl x4), some (.inl 0), none, none] [] Z (zri Q)
          refine z0 (op := 1) (a := 0) (b := (-6)) (by rfl) (by rfl) (?_ : TZ (d + 1) 108 43 [some (.inr 0), some (.inl x1), some (.inl x2), some (.inl x3), some (.inl x4), some (.inl 0), none, none] [.inl (-6)] Z (zri Q))
          refine z0 (op := 8) (a := 5) (b := 0) (by rfl) (by rfl) (?_ : TZ (d + 1) 108 45 [some (.inr 0), some (.inl x1), some (.inl x2), some (.inl x3), some (.inl x4), some (.inl (-6)), none, none] [] Z (zri Q))
          refine z0 (op := 4) (a := 5) (b := 0) (by rfl) (by rfl) (?_ : TZ (d + 1) 108 47 [some (.inr 0), some (.inl x1), some (.inl x2), some (.inl x3), some (.inl x4), some (.inl (-6)), none, none] [.inl (-6)] Z (zri Q))
          refine z0 (op := 4) (a := 4) (b := 0) (by rfl) (by rfl) (?_ : TZ (d + 1) 108 49 [some (.inr 0), some (.inl x1), some (.inl x2), some (.inl x3), some (.inl x4), some (.inl (-6)), none, none] [.inl x4, .inl (-6)] Z (zri Q))
          refine z0 (op := 0) (a := 0) (b := 1) (by rfl) (by rfl) (?_ : TZ (d + 1) 108 50 [some (.inr 0), some (.inl x1), some (.inl x2), some (.inl x3), some (.inl x4), some (.inl (-6)), none, none] [.inl 1, .inl x4, .inl (-6)] Z (zri Q))
          refine z_si (by rfl) (by rfl) (TI.mono v fun r26 Z25 v => ?_)
          show TZ (d + 1) 108 53 [some (.inr 0), some (.inl x1), some (.inl x2), some (.inl x3), some (.inl x4), some (.inl (-6)), none, none] [.inl r26, .inl (-6)] Z25 (zri Q)
          refine z_si (by rfl) (by rfl) (TI.mono v fun r28 Z27 v => ?_)
          show TZ (d + 1) 108 56 [some (.inr 0), some (.inl x1), some (.inl x2), some (.inl x3), some (.inl x4), some (.inl (-6)), none, none] [.inl r28] Z27 (zri Q)
          refine z0 (op := 8) (a := 5) (b := 0) (by rfl) (by rfl) (?_ : TZ (d + 1) 108 58 [some (.inr 0), some (.inl x1), some (.inl x2), some (.inl x3), some (.inl x4), some (.inl r28), none, none] [] Z27 (zri Q))
          refine z0 (op := 4) (a := 5) (b := 0) (by rfl) (by rfl) (?_ : TZ (d + 1) 108 60 [some (.inr 0), some (.inl x1), some (.inl x2), some (.inl x3), some (.inl x4), some (.inl r28), none, none] [.inl r28] Z27 (zri Q))
          obtain ⟨c29, v1, v2⟩ := v
          refine z_if0 (a := 0) (t := 70) (by rfl) (by rfl) c29 (fun h30 => ?_) (fun h30 => ?_)
          · have v := v1 h30; clear v1 v2
            show TZ (d + 1) 108 70 [some (.inr 0), some (.inl x1), some (.inl x2), some (.inl x3), some (.inl x4), some (.inl r28), none, none] [] Z27 (zri Q)
            refine z0 (op := 0) (a := 0) (b := 0) (by rfl) (by rfl) (?_ : TZ (d + 1) 108 71 [some (.inr 0), some (.inl x1), some (.inl x2), some (.inl x3), some (.inl x4), some (.inl r28), none, none] [.inl 0] Z27 (zri Q))
            refine z0 (op := 8) (a := 6) (b := 0) (by rfl) (by rfl) (?_ : TZ (d + 1) 108 73 [some (.inr 0), some (.inl x1), some (.inl x2), some (.inl x3), some (.inl x4), some (.inl r28), some (.inl 0), none] [] Z27 (zri Q))
            refine z0 (op := 3) (a := 1) (b := 0) (by rfl) (by rfl) (?_ : TZ (d + 1) 108 74 [some (.inr 0), some (.inl x1), some (.inl x2), some (.inl x3), some (.inl x4), some (.inl r28), some (.inl 0), none] [.inl x1] Z27 (zri Q))
            refine z0 (op := 8) (a := 7) (b := 0) (by rfl) (by rfl) (?_ : TZ (d + 1) 108 76 [some (.inr 0), some (.inl x1), some (.inl x2), some (.inl x3), some (.inl x4), some (.inl r28), some (.inl 0), some (.inl x1)] [] Z27 (zri Q))
            exact v
          · have v := v2 h30; clear v1 v2
            show TZ (d + 1) 108 63 [some (.inr 0), some (.inl x1), some (.inl x2), some (.inl x3), some (.inl x4), some (.inl r28), none, none] [] Z27 (zri Q)
            refine z0 (op := 5) (a := 0) (b := 0) (by rfl) (by rfl) (?_ : TZ (d + 1) 108 64 [some (.inr 0), some (.inl x1), some (.inl x2), some (.inl x3), some (.inl x4), some (.inl r28), none, none] [.inr 0] Z27 (zri Q))
            refine z0 (op := 4) (a := 5) (b := 0) (by rfl) (by rfl) (?_ : TZ (d + 1) 108 66 [some (.inr 0), some (.inl x1), some (.inl x2), some (.inl x3), some (.inl x4), some (.inl r28), none, none] [.inl r28, .inr 0] Z27 (zri Q))
            refine z_vi (by rfl) (by rfl) cl_0 (TI.mono v fun r32 Z31 v => ?_)
            show TZ (d + 1) 108 69 [some (.inr 0), some (.inl x1), some (.inl x2), some (.inl x3), some (.inl x4), some (.inl r28), none, none] [.inl r32] Z31 (zri Q)
            exact z_reti (by rfl) (by rfl) v
        · have v := v2 h24; clear v1 v2
          show TZ (d + 1) 108 29 [some (.inr 0), some (.inl x1), some (.inl x2), some (.inl x3), some (.inl x4), some (.inl 0), none, none] [] Z (zri Q)
          refine z0 (op := 3) (a := 2) (b := 0) (by rfl) (by rfl) (?_ : TZ (d + 1) 108 30 [some (.inr 0), some (.inl x1), some (.inl x2), some (.inl x3), some (.inl x4), some (.inl 0), none, none] [.inl x2] Z (zri Q))
          refine z0 (op := 1) (a := 0) (b := 12) (by rfl) (by rfl) (?_ : TZ (d + 1) 108 32 [some (.inr 0), some (.inl x1), some (.inl x2), some (.inl x3), some (.inl x4), some (.inl 0), none, none] [.inl 12, .inl x2] Z (zri Q))
          obtain ⟨c33, v1, v2⟩ := v
          refine z_if2 (a := 4) (t := 41) (by rfl) (by rfl) c33 (by decide) (fun h34 => ?_) (fun h34 => ?_)
          · have v := v1 h34; clear v1 v2
            show TZ (d + 1) 108 41 [some (.inr 0), some (.inl x1), some (.inl x2), some (.inl x3), some (.inl x4), some (.inl 0), none, none] [] Z (zri Q)
            refine z0 (op := 1) (a := 0) (b := (-6)) (by rfl) (by rfl) (?_ : TZ (d + 1) 108 43 [some (.inr 0), some (.inl x1), some (.inl x2), some (.inl x3), some (.inl x4), some (.inl 0), none, none] [.inl (-6)] Z (zri Q))
            refine z0 (op := 8) (a := 5) (b := 0) (by rfl) (by rfl) (?_ : TZ (d + 1) 108 45 [some (.inr 0), some (.inl x1), some (.inl x2), some (.inl x3), some (.inl x4), some (.inl (-6)), none, none] [] Z (zri Q))
            refine z0 (op := 4) (a := 5) (b := 0) (by rfl) (by rfl) (?_ : TZ (d + 1) 108 47 [some (.inr 0), some (.inl x1), some (.inl x2), some (.inl x3), some (.inl x4), some (.inl (-6)), none, none] [.inl (-6)] Z (zri Q))
            refine z0 (op := 4) (a := 4) (b := 0) (by rfl) (by rfl) (?_ : TZ (d + 1) 108 49 [some (.inr 0), some (.inl x1), some (.inl x2), some (.inl x3), some (.inl x4), some (.inl (-6)), none, none] [.inl x4, .inl (-6)] Z (zri Q))
            refine z0 (op := 0) (a := 0) (b := 1) (by rfl) (by rfl) (?_ : TZ (d + 1) 108 50 [some (.inr 0), some (.inl x1), some (.inl x2), some (.inl x3), some (.inl x4), some (.inl (-6)), none, none] [.inl 1, .inl x4, .inl (-6)] Z (zri Q))
            refine z_si (by rfl) (by rfl) (TI.mono v fun r36 Z35 v => ?_)
            show TZ (d + 1) 108 53 [some (.inr 0), some (.inl x1), some (.inl x2), some (.inl x3), some (.inl x4), some (.inl (-6)), none, none] [.inl r36, .inl (-6)] Z35 (zri Q)
            refine z_si (by rfl) (by rfl) (TI.mono v fun r38 Z37 v => ?_)
            show TZ (d + 1) 108 56 [some (.inr 0), some (.inl x1), some (.inl x2), some (.inl x3), some (.inl x4), some (.inl (-6)), none, none] [.inl r38] Z37 (zri Q)
            refine z0 (op := 8) (a := 5) (b := 0) (by rfl) (by rfl) (?_ : TZ (d + 1) 108 58 [some (.inr 0), some (.inl x1), some (.inl x2), some (.inl x3), some (.inl x4), some (.inl r38), none, none] [] Z37 (zri Q))
            refine z0 (op := 4) (a := 5) (b := 0) (by rfl) (by rfl) (?_ : TZ (d + 1) 108 60 [some (.inr 0), some (.inl x1), some (.inl x2), some (.inl x3), some (.inl x4), some (.inl r38), none, none] [.inl r38] Z37 (zri Q))
            obtain ⟨c39, v1, v2⟩ := v
            refine z_if0 (a := 0) (t := 70) (by rfl) (by rfl) c39 (fun h40 => ?_) (fun h40 => ?_)
            · have v := v1 h40; clear v1 v2
              show TZ (d + 1) 108 70 [some (.inr 0), some (.inl x1), some (.inl x2), some (.inl x3), some (.inl x4), some (.inl r38), none, none] [] Z37 (zri Q)
              refine z0 (op := 0) (a := 0) (b := 0) (by rfl) (by rfl) (?_ : TZ (d + 1) 108 71 [some (.inr 0), some (.inl x1), some (.inl x2), some (.inl x3), some (.inl x4), some (.inl r38), none, none] [.inl 0] Z37 (zri Q))
              refine z0 (op := 8) (a := 6) (b := 0) (by rfl) (by rfl) (?_ : TZ (d + 1) 108 73 [some (.inr 0), some (.inl x1), some (.inl x2), some (.inl x3), some (.inl x4), some (.inl r38), some (.inl 0), none] [] Z37 (zri Q))
              refine z0 (op := 3) (a := 1) (b := 0) (by rfl) (by rfl) (?_ : TZ (d + 1) 108 74 [some (.inr 0), some (.inl x1), some (.inl x2), some (.inl x3), some (.inl x4), some (.inl r38), some (.inl 0), none] [.inl x1] Z37 (zri Q))
              refine z0 (op := 8) (a := 7) (b := 0) (by rfl) (by rfl) (?_ : TZ (d + 1) 108 76 [some (.inr 0), some (.inl x1), some (.inl x2), some (.inl x3), some (.inl x4), some (.inl r38), some (.inl 0), some (.inl x1)] [] Z37 (zri Q))
              exact v
            · have v := v2 h40; clear v1 v2
              show TZ (d + 1) 108 63 [some (.inr 0), some (.inl x1), some (.inl x2), some (.inl x3), some (.inl x4), some (.inl r38), none, none] [] Z37 (zri Q)
              refine z0 (op := 5) (a := 0) (b := 0) (by rfl) (by rfl) (?_ : TZ (d + 1) 108 64 [some (.inr 0), some (.inl x1), some (.inl x2), some (.inl x3), some (.inl x4), some (.inl r38), none, none] [.inr 0] Z37 (zri Q))
              refine z0 (op := 4) (a := 5) (b := 0) (by rfl) (by rfl) (?_ : TZ (d + 1) 108 66 [some (.inr 0), some (.inl x1), some (.inl x2), some (.inl x3), some (.inl x4), some (.inl r38), none, none] [.inl r38, .inr 0] Z37 (zri Q))
              refine z_vi (by rfl) (by rfl) cl_0 (TI.mono v fun r42 Z41 v => ?_)
              show TZ (d + 1) 108 69 [some (.inr 0), some (.inl x1), some (.inl x2), some (.inl x3), some (.inl x4), some (.inl r38), none, none] [.inl r42] Z41 (zri Q)
              exact z_reti (by rfl) (by rfl) v
          · have v := v2 h34; clear v1 v2
            show TZ (d + 1) 108 35 [some (.inr 0), some (.inl x1), some (.inl x2), some (.inl x3), some (.inl x4), some (.inl 0), none, none] [] Z (zri Q)
            refine z0 (op := 3) (a := 3) (b := 0) (by rfl) (by rfl) (?_ : TZ (d + 1) 108 36 [some (.inr 0), some (.inl x1), some (.inl x2), some (.inl x3), some (.inl x4), some (.inl 0), none, none] [.inl x3] Z (zri Q))
            refine z0 (op := 1) (a := 0) (b := 20) (by rfl) (by rfl) (?_ : TZ (d + 1) 108 38 [some (.inr 0), some (.inl x1), some (.inl x2), some (.inl x3), some (.inl x4), some (.inl 0), none, none] [.inl 20, .inl x3] Z (zri Q))
            obtain ⟨c43, v1, v2⟩ := v
            refine z_if2 (a := 5) (t := 45) (by rfl) (by rfl) c43 (by decide) (fun h44 => ?_) (fun h44 => ?_)
            · have v := v1 h44; clear v1 v2
              show TZ (d + 1) 108 45 [some (.inr 0), some (.inl x1), some (.inl x2), some (.inl x3), some (.inl x4), some (.inl 0), none, none] [] Z (zri Q)
              refine z0 (op := 4) (a := 5) (b := 0) (by rfl) (by rfl) (?_ : TZ (d + 1) 108 47 [some (.inr 0), some (.inl x1), some (.inl x2), some (.inl x3), some (.inl x4), some (.inl 0), none, none] [.inl 0] Z (zri Q))
              refine z0 (op := 4) (a := 4) (b := 0) (by rfl) (by rfl) (?_ : TZ (d + 1) 108 49 [some (.inr 0), some (.inl x1), some (.inl x2), some (.inl x3), some (.inl x4), some (.inl 0), none, none] [.inl x4, .inl 0] Z (zri Q))
              refine z0 (op := 0) (a := 0) (b := 1) (by rfl) (by rfl) (?_ : TZ (d + 1) 108 50 [some (.inr 0), some (.inl x1), some (.inl x2), some (.inl x3), some (.inl x4), some (.inl 0), none, none] [.inl 1, .inl x4, .inl 0] Z (zri Q))
              refine z_si (by rfl) (by rfl) (TI.mono v fun r46 Z45 v => ?_)
              show TZ (d + 1) 108 53 [some (.inr 0), some (.inl x1), some (.inl x2), some (.inl x3), some (.inl x4), some (.inl 0), none, none] [.inl r46, .inl 0] Z45 (zri Q)
              refine z_si (by rfl) (by rfl) (TI.mono v fun r48 Z47 v => ?_)
              show TZ (d + 1) 108 56 [some (.inr 0), some (.inl x1), some (.inl x2), some (.inl x3), some (.inl x4), some (.inl 0), none, none] [.inl r48] Z47 (zri Q)
              refine z0 (op := 8) (a := 5) (b := 0) (by rfl) (by rfl) (?_ : TZ (d + 1) 108 58 [some (.inr 0), some (.inl x1), some (.inl x2), some (.inl x3), some (.inl x4), some (.inl r48), none, none] [] Z47 (zri Q))
              refine z0 (op := 4) (a := 5) (b := 0) (by rfl) (by rfl) (?_ : TZ (d + 1) 108 60 [some (.inr 0), some (.inl x1), some (.inl x2), some (.inl x3), some (.inl x4), some (.inl r48), none, none] [.inl r48] Z47 (zri Q))
              obtain ⟨c49, v1, v2⟩ := v
              refine z_if0 (a := 0) (t := 70) (by rfl) (by rfl) c49 (fun h50 => ?_) (fun h50 => ?_)
              · have v := v1 h50; clear v1 v2
                show TZ (d + 1) 108 70 [some (.inr 0), some (.inl x1), some (.inl x2), some (.inl x3), some (.inl x4), some (.inl r48), none, none] [] Z47 (zri Q)
                refine z0 (op := 0) (a := 0) (b := 0) (by rfl) (by rfl) (?_ : TZ (d + 1) 108 71 [some (.inr 0), some (.inl x1), some (.inl x2), some (.inl x3), some (.inl x4), some (.inl r48), none, none] [.inl 0] Z47 (zri Q))
                refine z0 (op := 8) (a := 6) (b := 0) (by rfl) (by rfl) (?_ : TZ (d + 1) 108 73 [some (.inr 0), some (.inl x1), some (.inl x2), some (.inl x3), some (.inl x4), some (.inl r48), some (.inl 0), none] [] Z47 (zri Q))
                refine z0 (op := 3) (a := 1) (b := 0) (by rfl) (by rfl) (?_ : TZ (d + 1) 108 74 [some (.inr 0), some (.inl x1), some (.inl x2), some (.inl x3), some (.inl x4), some (.inl r48), some (.inl 0), none] [.inl x1] Z47 (zri Q))
                refine z0 (op := 8) (a := 7) (b := 0) (by rfl) (by rfl) (?_ : TZ (d + 1) 108 76 [some (.inr 0), some (.inl x1), some (.inl x2), some (.inl x3), some (.inl x4), some (.inl r48), some (.inl 0), some (.inl x1)] [] Z47 (zri Q))
                exact v
              · have v := v2 h50; clear v1 v2
                show TZ (d + 1) 108 63 [some (.inr 0), some (.inl x1), some (.inl x2), some (.inl x3), some (.inl x4), some (.inl r48), none, none] [] Z47 (zri Q)
                refine z0 (op := 5) (a := 0) (b := 0) (by rfl) (by rfl) (?_ : TZ (d + 1) 108 64 [some (.inr 0), some (.inl x1), some (.inl x2), some (.inl x3), some (.inl x4), some (.inl r48), none, none] [.inr 0] Z47 (zri Q))
                refine z0 (op := 4) (a := 5) (b := 0) (by rfl) (by rfl) (?_ : TZ (d + 1) 108 66 [some (.inr 0), some (.inl x1), some (.inl x2), some (.inl x3), some (.inl x4), some (.inl r48), none, none] [.inl r48, .inr 0] Z47 (zri Q))
                refine z_vi (by rfl) (by rfl) cl_0 (TI.mono v fun r52 Z51 v => ?_)
                show TZ (d + 1) 108 69 [some (.inr 0), some (.inl x1), some (.inl x2), some (.inl x3), some (.inl x4), some (.inl r48), none, none] [.inl r52] Z51 (zri Q)
                exact z_reti (by rfl) (by rfl) v
            · have v := v2 h44; clear v1 v2
              show TZ (d + 1) 108 41 [some (.inr 0), some (.inl x1), some (.inl x2), some (.inl x3), some (.inl x4), some (.inl 0), none, none] [] Z (zri Q)
              refine z0 (op := 1) (a := 0) (b := (-6)) (by rfl) (by rfl) (?_ : TZ (d + 1) 108 43 [some (.inr 0), some (.inl x1), some (.inl x2), some (.inl x3), some (.inl x4), some (.inl 0), none, none] [.inl (-6)] Z (zri Q))
              refine z0 (op := 8) (a := 5) (b := 0) (by rfl) (by rfl) (?_ : TZ (d + 1) 108 45 [some (.inr 0), some (.inl x1), some (.inl x2), some (.inl x3), some (.inl x4), some (.inl (-6)), none, none] [] Z (zri Q))
              refine z0 (op := 4) (a := 5) (b := 0) (by rfl) (by rfl) (?_ : TZ (d + 1) 108 47 [some (.inr 0), some (.inl x1), some (.inl x2), some (.inl x3), some (.inl x4), some (.inl (-6)), none, none] [.inl (-6)] Z (zri Q))
              refine z0 (op := 4) (a := 4) (b := 0) (by rfl) (by rfl) (?_ : TZ (d + 1) 108 49 [some (.inr 0), some (.inl x1), some (.inl x2), some (.inl x3), some (.inl x4), some (.inl (-6)), none, none] [.inl x4, .inl (-6)] Z (zri Q))
              refine z0 (op := 0) (a := 0) (b := 1) (by rfl) (by rfl) (?_ : TZ (d + 1) 108 50 [some (.inr 0), some (.inl x1), some (.inl x2), some (.inl x3), some (.inl x4), some (.inl (-6)), none, none] [.inl 1, .inl x4, .inl (-6)] Z (zri Q))
              refine z_si (by rfl) (by rfl) (TI.mono v fun r54 Z53 v => ?_)
              show TZ (d + 1) 108 53 [some (.inr 0), some (.inl x1), some (.inl x2), some (.inl x3), some (.inl x4), some (.inl (-6)), none, none] [.inl r54, .inl (-6)] Z53 (zri Q)
              refine z_si (by rfl) (by rfl) (TI.mono v fun r56 Z55 v => ?_)
              show TZ (d + 1) 108 56 [some (.inr 0), some (.inl x1), some (.inl x2), some (.inl x3), some (.inl x4), some (.inl (-6)), none, none] [.inl r56] Z55 (zri Q)
              refine z0 (op := 8) (a := 5) (b := 0) (by rfl) (by rfl) (?_ : TZ (d + 1) 108 58 [some (.inr 0), some (.inl x1), some (.inl x2), some (.inl x3), some (.inl x4), some (.inl r56), none, none] [] Z55 (zri Q))
              refine z0 (op := 4) (a := 5) (b := 0) (by rfl) (by rfl) (?_ : TZ (d + 1) 108 60 [some (.inr 0), some (.inl x1), some (.inl x2), some (.inl x3), some (.inl x4), some (.inl r56), none, none] [.inl r56] Z55 (zri Q))
              obtain ⟨c57, v1, v2⟩ := v
              refine z_if0 (a := 0) (t := 70) (by rfl) (by rfl) c57 (fun h58 => ?_) (fun h58 => ?_)
              · have v := v1 h58; clear v1 v2
                show TZ (d + 1) 108 70 [some (.inr 0), some (.inl x1), some (.inl x2), some (.inl x3), some (.inl x4), some (.inl r56), none, none] [] Z55 (zri Q)
                refine z0 (op := 0) (a := 0) (b := 0) (by rfl) (by rfl) (?_ : TZ (d + 1) 108 71 [some (.inr 0), some (.inl x1), some (.inl x2), some (.inl x3), some (.inl x4), some (.inl r56), none, none] [.inl 0] Z55 (zri Q))
                refine z0 (op := 8) (a := 6) (b := 0) (by rfl) (by rfl) (?_ : TZ (d + 1) 108 73 [some (.inr 0), some (.inl x1), some (.inl x2), some (.inl x3), some (.inl x4), some (.inl r56), some (.inl 0), none] [] Z55 (zri Q))
                refine z0 (op := 3) (a := 1) (b := 0) (by rfl) (by rfl) (?_ : TZ (d + 1) 108 74 [some (.inr 0), some (.inl x1), some (.inl x2), some (.inl x3), some (.inl x4), some (.inl r56), some (.inl 0), none] [.inl x1] Z55 (zri Q))
                refine z0 (op := 8) (a := 7) (b := 0) (by rfl) (by rfl) (?_ : TZ (d + 1) 108 76 [some (.inr 0), some (.inl x1), some (.inl x2), some (.inl x3), some (.inl x4), some (.inl r56), some (.inl 0), some (.inl x1)] [] Z55 (zri Q))
                exact v
              · have v := v2 h58; clear v1 v2
                show TZ (d + 1) 108 63 [some (.inr 0), some (.inl x1), some (.inl x2), some (.inl x3), some (.inl x4), some (.inl r56), none, none] [] Z55 (zri Q)
                refine z0 (op := 5) (a := 0) (b := 0) (by rfl) (by rfl) (?_ : TZ (d + 1) 108 64 [some (.inr 0), some (.inl x1), some (.inl x2), some (.inl x3), some (.inl x4), some (.inl r56), none, none] [.inr 0] Z55 (zri Q))
                refine z0 (op := 4) (a := 5) (b := 0) (by rfl) (by rfl) (?_ : TZ (d + 1) 108 66 [some (.inr 0), some (.inl x1), some (.inl x2), some (.inl x3), some (.inl x4), some (.inl r56), none, none] [.inl r56, .inr 0] Z55 (zri Q))
                refine z_vi (by rfl) (by rfl) cl_0 (TI.mono v fun r60 Z59 v => ?_)
                show TZ (d + 1) 108 69 [some (.inr 0), some (.inl x1), some (.inl x2), some (.inl x3), some (.inl x4), some (.inl r56), none, none] [.inl r60] Z59 (zri Q)
                exact z_reti (by rfl) (by rfl) v
      · have v := v2 h22; clear v1 v2
        show TZ (d + 1) 108 16 [some (.inr 0), some (.inl x1), some (.inl x2), some (.inl x3), some (.inl x4), some (.inl 0), none, none] [] Z (zri Q)
        refine z0 (op := 1) (a := 0) (b := (-4)) (by rfl) (by rfl) (?_ : TZ (d + 1) 108 18 [some (.inr 0), some (.inl x1), some (.inl x2), some (.inl x3), some (.inl x4), some (.inl 0), none, none] [.inl (-4)] Z (zri Q))
        refine z0 (op := 8) (a := 5) (b := 0) (by rfl) (by rfl) (?_ : TZ (d + 1) 108 20 [some (.inr 0), some (.inl x1), some (.inl x2), some (.inl x3), some (.inl x4), some (.inl (-4)), none, none] [] Z (zri Q))
        refine z_goto (t := 45) (by rfl) (by rfl) (?_ : TZ (d + 1) 108 45 [some (.inr 0), some (.inl x1), some (.inl x2), some (.inl x3), some (.inl x4), some (.inl (-4)), none, none] [] Z (zri Q))
        refine z0 (op := 4) (a := 5) (b := 0) (by rfl) (by rfl) (?_ : TZ (d + 1) 108 47 [some (.inr 0), some (.inl x1), some (.inl x2), some (.inl x3), some (.inl x4), some (.inl (-4)), none, none] [.inl (-4)] Z (zri Q))
        refine z0 (op := 4) (a := 4) (b := 0) (by rfl) (by rfl) (?_ : TZ (d + 1) 108 49 [some (.inr 0), some (.inl x1), some (.inl x2), some (.inl x3), some (.inl x4), some (.inl (-4)), none, none] [.inl x4, .inl (-4)] Z (zri Q))
        refine z0 (op := 0) (a := 0) (b := 1) (by rfl) (by rfl) (?_ : TZ (d + 1) 108 50 [some (.inr 0), some (.inl x1), some (.inl x2), some (.inl x3), some (.inl x4), some (.inl (-4)), none, none] [.inl 1, .inl x4, .inl (-4)] Z (zri Q))
        refine z_si (by rfl) (by rfl) (TI.mono v fun r62 Z61 v => ?_)
        show TZ (d + 1) 108 53 [some (.inr 0), some (.inl x1), some (.inl x2), some (.inl x3), some (.inl x4), some (.inl (-4)), none, none] [.inl r62, .inl (-4)] Z61 (zri Q)
        refine z_si (by rfl) (by rfl) (TI.mono v fun r64 Z63 v => ?_)
        show TZ (d + 1) 108 56 [some (.inr 0), some (.inl x1), some (.inl x2), some (.inl x3), some (.inl x4), some (.inl (-4)), none, none] [.inl r64] Z63 (zri Q)
        refine z0 (op := 8) (a := 5) (b := 0) (by rfl) (by rfl) (?_ : TZ (d + 1) 108 58 [some (.inr 0), some (.inl x1), some (.inl x2), some (.inl x3), some (.inl x4), some (.inl r64), none, none] [] Z63 (zri Q))
        refine z0 (op := 4) (a := 5) (b := 0) (by rfl) (by rfl) (?_ : TZ (d + 1) 108 60 [some (.inr 0), some (.inl x1), some (.inl x2), some (.inl x3), some (.inl x4), some (.inl r64), none, none] [.inl r64] Z63 (zri Q))
        obtain ⟨c65, v1, v2⟩ := v
        refine z_if0 (a := 0) (t := 70) (by rfl) (by rfl) c65 (fun h66 => ?_) (fun h66 => ?_)
        · have v := v1 h66; clear v1 v2
          show TZ (d + 1) 108 70 [some (.inr 0), some (.inl x1), some (.inl x2), some (.inl x3), some (.inl x4), some (.inl r64), none, none] [] Z63 (zri Q)
          refine z0 (op := 0) (a := 0) (b := 0) (by rfl) (by rfl) (?_ : TZ (d + 1) 108 71 [some (.inr 0), some (.inl x1), some (.inl x2), some (.inl x3), some (.inl x4), some (.inl r64), none, none] [.inl 0] Z63 (zri Q))
          refine z0 (op := 8) (a := 6) (b := 0) (by rfl) (by rfl) (?_ : TZ (d + 1) 108 73 [some (.inr 0), some (.inl x1), some (.inl x2), some (.inl x3), some (.inl x4), some (.inl r64), some (.inl 0), none] [] Z63 (zri Q))
          refine z0 (op := 3) (a := 1) (b := 0) (by rfl) (by rfl) (?_ : TZ (d + 1) 108 74 [some (.inr 0), some (.inl x1), some (.inl x2), some (.inl x3), some (.inl x4), some (.inl r64), some (.inl 0), none] [.inl x1] Z63 (zri Q))
          refine z0 (op := 8) (a := 7) (b := 0) (by rfl) (by rfl) (?_ : TZ (d + 1) 108 76 [some (.inr 0), some (.inl x1), some (.inl x2), some (.inl x3), some (.inl x4), some (.inl r64), some (.inl 0), some (.inl x1)] [] Z63 (zri Q))
          exact v
        · have v := v2 h66; clear v1 v2
          show TZ (d + 1) 108 63 [some (.inr 0), some (.inl x1), some (.inl x2), some (.inl x3), some (.inl x4), some (.inl r64), none, none] [] Z63 (zri Q)
          refine z0 (op := 5) (a := 0) (b := 0) (by rfl) (by rfl) (?_ : TZ (d + 1) 108 64 [some (.inr 0), some (.inl x1), some (.inl x2), some (.inl x3), some (.inl x4), some (.inl r64), none, none] [.inr 0] Z63 (zri Q))
          refine z0 (op := 4) (a := 5) (b := 0) (by rfl) (by rfl) (?_ : TZ (d + 1) 108 66 [some (.inr 0), some (.inl x1), some (.inl x2), some (.inl x3), some (.inl x4), some (.inl r64), none, none] [.inl r64, .inr 0] Z63 (zri Q))
          refine z_vi (by rfl) (by rfl) cl_0 (TI.mono v fun r68 Z67 v => ?_)
          show TZ (d + 1) 108 69 [some (.inr 0), some (.inl x1), some (.inl x2), some (.inl x3), some (.inl x4), some (.inl r64), none, none] [.inl r68] Z67 (zri Q)
          exact z_reti (by rfl) (by rfl) v
theorem w108_76 {d : Nat} {x1 x2 x3 x4 x5 x6 x7 : Int} {Z : zM} {Q : Int → zM → Prop}
    (v : zR x7 ∧
      (12 ≤ x7 → (zR x4 ∧
          (x4 ≠ 0 → TI d 109 [.inr 0, .inl x6, .inl x3, .inl 0] Z (fun r6 Z5 =>
              Q r6 Z5)) ∧
          (¬ x4 ≠ 0 → TI d 109 [.inr 0, .inl x6, .inl x3, .inl 1] Z (fun r8 Z7 =>
              Q r8 Z7)))) ∧
      (¬ 12 ≤ x7 → TZ (d + 1) 108 76 [some (.inr 0), some (.inl x1), some (.inl x2), some (.inl x3), some (.inl x4), some (.inl x5), some (.inl (zbit 4 x6 (zbit 6 1 x7))), some (.inl (x7 + x2))] [] Z (zri Q))) :
    TZ (d + 1) 108 76 [some (.inr 0), some (.inl x1), some (.inl x2), some (.inl x3), some (.inl x4), some (.inl x5), some (.inl x6), some (.inl x7)] [] Z (zri Q) := by
  refine z0 (op := 4) (a := 7) (b := 0) (by rfl) (by rfl) (?_ : TZ (d + 1) 108 78 [some (.inr 0), some (.inl x1), some (.inl x2), some (.inl x3), some (.inl x4), some (.inl x5), some (.inl x6), some (.inl x7)] [.inl x7] Z (zri Q))
  refine z0 (op := 1) (a := 0) (b := 12) (by rfl) (by rfl) (?_ : TZ (d + 1) 108 80 [some (.inr 0), some (.inl x1), some (.inl x2), some (.inl x3), some (.inl x4), some (.inl x5), some (.inl x6), some (.inl x7)] [.inl 12, .inl x7] Z (zri Q))
  obtain ⟨c1, v1, v2⟩ := v
  refine z_if2 (a := 3) (t := 101) (by rfl) (by rfl) c1 (by decide) (fun h2 => ?_) (fun h2 => ?_)
  · have v := v1 h2; clear v1 v2
    show TZ (d + 1) 108 101 [some (.inr 0), some (.inl x1), some (.inl x2), some (.inl x3), some (.inl x4), some (.inl x5), some (.inl x6), some (.inl x7)] [] Z (zri Q)
    refine z0 (op := 5) (a := 0) (b := 0) (by rfl) (by rfl) (?_ : TZ (d + 1) 108 102 [some (.inr 0), some (.inl x1), some (.inl x2), some (.inl x3), some (.inl x4), some (.inl x5), some (.inl x6), some (.inl x7)] [.inr 0] Z (zri Q))
    refine z0 (op := 4) (a := 6) (b := 0) (by rfl) (by rfl) (?_ : TZ (d + 1) 108 104 [some (.inr 0), some (.inl x1), some (.inl x2), some (.inl x3), some (.inl x4), some (.inl x5), some (.inl x6), some (.inl x7)] [.inl x6, .inr 0] Z (zri Q))
    refine z0 (op := 3) (a := 3) (b := 0) (by rfl) (by rfl) (?_ : TZ (d + 1) 108 105 [some (.inr 0), some (.inl x1), some (.inl x2), some (.inl x3), some (.inl x4), some (.inl x5), some (.inl x6), some (.inl x7)] [.inl x3, .inl x6, .inr 0] Z (zri Q))
    refine z0 (op := 4) (a := 4) (b := 0) (by rfl) (by rfl) (?_ : TZ (d + 1) 108 107 [some (.inr 0), some (.inl x1), some (.inl x2), some (.inl x3), some (.inl x4), some (.inl x5), some (.inl x6), some (.inl x7)] [.inl x4, .inl x3, .inl x6, .inr 0] Z (zri Q))
    obtain ⟨c3, v1, v2⟩ := v
    refine z_if0 (a := 1) (t := 114) (by rfl) (by rfl) c3 (fun h4 => ?_) (fun h4 => ?_)
    · have v := v1 h4; clear v1 v2
      show TZ (d + 1) 108 114 [some (.inr 0), some (.inl x1), some (.inl x2), some (.inl x3), some (.inl x4), some (.inl x5), some (.inl x6), some (.inl x7)] [.inl x3, .inl x6, .inr 0] Z (zri Q)
      refine z0 (op := 0) (a := 0) (b := 0) (by rfl) (by rfl) (?_ : TZ (d + 1) 108 115 [some (.inr 0), some (.inl x1), some (.inl x2), some (.inl x3), some (.inl x4), some (.inl x5), some (.inl x6), some (.inl x7)] [.inl 0, .inl x3, .inl x6, .inr 0] Z (zri Q))
      refine z_vi (by rfl) (by rfl) cl_0 (TI.mono v fun r6 Z5 v => ?_)
      show TZ (d + 1) 108 118 [some (.inr 0), some (.inl x1), some (.inl x2), some (.inl x3), some (.inl x4), some (.inl x5), some (.inl x6), some (.inl x7)] [.inl r6] Z5 (zri Q)
      exact z_reti (by rfl) (by rfl) v
    · have v := v2 h4; clear v1 v2
      show TZ (d + 1) 108 110 [some (.inr 0), some (.inl x1), some (.inl x2), some (.inl x3), some (.inl x4), some (.inl x5), some (.inl x6), some (.inl x7)] [.inl x3, .inl x6, .inr 0] Z (zri Q)
      refine z0 (op := 0) (a := 0) (b := 1) (by rfl) (by rfl) (?_ : TZ (d + 1) 108 111 [some (.inr 0), some (.inl x1), some (.inl x2), some (.inl x3), some (.inl x4), some (.inl x5), some (.inl x6), some (.inl x7)] [.inl 1, .inl x3, .inl x6, .inr 0] Z (zri Q))
      refine z_goto (t := 115) (by rfl) (by rfl) (?_ : TZ (d + 1) 108 115 [some (.inr 0), some (.inl x1), some (.inl x2), some (.inl x3), some (.inl x4), some (.inl x5), some (.inl x6), some (.inl x7)] [.inl 1, .inl x3, .inl x6, .inr 0] Z (zri Q))
      refine z_vi (by rfl) (by rfl) cl_0 (TI.mono v fun r8 Z7 v => ?_)
      show TZ (d + 1) 108 118 [some (.inr 0), some (.inl x1), some (.inl x2), some (.inl x3), some (.inl x4), some (.inl x5), some (.inl x6), some (.inl x7)] [.inl r8] Z7 (zri Q)
      exact z_reti (by rfl) (by rfl) v
  · have v := v2 h2; clear v1 v2
    show TZ (d + 1) 108 83 [some (.inr 0), some (.inl x1), some (.inl x2), some (.inl x3), some (.inl x4), some (.inl x5), some (.inl x6), some (.inl x7)] [] Z (zri Q)
    refine z0 (op := 4) (a := 6) (b := 0) (by rfl) (by rfl) (?_ : TZ (d + 1) 108 85 [some (.inr 0), some (.inl x1), some (.inl x2), some (.inl x3), some (.inl x4), some (.inl x5), some (.inl x6), some (.inl x7)] [.inl x6] Z (zri Q))
    refine z0 (op := 0) (a := 0) (b := 1) (by rfl) (by rfl) (?_ : TZ (d + 1) 108 86 [some (.inr 0), some (.inl x1), some (.inl x2), some (.inl x3), some (.inl x4), some (.inl x5), some (.inl x6), some (.inl x7)] [.inl 1, .inl x6] Z (zri Q))
    refine z0 (op := 4) (a := 7) (b := 0) (by rfl) (by rfl) (?_ : TZ (d + 1) 108 88 [some (.inr 0), some (.inl x1), some (.inl x2), some (.inl x3), some (.inl x4), some (.inl x5), some (.inl x6), some (.inl x7)] [.inl x7, .inl 1, .inl x6] Z (zri Q))
    refine z0 (op := 12) (a := 6) (b := 0) (by rfl) (by rfl) (?_ : TZ (d + 1) 108 89 [some (.inr 0), some (.inl x1), some (.inl x2), some (.inl x3), some (.inl x4), some (.inl x5), some (.inl x6), some (.inl x7)] [.inl (zbit 6 1 x7), .inl x6] Z (zri Q))
    refine z0 (op := 12) (a := 4) (b := 0) (by rfl) (by rfl) (?_ : TZ (d + 1) 108 90 [some (.inr 0), some (.inl x1), some (.inl x2), some (.inl x3), some (.inl x4), some (.inl x5), some (.inl x6), some (.inl x7)] [.inl (zbit 4 x6 (zbit 6 1 x7))] Z (zri Q))
    refine z0 (op := 8) (a := 6) (b := 0) (by rfl) (by rfl) (?_ : TZ (d + 1) 108 92 [some (.inr 0), some (.inl x1), some (.inl x2), some (.inl x3), some (.inl x4), some (.inl x5), some (.inl (zbit 4 x6 (zbit 6 1 x7))), some (.inl x7)] [] Z (zri Q))
    refine z0 (op := 4) (a := 7) (b := 0) (by rfl) (by rfl) (?_ : TZ (d + 1) 108 94 [some (.inr 0), some (.inl x1), some (.inl x2), some (.inl x3), some (.inl x4), some (.inl x5), some (.inl (zbit 4 x6 (zbit 6 1 x7))), some (.inl x7)] [.inl x7] Z (zri Q))
    refine z0 (op := 3) (a := 2) (b := 0) (by rfl) (by rfl) (?_ : TZ (d + 1) 108 95 [some (.inr 0), some (.inl x1), some (.inl x2), some (.inl x3), some (.inl x4), some (.inl x5), some (.inl (zbit 4 x6 (zbit 6 1 x7))), some (.inl x7)] [.inl x2, .inl x7] Z (zri Q))
    refine z0 (op := 12) (a := 0) (b := 0) (by rfl) (by rfl) (?_ : TZ (d + 1) 108 96 [some (.inr 0), some (.inl x1), some (.inl x2), some (.inl x3), some (.inl x4), some (.inl x5), some (.inl (zbit 4 x6 (zbit 6 1 x7))), some (.inl x7)] [.inl (x7 + x2)] Z (zri Q))
    refine z0 (op := 8) (a := 7) (b := 0) (by rfl) (by rfl) (?_ : TZ (d + 1) 108 98 [some (.inr 0), some (.inl x1), some (.inl x2), some (.inl x3), some (.inl x4), some (.inl x5), some (.inl (zbit 4 x6 (zbit 6 1 x7))), some (.inl (x7 + x2))] [] Z (zri Q))
    refine z_goto (t := 76) (by rfl) (by rfl) (?_ : TZ (d + 1) 108 76 [some (.inr 0), some (.inl x1), some (.inl x2), some (.inl x3), some (.inl x4), some (.inl x5), some (.inl (zbit 4 x6 (zbit 6 1 x7))), some (.inl (x7 + x2))] [] Z (zri Q))
    exact v
theorem w109_0 {d : Nat} {x1 x2 x3 : Int} {Z : zM} {Q : Int → zM → Prop}
    (v : TR d 97 [.inr 0] Z (fun r2 Z1 =>
      r2 = 19 ∧ TZ (d + 1) 109 12 [some (.inr 0), some (.inl x1), some (.inl x2), some (.inl x3), some (.inr 19), some (.inl 0), some (.inl 0), none, none] [] Z1 (zri Q))) :
    TZ (d + 1) 109 0 [some (.inr 0), some (.inl x1), some (.inl x2), some (.inl x3), none, none, none, none, none] [] Z (zri Q) := by
  refine z0 (op := 5) (a := 0) (b := 0) (by rfl) (by rfl) (?_ : TZ (d + 1) 109 1 [some (.inr 0), some (.inl x1), some (.inl x2), some (.inl x3), none, none, none, none, none] [.inr 0] Z (zri Q))
  refine z_vr (by rfl) (by rfl) cl_0 (TR.mono v fun r2 Z1 v => ?_)
  obtain ⟨er2, v⟩ := v
  subst er2
  show TZ (d + 1) 109 4 [some (.inr 0), some (.inl x1), some (.inl x2), some (.inl x3), none, none, none, none, none] [.inr 19] Z1 (zri Q)
  refine z0 (op := 10) (a := 4) (b := 0) (by rfl) (by rfl) (?_ : TZ (d + 1) 109 6 [some (.inr 0), some (.inl x1), some (.inl x2), some (.inl x3), some (.inr 19), none, none, none, none] [] Z1 (zri Q))
  refine z0 (op := 0) (a := 0) (b := 0) (by rfl) (by rfl) (?_ : TZ (d + 1) 109 7 [some (.inr 0), some (.inl x1), some (.inl x2), some (.inl x3), some (.inr 19), none, none, none, none] [.inl 0] Z1 (zri Q))
  refine z0 (op := 8) (a := 5) (b := 0) (by rfl) (by rfl) (?_ : TZ (d + 1) 109 9 [some (.inr 0), some (.inl x1), some (.inl x2), some (.inl x3), some (.inr 19), some (.inl 0), none, none, none] [] Z1 (zri Q))
  refine z0 (op := 0) (a := 0) (b := 0) (by rfl) (by rfl) (?_ : TZ (d + 1) 109 10 [some (.inr 0), some (.inl x1), some (.inl x2), some (.inl x3), some (.inr 19), some (.inl 0), none, none, none] [.inl 0] Z1 (zri Q))
  refine z0 (op := 8) (a := 6) (b := 0) (by rfl) (by rfl) (?_ : TZ (d + 1) 109 12 [some (.inr 0), some (.inl x1), some (.inl x2), some (.inl x3), some (.inr 19), some (.inl 0), some (.inl 0), none, none] [] Z1 (zri Q))
  exact v
theorem w109_12 {d : Nat} {x1 x2 x3 x5 x6 : Int} {o7 o8 : Option zV} {Z : zM} {Q : Int → zM → Prop}
    (v : zR x6 ∧
      zR x2 ∧
      (x2 < x6 → Q x5 Z) ∧
      (¬ x2 < x6 → (zR (Z 19 7) ∧
          zR (zbit 3 (zbit 7 x1 (Int.tmod (Z 19 7) 12)) 1) ∧
          ((zbit 3 (zbit 7 x1 (Int.tmod (Z 19 7) 12)) 1) ≠ 1 → TI d 22 [.inr 19] Z (fun r8 Z7 =>
              zR (zbit 3 (zbit 7 x1 r8) 1) ∧
                ((zbit 3 (zbit 7 x1 r8) 1) ≠ 1 → TI d 25 [.inr 19, .inl (-1)] Z7 (fun r12 Z11 =>
                    TZ (d + 1) 109 12 [some (.inr 0), some (.inl x1), some (.inl x2), some (.inl x3), some (.inr 19), some (.inl x5), some (.inl (x6 + 1)), some (.inl 0), some (.inl 0)] [] Z11 (zri Q))) ∧
                (¬ (zbit 3 (zbit 7 x1 r8) 1) ≠ 1 → (zR x3 ∧
                    (0 ≠ x3 → TI d 25 [.inr 19, .inl (-1)] Z7 (fun r16 Z15 =>
                        TZ (d + 1) 109 12 [some (.inr 0), some (.inl x1), some (.inl x2), some (.inl x3), some (.inr 19), some (.inl x5), some (.inl (x6 + 1)), some (.inl 0), some (.inl 1)] [] Z15 (zri Q))) ∧
                    (¬ 0 ≠ x3 → TI d 25 [.inr 19, .inl (-1)] Z7 (fun r18 Z17 =>
                        TZ (d + 1) 109 12 [some (.inr 0), some (.inl x1), some (.inl x2), some (.inl x3), some (.inr 19), some (.inl (x5 + 1)), some (.inl (x6 + 1)), some (.inl 0), some (.inl 1)] [] Z17 (zri Q))))))) ∧
          (¬ (zbit 3 (zbit 7 x1 (Int.tmod (Z 19 7) 12)) 1) ≠ 1 → TI d 22 [.inr 19] Z (fun r20 Z19 =>
              zR (zbit 3 (zbit 7 x1 r20) 1) ∧
                ((zbit 3 (zbit 7 x1 r20) 1) ≠ 1 → (zR x3 ∧
                    (1 ≠ x3 → TI d 25 [.inr 19, .inl (-1)] Z19 (fun r26 Z25 =>
                        TZ (d + 1) 109 12 [some (.inr 0), some (.inl x1), some (.inl x2), some (.inl x3), some (.inr 19), some (.inl x5), some (.inl (x6 + 1)), some (.inl 1), some (.inl 0)] [] Z25 (zri Q))) ∧
                    (¬ 1 ≠ x3 → TI d 25 [.inr 19, .inl (-1)] Z19 (fun r28 Z27 =>
                        TZ (d + 1) 109 12 [some (.inr 0), some (.inl x1), some (.inl x2), some (.inl x3), some (.inr 19), some (.inl (x5 + 1)), some (.inl (x6 + 1)), some (.inl 1), some (.inl 0)] [] Z27 (zri Q))))) ∧
                (¬ (zbit 3 (zbit 7 x1 r20) 1) ≠ 1 → TI d 25 [.inr 19, .inl (-1)] Z19 (fun r30 Z29 =>
                    TZ (d + 1) 109 12 [some (.inr 0), some (.inl x1), some (.inl x2), some (.inl x3), some (.inr 19), some (.inl x5), some (.inl (x6 + 1)), some (.inl 1), some (.inl 1)] [] Z29 (zri Q)))))))) :
    TZ (d + 1) 109 12 [some (.inr 0), some (.inl x1), some (.inl x2), some (.inl x3), some (.inr 19), some (.inl x5), some (.inl x6), o7, o8] [] Z (zri Q) := by
  refine z0 (op := 4) (a := 6) (b := 0) (by rfl) (by rfl) (?_ : TZ (d + 1) 109 14 [some (.inr 0), some (.inl x1), some (.inl x2), some (.inl x3), some (.inr 19), some (.inl x5), some (.inl x6), o7, o8] [.inl x6] Z (zri Q))
  refine z0 (op := 3) (a := 2) (b := 0) (by rfl) (by rfl) (?_ : TZ (d + 1) 109 15 [some (.inr 0), some (.inl x1), some (.inl x2), some (.inl x3), some (.inr 19), some (.inl x5), some (.inl x6), o7, o8] [.inl x2, .inl x6] Z (zri Q))
  obtain ⟨c1, c2, v1, v2⟩ := v
  refine z_if2 (a := 4) (t := 90) (by rfl) (by rfl) c1 c2 (fun h3 => ?_) (fun h3 => ?_)
  · have v := v1 h3; clear v1 v2
    show TZ (d + 1) 109 90 [some (.inr 0), some (.inl x1), some (.inl x2), some (.inl x3), some (.inr 19), some (.inl x5), some (.inl x6), o7, o8] [] Z (zri Q)
    refine z0 (op := 4) (a := 5) (b := 0) (by rfl) (by rfl) (?_ : TZ (d + 1) 109 92 [some (.inr 0), some (.inl x1), some (.inl x2), some (.inl x3), some (.inr 19), some (.inl x5), some (.inl x6), o7, o8] [.inl x5] Z (zri Q))
    exact z_reti (by rfl) (by rfl) v
  · have v := v2 h3; clear v1 v2
    show TZ (d + 1) 109 18 [some (.inr 0), some (.inl x1), some (.inl x2), some (.inl x3), some (.inr 19), some (.inl x5), some (.inl x6), o7, o8] [] Z (zri Q)
    refine z0 (op := 3) (a := 1) (b := 0) (by rfl) (by rfl) (?_ : TZ (d + 1) 109 19 [some (.inr 0), some (.inl x1), some (.inl x2), some (.inl x3), some (.inr 19), some (.inl x5), some (.inl x6), o7, o8] [.inl x1] Z (zri Q))
    refine z0 (op := 6) (a := 4) (b := 0) (by rfl) (by rfl) (?_ : TZ (d + 1) 109 21 [some (.inr 0), some (.inl x1), some (.inl x2), some (.inl x3), some (.inr 19), some (.inl x5), some (.inl x6), o7, o8] [.inr 19, .inl x1] Z (zri Q))
    refine z_fi (by rfl) fi72_19 (?_ : TZ (d + 1) 109 24 [some (.inr 0), some (.inl x1), some (.inl x2), some (.inl x3), some (.inr 19), some (.inl x5), some (.inl x6), o7, o8] [.inl (Z 19 7), .inl x1] Z (zri Q))
    refine z0 (op := 1) (a := 0) (b := 12) (by rfl) (by rfl) (?_ : TZ (d + 1) 109 26 [some (.inr 0), some (.inl x1), some (.inl x2), some (.inl x3), some (.inr 19), some (.inl x5), some (.inl x6), o7, o8] [.inl 12, .inl (Z 19 7), .inl x1] Z (zri Q))
    obtain ⟨c4, v⟩ := v
    refine z_rem (by rfl) c4 (by decide) (?_ : TZ (d + 1) 109 27 [some (.inr 0), some (.inl x1), some (.inl x2), some (.inl x3), some (.inr 19), some (.inl x5), some (.inl x6), o7, o8] [.inl (Int.tmod (Z 19 7) 12), .inl x1] Z (zri Q))
    refine z0 (op := 12) (a := 7) (b := 0) (by rfl) (by rfl) (?_ : TZ (d + 1) 109 28 [some (.inr 0), some (.inl x1), some (.inl x2), some (.inl x3), some (.inr 19), some (.inl x5), some (.inl x6), o7, o8] [.inl (zbit 7 x1 (Int.tmod (Z 19 7) 12))] Z (zri Q))
    refine z0 (op := 0) (a := 0) (b := 1) (by rfl) (by rfl) (?_ : TZ (d + 1) 109 29 [some (.inr 0), some (.inl x1), some (.inl x2), some (.inl x3), some (.inr 19), some (.inl x5), some (.inl x6), o7, o8] [.inl 1, .inl (zbit 7 x1 (Int.tmod (Z 19 7) 12))] Z (zri Q))
    refine z0 (op := 12) (a := 3) (b := 0) (by rfl) (by rfl) (?_ : TZ (d + 1) 109 30 [some (.inr 0), some (.inl x1), some (.inl x2), some (.inl x3), some (.inr 19), some (.inl x5), some (.inl x6), o7, o8] [.inl (zbit 3 (zbit 7 x1 (Int.tmod (Z 19 7) 12)) 1)] Z (zri Q))
    refine z0 (op := 0) (a := 0) (b := 1) (by rfl) (by rfl) (?_ : TZ (d + 1) 109 31 [some (.inr 0), some (.inl x1), some (.inl x2), some (.inl x3), some (.inr 19), some (.inl x5), some (.inl x6), o7, o8] [.inl 1, .inl (zbit 3 (zbit 7 x1 (Int.tmod (Z 19 7) 12)) 1)] Z (zri Q))
    obtain ⟨c5, v1, v2⟩ := v
    refine z_if2 (a := 1) (t := 38) (by rfl) (by rfl) c5 (by decide) (fun h6 => ?_) (fun h6 => ?_)
    · have v := v1 h6; clear v1 v2
      show TZ (d + 1) 109 38 [some (.inr 0), some (.inl x1), some (.inl x2), some (.inl x3), some (.inr 19), some (.inl x5), some (.inl x6), o7, o8] [] Z (zri Q)
      refine z0 (op := 0) (a := 0) (b := 0) (by rfl) (by rfl) (?_ : TZ (d + 1) 109 39 [some (.inr 0), some (.inl x1), some (.inl x2), some (.inl x3), some (.inr 19), some (.inl x5), some (.inl x6), o7, o8] [.inl 0] Z (zri Q))
      refine z0 (op := 8) (a := 7) (b := 0) (by rfl) (by rfl) (?_ : TZ (d + 1) 109 41 [some (.inr 0), some (.inl x1), some (.inl x2), some (.inl x3), some (.inr 19), some (.inl x5), some (.inl x6), some (.inl 0), o8] [] Z (zri Q))
      refine z0 (op := 3) (a := 1) (b := 0) (by rfl) (by rfl) (?_ : TZ (d + 1) 109 42 [some (.inr 0), some (.inl x1), some (.inl x2), some (.inl x3), some (.inr 19), some (.inl x5), some (.inl x6), some (.inl 0), o8] [.inl x1] Z (zri Q))
      refine z0 (op := 6) (a := 4) (b := 0) (by rfl) (by rfl) (?_ : TZ (d + 1) 109 44 [some (.inr 0), some (.inl x1), some (.inl x2), some (.inl x3), some (.inr 19), some (.inl x5), some (.inl x6), some (.inl 0), o8] [.inr 19, .inl x1] Z (zri Q))
      refine z_vi (by rfl) (by rfl) cl_19 (TI.mono v fun r8 Z7 v => ?_)
      show TZ (d + 1) 109 47 [some (.inr 0), some (.inl x1), some (.inl x2), some (.inl x3), some (.inr 19), some (.inl x5), some (.inl x6), some (.inl 0), o8] [.inl r8, .inl x1] Z7 (zri Q)
      refine z0 (op := 12) (a := 7) (b := 0) (by rfl) (by rfl) (?_ : TZ (d + 1) 109 48 [some (.inr 0), some (.inl x1), some (.inl x2), some (.inl x3), some (.inr 19), some (.inl x5), some (.inl x6), some (.inl 0), o8] [.inl (zbit 7 x1 r8)] Z7 (zri Q))
      refine z0 (op := 0) (a := 0) (b := 1) (by rfl) (by rfl) (?_ : TZ (d + 1) 109 49 [some (.inr 0), some (.inl x1), some (.inl x2), some (.inl x3), some (.inr 19), some (.inl x5), some (.inl x6), some (.inl 0), o8] [.inl 1, .inl (zbit 7 x1 r8)] Z7 (zri Q))
      refine z0 (op := 12) (a := 3) (b := 0) (by rfl) (by rfl) (?_ : TZ (d + 1) 109 50 [some (.inr 0), some (.inl x1), some (.inl x2), some (.inl x3), some (.inr 19), some (.inl x5), some (.inl x6), some (.inl 0), o8] [.inl (zbit 3 (zbit 7 x1 r8) 1)] Z7 (zri Q))
      refine z0 (op := 0) (a := 0) (b := 1) (by rfl) (by rfl) (?_ : TZ (d + 1) 109 51 [some (.inr 0), some (.inl x1), some (.inl x2), some (.inl x3), some (.inr 19), some (.inl x5), some (.inl x6), some (.inl 0), o8] [.inl 1, .inl (zbit 3 (zbit 7 x1 r8) 1)] Z7 (zri Q))
      obtain ⟨c9, v1, v2⟩ := v
      refine z_if2 (a := 1) (t := 58) (by rfl) (by rfl) c9 (by decide) (fun h10 => ?_) (fun h10 => ?_)
      · have v := v1 h10; clear v1 v2
        show TZ (d + 1) 109 58 [some (.inr 0), some (.inl x1), some (.inl x2), some (.inl x3), some (.inr 19), some (.inl x5), some (.inl x6), some (.inl 0), o8] [] Z7 (zri Q)
        refine z0 (op := 0) (a := 0) (b := 0) (by rfl) (by rfl) (?_ : TZ (d + 1) 109 59 [some (.inr 0), some (.inl x1), some (.inl x2), some (.inl x3), some (.inr 19), some (.inl x5), some (.inl x6), some (.inl 0), o8] [.inl 0] Z7 (zri Q))
        refine z0 (op := 8) (a := 8) (b := 0) (by rfl) (by rfl) (?_ : TZ (d + 1) 109 61 [some (.inr 0), some (.inl x1), some (.inl x2), some (.inl x3), some (.inr 19), some (.inl x5), some (.inl x6), some (.inl 0), some (.inl 0)] [] Z7 (zri Q))
        refine z0 (op := 4) (a := 7) (b := 0) (by rfl) (by rfl) (?_ : TZ (d + 1) 109 63 [some (.inr 0), some (.inl x1), some (.inl x2), some (.inl x3), some (.inr 19), some (.inl x5), some (.inl x6), some (.inl 0), some (.inl 0)] [.inl 0] Z7 (zri Q))
        refine z0 (op := 4) (a := 8) (b := 0) (by rfl) (by rfl) (?_ : TZ (d + 1) 109 65 [some (.inr 0), some (.inl x1), some (.inl x2), some (.inl x3), some (.inr 19), some (.inl x5), some (.inl x6), some (.inl 0), some (.inl 0)] [.inl 0, .inl 0] Z7 (zri Q))
        refine z_if2 (a := 0) (t := 77) (by rfl) (by rfl) (by decide) (by decide) (fun _ => ?_) (fun h => absurd (show (0 : Int) = (0 : Int) by decide) h)
        show TZ (d + 1) 109 77 [some (.inr 0), some (.inl x1), some (.inl x2), some (.inl x3), some (.inr 19), some (.inl x5), some (.inl x6), some (.inl 0), some (.inl 0)] [] Z7 (zri Q)
        refine z0 (op := 6) (a := 4) (b := 0) (by rfl) (by rfl) (?_ : TZ (d + 1) 109 79 [some (.inr 0), some (.inl x1), some (.inl x2), some (.inl x3), some (.inr 19), some (.inl x5), some (.inl x6), some (.inl 0), some (.inl 0)] [.inr 19] Z7 (zri Q))
        refine z0 (op := 0) (a := 0) (b := (-1)) (by rfl) (by rfl) (?_ : TZ (d + 1) 109 80 [some (.inr 0), some (.inl x1), some (.inl x2), some (.inl x3), some (.inr 19), some (.inl x5), some (.inl x6), some (.inl 0), some (.inl 0)] [.inl (-1), .inr 19] Z7 (zri Q))
        refine z_vi (by rfl) (by rfl) cl_19 (TI.mono v fun r12 Z11 v => ?_)
        show TZ (d + 1) 109 83 [some (.inr 0), some (.inl x1), some (.inl x2), some (.inl x3), some (.inr 19), some (.inl x5), some (.inl x6), some (.inl 0), some (.inl 0)] [.inl r12] Z11 (zri Q)
        refine z0 (op := 14) (a := 0) (b := 0) (by rfl) (by rfl) (?_ : TZ (d + 1) 109 84 [some (.inr 0), some (.inl x1), some (.inl x2), some (.inl x3), some (.inr 19), some (.inl x5), some (.inl x6), some (.inl 0), some (.inl 0)] [] Z11 (zri Q))
        refine z0 (op := 11) (a := 6) (b := 1) (by rfl) (by rfl) (?_ : TZ (d + 1) 109 87 [some (.inr 0), some (.inl x1), some (.inl x2), some (.inl x3), some (.inr 19), some (.inl x5), some (.inl (x6 + 1)), some (.inl 0), some (.inl 0)] [] Z11 (zri Q))
        refine z_goto (t := 12) (by rfl) (by rfl) (?_ : TZ (d + 1) 109 12 [some (.inr 0), some (.inl x1), some (.inl x2), some (.inl x3), some (.inr 19), some (.inl x5), some (.inl (x6 + 1)), some (.inl 0), some (.inl 0)] [] Z11 (zri Q))
        exact v
      · have v := v2 h10; clear v1 v2
        show TZ (d + 1) 109 54 [some (.inr 0), some (.inl x1), some (.inl x2), some (.inl x3), some (.inr 19), some (.inl x5), some (.inl x6), some (.inl 0), o8] [] Z7 (zri Q)
        refine z0 (op := 0) (a := 0) (b := 1) (by rfl) (by rfl) (?_ : TZ (d + 1) 109 55 [some (.inr 0), some (.inl x1), some (.inl x2), some (.inl x3), some (.inr 19), some (.inl x5), some (.inl x6), some (.inl 0), o8] [.inl 1] Z7 (zri Q))
        refine z_goto (t := 59) (by rfl) (by rfl) (?_ : TZ (d + 1) 109 59 [some (.inr 0), some (.inl x1), some (.inl x2), some (.inl x3), some (.inr 19), some (.inl x5), some (.inl x6), some (.inl 0), o8] [.inl 1] Z7 (zri Q))
        refine z0 (op := 8) (a := 8) (b := 0) (by rfl) (by rfl) (?_ : TZ (d + 1) 109 61 [some (.inr 0), some (.inl x1), some (.inl x2), some (.inl x3), some (.inr 19), some (.inl x5), some (.inl x6), some (.inl 0), some (.inl 1)] [] Z7 (zri Q))
        refine z0 (op := 4) (a := 7) (b := 0) (by rfl) (by rfl) (?_ : TZ (d + 1) 109 63 [some (.inr 0), some (.inl x1), some (.inl x2), some (.inl x3), some (.inr 19), some (.inl x5), some (.inl x6), some (.inl 0), some (.inl 1)] [.inl 0] Z7 (zri Q))
        refine z0 (op := 4) (a := 8) (b := 0) (by rfl) (by rfl) (?_ : TZ (d + 1) 109 65 [some (.inr 0), some (.inl x1), some (.inl x2), some (.inl x3), some (.inr 19), some (.inl x5), some (.inl x6), some (.inl 0), some (.inl 1)] [.inl 1, .inl 0] Z7 (zri Q))
        refine z_if2 (a := 0) (t := 77) (by rfl) (by rfl) (by decide) (by decide) (fun h => absurd (show (0 : Int) = (1 : Int) from h) (by decide)) (fun _ => ?_)
        show TZ (d + 1) 109 68 [some (.inr 0), some (.inl x1), some (.inl x2), some (.inl x3), some (.inr 19), some (.inl x5), some (.inl x6), some (.inl 0), some (.inl 1)] [] Z7 (zri Q)
        refine z0 (op := 4) (a := 7) (b := 0) (by rfl) (by rfl) (?_ : TZ (d + 1) 109 70 [some (.inr 0), some (.inl x1), some (.inl x2), some (.inl x3), some (.inr 19), some (.inl x5), some (.inl x6), some (.inl 0), some (.inl 1)] [.inl 0] Z7 (zri Q))
        refine z0 (op := 3) (a := 3) (b := 0) (by rfl) (by rfl) (?_ : TZ (d + 1) 109 71 [some (.inr 0), some (.inl x1), some (.inl x2), some (.inl x3), some (.inr 19), some (.inl x5), some (.inl x6), some (.inl 0), some (.inl 1)] [.inl x3, .inl 0] Z7 (zri Q))
        obtain ⟨c13, v1, v2⟩ := v
        refine z_if2 (a := 1) (t := 77) (by rfl) (by rfl) (by decide) c13 (fun h14 => ?_) (fun h14 => ?_)
        · have v := v1 h14; clear v1 v2
          show TZ (d + 1) 109 77 [some (.inr 0), some (.inl x1), some (.inl x2), some (.inl x3), some (.inr 19), some (.inl x5), some (.inl x6), some (.inl 0), some (.inl 1)] [] Z7 (zri Q)
          refine z0 (op := 6) (a := 4) (b := 0) (by rfl) (by rfl) (?_ : TZ (d + 1) 109 79 [some (.inr 0), some (.inl x1), some (.inl x2), some (.inl x3), some (.inr 19), some (.inl x5), some (.inl x6), some (.inl 0), some (.inl 1)] [.inr 19] Z7 (zri Q))
          refine z0 (op := 0) (a := 0) (b := (-1)) (by rfl) (by rfl) (?_ : TZ (d + 1) 109 80 [some (.inr 0), some (.inl x1), some (.inl x2), some (.inl x3), some (.inr 19), some (.inl x5), some (.inl x6), some (.inl 0), some (.inl 1)] [.inl (-1), .inr 19] Z7 (zri Q))
          refine z_vi (by rfl) (by rfl) cl_19 (TI.mono v fun r16 Z15 v => ?_)
          show TZ (d + 1) 109 83 [some (.inr 0), some (.inl x1), some (.inl x2), some (.inl x3), some (.inr 19), some (.inl x5), some (.inl x6), some (.inl 0), some (.inl 1)] [.inl r16] Z15 (zri Q)
          refine z0 (op := 14) (a := 0) (b := 0) (by rfl) (by rfl) (?_ : TZ (d + 1) 109 84 [some (.inr 0), some (.inl x1), some (.inl x2), some (.inl x3), some (.inr 19), some (.inl x5), some (.inl x6), some (.inl 0), some (.inl 1)] [] Z15 (zri Q))
          refine z0 (op := 11) (a := 6) (b := 1) (by rfl) (by rfl) (?_ : TZ (d + 1) 109 87 [some (.inr 0), some (.inl x1), some (.inl x2), some (.inl x3), some (.inr 19), some (.inl x5), some (.inl (x6 + 1)), some (.inl 0), some (.inl 1)] [] Z15 (zri Q))
          refine z_goto (t := 12) (by rfl) (by rfl) (?_ : TZ (d + 1) 109 12 [some (.inr 0), some (.inl x1), some (.inl x2), some (.inl x3), some (.inr 19), some (.inl x5), some (.inl (x6 + 1)), some (.inl 0), some (.inl 1)] [] Z15 (zri Q))
          exact v
        · have v := v2 h14; clear v1 v2
          show TZ (d + 1) 109 74 [some (.inr 0), some (.inl x1), some (.inl x2), some (.inl x3), some (.inr 19), some (.inl x5), some (.inl x6), some (.inl 0), some (.inl 1)] [] Z7 (zri Q)
          refine z0 (op := 11) (a := 5) (b := 1) (by rfl) (by rfl) (?_ : TZ (d + 1) 109 77 [some (.inr 0), some (.inl x1), some (.inl x2), some (.inl x3), some (.inr 19), some (.inl (x5 + 1)), some (.inl x6), some (.inl 0), some (.inl 1)] [] Z7 (zri Q))
          refine z0 (op := 6) (a := 4) (b := 0) (by rfl) (by rfl) (?_ : TZ (d + 1) 109 79 [some (.inr 0), some (.inl x1), some (.inl x2), some (.inl x3), some (.inr 19), some (.inl (x5 + 1)), some (.inl x6), some (.inl 0), some (.inl 1)] [.inr 19] Z7 (zri Q))
          refine z0 (op := 0) (a := 0) (b := (-1)) (by rfl) (by rfl) (?_ : TZ (d + 1) 109 80 [some (.inr 0), some (.inl x1), some (.inl x2), some (.inl x3), some (.inr 19), some (.inl (x5 + 1)), some (.inl x6), some (.inl 0), some (.inl 1)] [.inl (-1), .inr 19] Z7 (zri Q))
          refine z_vi (by rfl) (by rfl) cl_19 (TI.mono v fun r18 Z17 v => ?_)
          show TZ (d + 1) 109 83 [some (.inr 0), some (.inl x1), some (.inl x2), some (.inl x3), some (.inr 19), some (.inl (x5 + 1)), some (.inl x6), some (.inl 0), some (.inl 1)] [.inl r18] Z17 (zri Q)
          refine z0 (op := 14) (a := 0) (b := 0) (by rfl) (by rfl) (?_ : TZ (d + 1) 109 84 [some (.inr 0), some (.inl x1), some (.inl x2), some (.inl x3), some (.inr 19), some (.inl (x5 + 1)), some (.inl x6), some (.inl 0), some (.inl 1)] [] Z17 (zri Q))
          refine z0 (op := 11) (a := 6) (b := 1) (by rfl) (by rfl) (?_ : TZ (d + 1) 109 87 [some (.inr 0), some (.inl x1), some (.inl x2), some (.inl x3), some (.inr 19), some (.inl (x5 + 1)), some (.inl (x6 + 1)), some (.inl 0), some (.inl 1)] [] Z17 (zri Q))
          refine z_goto (t := 12) (by rfl) (by rfl) (?_ : TZ (d + 1) 109 12 [some (.inr 0), some (.inl x1), some (.inl x2), some (.inl x3), some (.inr 19), some (.inl (x5 + 1)), some (.inl (x6 + 1)), some (.inl 0), some (.inl 1)] [] Z17 (zri Q))
          exact v
    · have v := v2 h6; clear v1 v2
      show TZ (d + 1) 109 34 [some (.inr 0), some (.inl x1), some (.inl x2), some (.inl x3), some (.inr 19), some (.inl x5), some (.inl x6), o7, o8] [] Z (zri Q)
      refine z0 (op := 0) (a := 0) (b := 1) (by rfl) (by rfl) (?_ : TZ (d + 1) 109 35 [some (.inr 0), some (.inl x1), some (.inl x2), some (.inl x3), some (.inr 19), some (.inl x5), some (.inl x6), o7, o8] [.inl 1] Z (zri Q))
      refine z_goto (t := 39) (by rfl) (by rfl) (?_ : TZ (d + 1) 109 39 [some (.inr 0), some (.inl x1), some (.inl x2), some (.inl x3), some (.inr 19), some (.inl x5), some (.inl x6), o7, o8] [.inl 1] Z (zri Q))
      refine z0 (op := 8) (a := 7) (b := 0) (by rfl) (by rfl) (?_ : TZ (d + 1) 109 41 [some (.inr 0), some (.inl x1), some (.inl x2), some (.inl x3), some (.inr 19), some (.inl x5), some (.inl x6), some (.inl 1), o8] [] Z (zri Q))
      refine z0 (op := 3) (a := 1) (b := 0) (by rfl) (by rfl) (?_ : TZ (d + 1) 109 42 [some (.inr 0), some (.inl x1), some (.inl x2), some (.inl x3), some (.inr 19), some (.inl x5), some (.inl x6), some (.inl 1), o8] [.inl x1] Z (zri Q))
      refine z0 (op := 6) (a := 4) (b := 0) (by rfl) (by rfl) (?_ : TZ (d + 1) 109 44 [some (.inr 0), some (.inl x1), some (.inl x2), some (.inl x3), some (.inr 19), some (.inl x5), some (.inl x6), some (.inl 1), o8] [.inr 19, .inl x1] Z (zri Q))
      refine z_vi (by rfl) (by rfl) cl_19 (TI.mono v fun r20 Z19 v => ?_)
      show TZ (d + 1) 109 47 [some (.inr 0), some (.inl x1), some (.inl x2), some (.inl x3), some (.inr 19), some (.inl x5), some (.inl x6), some (.inl 1), o8] [.inl r20, .inl x1] Z19 (zri Q)
      refine z0 (op := 12) (a := 7) (b := 0) (by rfl) (by rfl) (?_ : TZ (d + 1) 109 48 [some (.inr 0), some (.inl x1), some (.inl x2), some (.inl x3), some (.inr 19), some (.inl x5), some (.inl x6), some (.inl 1), o8] [.inl (zbit 7 x1 r20)] Z19 (zri Q))
      refine z0 (op := 0) (a := 0) (b := 1) (by rfl) (by rfl) (?_ : TZ (d + 1) 109 49 [some (.inr 0), some (.inl x1), some (.inl x2), some (.inl x3), some (.inr 19), some (.inl x5), some (.inl x6), some (.inl 1), o8] [.inl 1, .inl (zbit 7 x1 r20)] Z19 (zri Q))
      refine z0 (op := 12) (a := 3) (b := 0) (by rfl) (by rfl) (?_ : TZ (d + 1) 109 50 [some (.inr 0), some (.inl x1), some (.inl x2), some (.inl x3), some (.inr 19), some (.inl x5), some (.inl x6), some (.inl 1), o8] [.inl (zbit 3 (zbit 7 x1 r20) 1)] Z19 (zri Q))
      refine z0 (op := 0) (a := 0) (b := 1) (by rfl) (by rfl) (?_ : TZ (d + 1) 109 51 [some (.inr 0), some (.inl x1), some (.inl x2), some (.inl x3), some (.inr 19), some (.inl x5), some (.inl x6), some (.inl 1), o8] [.inl 1, .inl (zbit 3 (zbit 7 x1 r20) 1)] Z19 (zri Q))
      obtain ⟨c21, v1, v2⟩ := v
      refine z_if2 (a := 1) (t := 58) (by rfl) (by rfl) c21 (by decide) (fun h22 => ?_) (fun h22 => ?_)
      · have v := v1 h22; clear v1 v2
        show TZ (d + 1) 109 58 [some (.inr 0), some (.inl x1), some (.inl x2), some (.inl x3), some (.inr 19), some (.inl x5), some (.inl x6), some (.inl 1), o8] [] Z19 (zri Q)
        refine z0 (op := 0) (a := 0) (b := 0) (by rfl) (by rfl) (?_ : TZ (d + 1) 109 59 [some (.inr 0), some (.inl x1), some (.inl x2), some (.inl x3), some (.inr 19), some (.inl x5), some (.inl x6), some (.inl 1), o8] [.inl 0] Z19 (zri Q))
        refine z0 (op := 8) (a := 8) (b := 0) (by rfl) (by rfl) (?_ : TZ (d + 1) 109 61 [some (.inr 0), some (.inl x1), some (.inl x2), some (.inl x3), some (.inr 19), some (.inl x5), some (.inl x6), some (.inl 1), some (.inl 0)] [] Z19 (zri Q))
        refine z0 (op := 4) (a := 7) (b := 0) (by rfl) (by rfl) (?_ : TZ (d + 1) 109 63 [some (.inr 0), some (.inl x1), some (.inl x2), some (.inl x3), some (.inr 19), some (.inl x5), some (.inl x6), some (.inl 1), some (.inl 0)] [.inl 1] Z19 (zri Q))
        refine z0 (op := 4) (a := 8) (b := 0) (by rfl) (by rfl) (?_ : TZ (d + 1) 109 65 [some (.inr 0), some (.inl x1), some (.inl x2), some (.inl x3), some (.inr 19), some (.inl x5), some (.inl x6), some (.inl 1), some (.inl 0)] [.inl 0, .inl 1] Z19 (zri Q))
        refine z_if2 (a := 0) (t := 77) (by rfl) (by rfl) (by decide) (by decide) (fun h => absurd (show (1 : Int) = (0 : Int) from h) (by decide)) (fun _ => ?_)
        show TZ (d + 1) 109 68 [some (.inr 0), some (.inl x1), some (.inl x2), some (.inl x3), some (.inr 19), some (.inl x5), some (.inl x6), some (.inl 1), some (.inl 0)] [] Z19 (zri Q)
        refine z0 (op := 4) (a := 7) (b := 0) (by rfl) (by rfl) (?_ : TZ (d + 1) 109 70 [some (.inr 0), some (.inl x1), some (.inl x2), some (.inl x3), some (.inr 19), some (.inl x5), some (.inl x6), some (.inl 1), some (.inl 0)] [.inl 1] Z19 (zri Q))
        refine z0 (op := 3) (a := 3) (b := 0) (by rfl) (by rfl) (?_ : TZ (d + 1) 109 71 [some (.inr 0), some (.inl x1), some (.inl x2), some (.inl x3), some (.inr 19), some (.inl x5), some (.inl x6), some (.inl 1), some (.inl 0)] [.inl x3, .inl 1] Z19 (zri Q))
        obtain ⟨c23, v1, v2⟩ := v
        refine z_if2 (a := 1) (t := 77) (by rfl) (by rfl) (by decide) c23 (fun h24 => ?_) (fun h24 => ?_)
        · have v := v1 h24; clear v1 v2
          show TZ (d + 1) 109 77 [some (.inr 0), some (.inl x1), some (.inl x2), some (.inl x3), some (.inr 19), some (.inl x5), some (.inl x6), some (.inl 1), some (.inl 0)] [] Z19 (zri Q)
          refine z0 (op := 6) (a := 4) (b := 0) (by rfl) (by rfl) (?_ : TZ (d + 1) 109 79 [some (.inr 0), some (.inl x1), some (.inl x2), some (.inl x3), some (.inr 19), some (.inl x5), some (.inl x6), some (.inl 1), some (.inl 0)] [.inr 19] Z19 (zri Q))
          refine z0 (op := 0) (a := 0) (b := (-1)) (by rfl) (by rfl) (?_ : TZ (d + 1) 109 80 [some (.inr 0), some (.inl x1), some (.inl x2), some (.inl x3), some (.inr 19), some (.inl x5), some (.inl x6), some (.inl 1), some (.inl 0)] [.inl (-1), .inr 19] Z19 (zri Q))
          refine z_vi (by rfl) (by rfl) cl_19 (TI.mono v fun r26 Z25 v => ?_)
          show TZ (d + 1) 109 83 [some (.inr 0), some (.inl x1), some (.inl x2), some (.inl x3), some (.inr 19), some (.inl x5), some (.inl x6), some (.inl 1), some (.inl 0)] [.inl r26] Z25 (zri Q)
          refine z0 (op := 14) (a := 0) (b := 0) (by rfl) (by rfl) (?_ : TZ (d + 1) 109 84 [some (.inr 0), some (.inl x1), some (.inl x2), some (.inl x3), some (.inr 19), some (.inl x5), some (.inl x6), some (.inl 1), some (.inl 0)] [] Z25 (zri Q))
          refine z0 (op := 11) (a := 6) (b := 1) (by rfl) (by rfl) (?_ : TZ (d + 1) 109 87 [some (.inr 0), some (.inl x1), some (.inl x2), some (.inl x3), some (.inr 19), some (.inl x5), some (.inl (x6 + 1)), some (.inl 1), some (.inl 0)] [] Z25 (zri Q))
          refine z_goto (t := 12) (by rfl) (by rfl) (?_ : TZ (d + 1) 109 12 [some (.inr 0), some (.inl x1), some (.inl x2), some (.inl x3), some (.inr 19), some (.inl x5), some (.inl (x6 + 1)), some (.inl 1), some (.inl 0)] [] Z25 (zri Q))
          exact v
        · have v := v2 h24; clear v1 v2
          show TZ (d + 1) 109 74 [some (.inr 0), some (.inl x1), some (.inl x2), some (.inl x3), some (.inr 19), some (.inl x5), some (.inl x6), some (.inl 1), some (.inl 0)] [] Z19 (zri Q)
          refine z0 (op := 11) (a := 5) (b := 1) (by rfl) (by rfl) (?_ : TZ (d + 1) 109 77 [some (.inr 0), some (.inl x1), some (.inl x2), some (.inl x3), some (.inr 19), some (.inl (x5 + 1)), some (.inl x6), some (.inl 1), some (.inl 0)] [] Z19 (zri Q))
          refine z0 (op := 6) (a := 4) (b := 0) (by rfl) (by rfl) (?_ : TZ (d + 1) 109 79 [some (.inr 0), some (.inl x1), some (.inl x2), some (.inl x3), some (.inr 19), some (.inl (x5 + 1)), some (.inl x6), some (.inl 1), some (.inl 0)] [.inr 19] Z19 (zri Q))
          refine z0 (op := 0) (a := 0) (b := (-1)) (by rfl) (by rfl) (?_ : TZ (d + 1) 109 80 [some (.inr 0), some (.inl x1), some (.inl x2), some (.inl x3), some (.inr 19), some (.inl (x5 + 1)), some (.inl x6), some (.inl 1), some (.inl 0)] [.inl (-1), .inr 19] Z19 (zri Q))
          refine z_vi (by rfl) (by rfl) cl_19 (TI.mono v fun r28 Z27 v => ?_)
          show TZ (d + 1) 109 83 [some (.inr 0), some (.inl x1), some (.inl x2), some (.inl x3), some (.inr 19), some (.inl (x5 + 1)), some (.inl x6), some (.inl 1), some (.inl 0)] [.inl r28] Z27 (zri Q)
          refine z0 (op := 14) (a := 0) (b := 0) (by rfl) (by rfl) (?_ : TZ (d + 1) 109 84 [some (.inr 0), some (.inl x1), some (.inl x2), some (.inl x3), some (.inr 19), some (.inl (x5 + 1)), some (.inl x6), some (.inl 1), some (.inl 0)] [] Z27 (zri Q))
          refine z0 (op := 11) (a := 6) (b := 1) (by rfl) (by rfl) (?_ : TZ (d + 1) 109 87 [some (.inr 0), some (.inl x1), some (.inl x2), some (.inl x3), some (.inr 19), some (.inl (x5 + 1)), some (.inl (x6 + 1)), some (.inl 1), some (.inl 0)] [] Z27 (zri Q))
          refine z_goto (t := 12) (by rfl) (by rfl) (?_ : TZ (d + 1) 109 12 [some (.inr 0), some (.inl x1), some (.inl x2), some (.inl x3), some (.inr 19), some (.inl (x5 + 1)), some (.inl (x6 + 1)), some (.inl 1), some (.inl 0)] [] Z27 (zri Q))
          exact v
      · have v := v2 h22; clear v1 v2
        show TZ (d + 1) 109 54 [some (.inr 0), some (.inl x1), some (.inl x2), some (.inl x3), some (.inr 19), some (.inl x5), some (.inl x6), some (.inl 1), o8] [] Z19 (zri Q)
        refine z0 (op := 0) (a := 0) (b := 1) (by rfl) (by rfl) (?_ : TZ (d + 1) 109 55 [some (.inr 0), some (.inl x1), some (.inl x2), some (.inl x3), some (.inr 19), some (.inl x5), some (.inl x6), some (.inl 1), o8] [.inl 1] Z19 (zri Q))
        refine z_goto (t := 59) (by rfl) (by rfl) (?_ : TZ (d + 1) 109 59 [some (.inr 0), some (.inl x1), some (.inl x2), some (.inl x3), some (.inr 19), some (.inl x5), some (.inl x6), some (.inl 1), o8] [.inl 1] Z19 (zri Q))
        refine z0 (op := 8) (a := 8) (b := 0) (by rfl) (by rfl) (?_ : TZ (d + 1) 109 61 [some (.inr 0), some (.inl x1), some (.inl x2), some (.inl x3), some (.inr 19), some (.inl x5), some (.inl x6), some (.inl 1), some (.inl 1)] [] Z19 (zri Q))
        refine z0 (op := 4) (a := 7) (b := 0) (by rfl) (by rfl) (?_ : TZ (d + 1) 109 63 [some (.inr 0), some (.inl x1), some (.inl x2), some (.inl x3), some (.inr 19), some (.inl x5), some (.inl x6), some (.inl 1), some (.inl 1)] [.inl 1] Z19 (zri Q))
        refine z0 (op := 4) (a := 8) (b := 0) (by rfl) (by rfl) (?_ : TZ (d + 1) 109 65 [some (.inr 0), some (.inl x1), some (.inl x2), some (.inl x3), some (.inr 19), some (.inl x5), some (.inl x6), some (.inl 1), some (.inl 1)] [.inl 1, .inl 1] Z19 (zri Q))
        refine z_if2 (a := 0) (t := 77) (by rfl) (by rfl) (by decide) (by decide) (fun _ => ?_) (fun h => absurd (show (1 : Int) = (1 : Int) by decide) h)
        show TZ (d + 1) 109 77 [some (.inr 0), some (.inl x1), some (.inl x2), some (.inl x3), some (.inr 19), some (.inl x5), some (.inl x6), some (.inl 1), some (.inl 1)] [] Z19 (zri Q)
        refine z0 (op := 6) (a := 4) (b := 0) (by rfl) (by rfl) (?_ : TZ (d + 1) 109 79 [some (.inr 0), some (.inl x1), some (.inl x2), some (.inl x3), some (.inr 19), some (.inl x5), some (.inl x6), some (.inl 1), some (.inl 1)] [.inr 19] Z19 (zri Q))
        refine z0 (op := 0) (a := 0) (b := (-1)) (by rfl) (by rfl) (?_ : TZ (d + 1) 109 80 [some (.inr 0), some (.inl x1), some (.inl x2), some (.inl x3), some (.inr 19), some (.inl x5), some (.inl x6), some (.inl 1), some (.inl 1)] [.inl (-1), .inr 19] Z19 (zri Q))
        refine z_vi (by rfl) (by rfl) cl_19 (TI.mono v fun r30 Z29 v => ?_)
        show TZ (d + 1) 109 83 [some (.inr 0), some (.inl x1), some (.inl x2), some (.inl x3), some (.inr 19), some (.inl x5), some (.inl x6), some (.inl 1), some (.inl 1)] [.inl r30] Z29 (zri Q)
        refine z0 (op := 14) (a := 0) (b := 0) (by rfl) (by rfl) (?_ : TZ (d + 1) 109 84 [some (.inr 0), some (.inl x1), some (.inl x2), some (.inl x3), some (.inr 19), some (.inl x5), some (.inl x6), some (.inl 1), some (.inl 1)] [] Z29 (zri Q))
        refine z0 (op := 11) (a := 6) (b := 1) (by rfl) (by rfl) (?_ : TZ (d + 1) 109 87 [some (.inr 0), some (.inl x1), some (.inl x2), some (.inl x3), some (.inr 19), some (.inl x5), some (.inl (x6 + 1)), some (.inl 1), some (.inl 1)] [] Z29 (zri Q))
        refine z_goto (t := 12) (by rfl) (by rfl) (?_ : TZ (d + 1) 109 12 [some (.inr 0), some (.inl x1), some (.inl x2), some (.inl x3), some (.inr 19), some (.inl x5), some (.inl (x6 + 1)), some (.inl 1), some (.inl 1)] [] Z29 (zri Q))
        exact v
theorem w110_0 {d : Nat} {Z : zM} {Q : Int → zM → Prop}
    (v : TZ d 110 4 [some (.inr 0), some (.inl 0), some (.inl 0), none] [] Z (zri Q)) :
    TZ d 110 0 [some (.inr 0), none, none, none] [] Z (zri Q) := by
  refine z0 (op := 0) (a := 0) (b := 0) (by rfl) (by rfl) (?_ : TZ d 110 1 [some (.inr 0), none, none, none] [.inl 0] Z (zri Q))
  refine z0 (op := 7) (a := 1) (b := 0) (by rfl) (by rfl) (?_ : TZ d 110 2 [some (.inr 0), some (.inl 0), none, none] [] Z (zri Q))
  refine z0 (op := 0) (a := 0) (b := 0) (by rfl) (by rfl) (?_ : TZ d 110 3 [some (.inr 0), some (.inl 0), none, none] [.inl 0] Z (zri Q))
  refine z0 (op := 7) (a := 2) (b := 0) (by rfl) (by rfl) (?_ : TZ d 110 4 [some (.inr 0), some (.inl 0), some (.inl 0), none] [] Z (zri Q))
  exact v
theorem w110_4 {d : Nat} {x1 x2 : Int} {o3 : Option zV} {Z : zM} {Q : Int → zM → Prop}
    (v : zR x2 ∧
      (8 ≤ x2 → Q x1 Z) ∧
      (¬ 8 ≤ x2 → TR d 97 [.inr 0] Z (fun r4 Z3 =>
          r4 = 19 ∧
            TV d 31 [.inr 19, .inl x2] Z3 (fun Z5 =>
            TI d 111 [.inr 0, .inr 19] Z5 (fun r7 Z6 =>
              zR r7 ∧
                (r7 ≠ (-9) → TZ (d + 1) 110 4 [some (.inr 0), some (.inl x1), some (.inl (x2 + 1)), some (.inr 19)] [] Z6 (zri Q)) ∧
                (¬ r7 ≠ (-9) → TZ (d + 1) 110 4 [some (.inr 0), some (.inl (zbit 4 x1 (zbit 6 1 x2))), some (.inl (x2 + 1)), some (.inr 19)] [] Z6 (zri Q))))))) :
    TZ (d + 1) 110 4 [some (.inr 0), some (.inl x1), some (.inl x2), o3] [] Z (zri Q) := by
  refine z0 (op := 3) (a := 2) (b := 0) (by rfl) (by rfl) (?_ : TZ (d + 1) 110 5 [some (.inr 0), some (.inl x1), some (.inl x2), o3] [.inl x2] Z (zri Q))
  refine z0 (op := 1) (a := 0) (b := 8) (by rfl) (by rfl) (?_ : TZ (d + 1) 110 7 [some (.inr 0), some (.inl x1), some (.inl x2), o3] [.inl 8, .inl x2] Z (zri Q))
  obtain ⟨c1, v1, v2⟩ := v
  refine z_if2 (a := 3) (t := 42) (by rfl) (by rfl) c1 (by decide) (fun h2 => ?_) (fun h2 => ?_)
  · have v := v1 h2; clear v1 v2
    show TZ (d + 1) 110 42 [some (.inr 0), some (.inl x1), some (.inl x2), o3] [] Z (zri Q)
    refine z0 (op := 3) (a := 1) (b := 0) (by rfl) (by rfl) (?_ : TZ (d + 1) 110 43 [some (.inr 0), some (.inl x1), some (.inl x2), o3] [.inl x1] Z (zri Q))
    exact z_reti (by rfl) (by rfl) v
  · have v := v2 h2; clear v1 v2
    show TZ (d + 1) 110 10 [some (.inr 0), some (.inl x1), some (.inl x2), o3] [] Z (zri Q)
    refine z0 (op := 5) (a := 0) (b := 0) (by rfl) (by rfl) (?_ : TZ (d + 1) 110 11 [some (.inr 0), some (.inl x1), some (.inl x2), o3] [.inr 0] Z (zri Q))
    refine z_vr (by rfl) (by rfl) cl_0 (TR.mono v fun r4 Z3 v => ?_)
    obtain ⟨er4, v⟩ := v
    subst er4
    show TZ (d + 1) 110 14 [some (.inr 0), some (.inl x1), some (.inl x2), o3] [.inr 19] Z3 (zri Q)
    refine z0 (op := 9) (a := 3) (b := 0) (by rfl) (by rfl) (?_ : TZ (d + 1) 110 15 [some (.inr 0), some (.inl x1), some (.inl x2), some (.inr 19)] [] Z3 (zri Q))
    refine z0 (op := 5) (a := 3) (b := 0) (by rfl) (by rfl) (?_ : TZ (d + 1) 110 16 [some (.inr 0), some (.inl x1), some (.inl x2), some (.inr 19)] [.inr 19] Z3 (zri Q))
    refine z0 (op := 3) (a := 2) (b := 0) (by rfl) (by rfl) (?_ : TZ (d + 1) 110 17 [some (.inr 0), some (.inl x1), some (.inl x2), some (.inr 19)] [.inl x2, .inr 19] Z3 (zri Q))
    refine z_vv (by rfl) (by rfl) cl_19 (TV.mono v fun Z5 v => ?_)
    show TZ (d + 1) 110 20 [some (.inr 0), some (.inl x1), some (.inl x2), some (.inr 19)] [] Z5 (zri Q)
    refine z0 (op := 5) (a := 0) (b := 0) (by rfl) (by rfl) (?_ : TZ (d + 1) 110 21 [some (.inr 0), some (.inl x1), some (.inl x2), some (.inr 19)] [.inr 0] Z5 (zri Q))
    refine z0 (op := 5) (a := 3) (b := 0) (by rfl) (by rfl) (?_ : TZ (d + 1) 110 22 [some (.inr 0), some (.inl x1), some (.inl x2), some (.inr 19)] [.inr 19, .inr 0] Z5 (zri Q))
    refine z_vi (by rfl) (by rfl) cl_0 (TI.mono v fun r7 Z6 v => ?_)
    show TZ (d + 1) 110 25 [some (.inr 0), some (.inl x1), some (.inl x2), some (.inr 19)] [.inl r7] Z6 (zri Q)
    refine z0 (op := 1) (a := 0) (b := (-9)) (by rfl) (by rfl) (?_ : TZ (d + 1) 110 27 [some (.inr 0), some (.inl x1), some (.inl x2), some (.inr 19)] [.inl (-9), .inl r7] Z6 (zri Q))
    obtain ⟨c8, v1, v2⟩ := v
    refine z_if2 (a := 1) (t := 36) (by rfl) (by rfl) c8 (by decide) (fun h9 => ?_) (fun h9 => ?_)
    · have v := v1 h9; clear v1 v2
      show TZ (d + 1) 110 36 [some (.inr 0), some (.inl x1), some (.inl x2), some (.inr 19)] [] Z6 (zri Q)
      refine z0 (op := 11) (a := 2) (b := 1) (by rfl) (by rfl) (?_ : TZ (d + 1) 110 39 [some (.inr 0), some (.inl x1), some (.inl (x2 + 1)), some (.inr 19)] [] Z6 (zri Q))
      refine z_goto (t := 4) (by rfl) (by rfl) (?_ : TZ (d + 1) 110 4 [some (.inr 0), some (.inl x1), some (.inl (x2 + 1)), some (.inr 19)] [] Z6 (zri Q))
      exact v
    · have v := v2 h9; clear v1 v2
      show TZ (d + 1) 110 30 [some (.inr 0), some (.inl x1), some (.inl x2), some (.inr 19)] [] Z6 (zri Q)
      refine z0 (op := 3) (a := 1) (b := 0) (by rfl) (by rfl) (?_ : TZ (d + 1) 110 31 [some (.inr 0), some (.inl x1), some (.inl x2), some (.inr 19)] [.inl x1] Z6 (zri Q))
      refine z0 (op := 0) (a := 0) (b := 1) (by rfl) (by rfl) (?_ : TZ (d + 1) 110 32 [some (.inr 0), some (.inl x1), some (.inl x2), some (.inr 19)] [.inl 1, .inl x1] Z6 (zri Q))
      refine z0 (op := 3) (a := 2) (b := 0) (by rfl) (by rfl) (?_ : TZ (d + 1) 110 33 [some (.inr 0), some (.inl x1), some (.inl x2), some (.inr 19)] [.inl x2, .inl 1, .inl x1] Z6 (zri Q))
      refine z0 (op := 12) (a := 6) (b := 0) (by rfl) (by rfl) (?_ : TZ (d + 1) 110 34 [some (.inr 0), some (.inl x1), some (.inl x2), some (.inr 19)] [.inl (zbit 6 1 x2), .inl x1] Z6 (zri Q))
      refine z0 (op := 12) (a := 4) (b := 0) (by rfl) (by rfl) (?_ : TZ (d + 1) 110 35 [some (.inr 0), some (.inl x1), some (.inl x2), some (.inr 19)] [.inl (zbit 4 x1 (zbit 6 1 x2))] Z6 (zri Q))
      refine z0 (op := 7) (a := 1) (b := 0) (by rfl) (by rfl) (?_ : TZ (d + 1) 110 36 [some (.inr 0), some (.inl (zbit 4 x1 (zbit 6 1 x2))), some (.inl x2), some (.inr 19)] [] Z6 (zri Q))
      refine z0 (op := 11) (a := 2) (b := 1) (by rfl) (by rfl) (?_ : TZ (d + 1) 110 39 [some (.inr 0), some (.inl (zbit 4 x1 (zbit 6 1 x2))), some (.inl (x2 + 1)), some (.inr 19)] [] Z6 (zri Q))
      refine z_goto (t := 4) (by rfl) (by rfl) (?_ : TZ (d + 1) 110 4 [some (.inr 0), some (.inl (zbit 4 x1 (zbit 6 1 x2))), some (.inl (x2 + 1)), some (.inr 19)] [] Z6 (zri Q))
      exact v
theorem w111_0 {d : Nat} {k : Nat} {Z : zM} {Q : Int → zM → Prop} (hk : k ∈ zFl)
    (v : TZ d 111 2 [some (.inr 0), some (.inr k), some (.inl 0)] [] Z (zri Q)) :
    TZ d 111 0 [some (.inr 0), some (.inr k), none] [] Z (zri Q) := by
  refine z0 (op := 0) (a := 0) (b := 0) (by rfl) (by rfl) (?_ : TZ d 111 1 [some (.inr 0), some (.inr k), none] [.inl 0] Z (zri Q))
  refine z0 (op := 7) (a := 2) (b := 0) (by rfl) (by rfl) (?_ : TZ d 111 2 [some (.inr 0), some (.inr k), some (.inl 0)] [] Z (zri Q))
  exact v
theorem w111_2 {d : Nat} {k : Nat} {x2 : Int} {Z : zM} {Q : Int → zM → Prop} (hk : k ∈ zFl)
    (v : zR x2 ∧
      zR (Z 39 3) ∧
      ((Z 39 3) ≤ x2 → Q (-9) Z) ∧
      (¬ (Z 39 3) ≤ x2 → TI d 22 [.inr k] Z (fun r5 Z4 =>
          (0 ≤ x2 ∧ x2 < 12) ∧
            zR r5 ∧
            zR (Z4 40 x2) ∧
            (r5 = (Z4 40 x2) → TI d 25 [.inr k, .inl (-1)] Z4 (fun r11 Z10 =>
                TZ (d + 1) 111 2 [some (.inr 0), some (.inr k), some (.inl (x2 + 1))] [] Z10 (zri Q))) ∧
            (¬ r5 = (Z4 40 x2) → Q x2 Z4)))) :
    TZ (d + 1) 111 2 [some (.inr 0), some (.inr k), some (.inl x2)] [] Z (zri Q) := by
  refine z0 (op := 3) (a := 2) (b := 0) (by rfl) (by rfl) (?_ : TZ (d + 1) 111 3 [some (.inr 0), some (.inr k), some (.inl x2)] [.inl x2] Z (zri Q))
  refine z0 (op := 5) (a := 0) (b := 0) (by rfl) (by rfl) (?_ : TZ (d + 1) 111 4 [some (.inr 0), some (.inr k), some (.inl x2)] [.inr 0, .inl x2] Z (zri Q))
  refine z_fr (by rfl) fr57_0 (?_ : TZ (d + 1) 111 7 [some (.inr 0), some (.inr k), some (.inl x2)] [.inr 39, .inl x2] Z (zri Q))
  refine z_fi (by rfl) fi67_39 (?_ : TZ (d + 1) 111 10 [some (.inr 0), some (.inr k), some (.inl x2)] [.inl (Z 39 3), .inl x2] Z (zri Q))
  obtain ⟨c1, c2, v1, v2⟩ := v
  refine z_if2 (a := 3) (t := 43) (by rfl) (by rfl) c1 c2 (fun h3 => ?_) (fun h3 => ?_)
  · have v := v1 h3; clear v1 v2
    show TZ (d + 1) 111 43 [some (.inr 0), some (.inr k), some (.inl x2)] [] Z (zri Q)
    refine z0 (op := 1) (a := 0) (b := (-9)) (by rfl) (by rfl) (?_ : TZ (d + 1) 111 45 [some (.inr 0), some (.inr k), some (.inl x2)] [.inl (-9)] Z (zri Q))
    exact z_reti (by rfl) (by rfl) v
  · have v := v2 h3; clear v1 v2
    show TZ (d + 1) 111 13 [some (.inr 0), some (.inr k), some (.inl x2)] [] Z (zri Q)
    refine z0 (op := 5) (a := 1) (b := 0) (by rfl) (by rfl) (?_ : TZ (d + 1) 111 14 [some (.inr 0), some (.inr k), some (.inl x2)] [.inr k] Z (zri Q))
    refine z_vi (by rfl) (by rfl) (cl_F0 _ hk) (TI.mono v fun r5 Z4 v => ?_)
    show TZ (d + 1) 111 17 [some (.inr 0), some (.inr k), some (.inl x2)] [.inl r5] Z4 (zri Q)
    refine z0 (op := 5) (a := 0) (b := 0) (by rfl) (by rfl) (?_ : TZ (d + 1) 111 18 [some (.inr 0), some (.inr k), some (.inl x2)] [.inr 0, .inl r5] Z4 (zri Q))
    refine z_fr (by rfl) fr57_0 (?_ : TZ (d + 1) 111 21 [some (.inr 0), some (.inr k), some (.inl x2)] [.inr 39, .inl r5] Z4 (zri Q))
    refine z_fr (by rfl) fr78_39 (?_ : TZ (d + 1) 111 24 [some (.inr 0), some (.inr k), some (.inl x2)] [.inr 40, .inl r5] Z4 (zri Q))
    refine z0 (op := 3) (a := 2) (b := 0) (by rfl) (by rfl) (?_ : TZ (d + 1) 111 25 [some (.inr 0), some (.inr k), some (.inl x2)] [.inl x2, .inr 40, .inl r5] Z4 (zri Q))
    obtain ⟨c6, v⟩ := v
    refine z_al (by rfl) ln_40 c6 (?_ : TZ (d + 1) 111 26 [some (.inr 0), some (.inr k), some (.inl x2)] [.inl (Z4 40 x2), .inl r5] Z4 (zri Q))
    obtain ⟨c7, c8, v1, v2⟩ := v
    refine z_if2 (a := 0) (t := 31) (by rfl) (by rfl) c7 c8 (fun h9 => ?_) (fun h9 => ?_)
    · have v := v1 h9; clear v1 v2
      show TZ (d + 1) 111 31 [some (.inr 0), some (.inr k), some (.inl x2)] [] Z4 (zri Q)
      refine z0 (op := 5) (a := 1) (b := 0) (by rfl) (by rfl) (?_ : TZ (d + 1) 111 32 [some (.inr 0), some (.inr k), some (.inl x2)] [.inr k] Z4 (zri Q))
      refine z0 (op := 0) (a := 0) (b := (-1)) (by rfl) (by rfl) (?_ : TZ (d + 1) 111 33 [some (.inr 0), some (.inr k), some (.inl x2)] [.inl (-1), .inr k] Z4 (zri Q))
      refine z_vi (by rfl) (by rfl) (cl_F0 _ hk) (TI.mono v fun r11 Z10 v => ?_)
      show TZ (d + 1) 111 36 [some (.inr 0), some (.inr k), some (.inl x2)] [.inl r11] Z10 (zri Q)
      refine z0 (op := 14) (a := 0) (b := 0) (by rfl) (by rfl) (?_ : TZ (d + 1) 111 37 [some (.inr 0), some (.inr k), some (.inl x2)] [] Z10 (zri Q))
      refine z0 (op := 11) (a := 2) (b := 1) (by rfl) (by rfl) (?_ : TZ (d + 1) 111 40 [some (.inr 0), some (.inr k), some (.inl (x2 + 1))] [] Z10 (zri Q))
      refine z_goto (t := 2) (by rfl) (by rfl) (?_ : TZ (d + 1) 111 2 [some (.inr 0), some (.inr k), some (.inl (x2 + 1))] [] Z10 (zri Q))
      exact v
    · have v := v2 h9; clear v1 v2
      show TZ (d + 1) 111 29 [some (.inr 0), some (.inr k), some (.inl x2)] [] Z4 (zri Q)
      refine z0 (op := 3) (a := 2) (b := 0) (by rfl) (by rfl) (?_ : TZ (d + 1) 111 30 [some (.inr 0), some (.inr k), some (.inl x2)] [.inl x2] Z4 (zri Q))
      exact z_reti (by rfl) (by rfl) v
theorem w112_0 {d : Nat} {x1 : Int} {Z : zM} {Q : Int → zM → Prop}
    (v : TI d 75 [.inl x1, .inl 1] Z (fun r2 Z1 =>
      zR r2 ∧
        (r2 = 0 → TV d 1 [.inr 44, .inl 0] Z1 (fun Z5 =>
            TZ (d + 1) 112 32 [some (.inr 0), some (.inl x1), some (.inl r2), some (.inl 0), some (.inl 0), some (.inl 0), none] [] Z5 (zri Q))) ∧
        (¬ r2 = 0 → TI d 71 [.inr 0, .inl r2] Z1 (fun r7 Z6 =>
            Q r7 Z6)))) :
    TZ (d + 1) 112 0 [some (.inr 0), some (.inl x1), none, none, none, none, none] [] Z (zri Q) := by
  refine z0 (op := 3) (a := 1) (b := 0) (by rfl) (by rfl) (?_ : TZ (d + 1) 112 1 [some (.inr 0), some (.inl x1), none, none, none, none, none] [.inl x1] Z (zri Q))
  refine z0 (op := 0) (a := 0) (b := 1) (by rfl) (by rfl) (?_ : TZ (d + 1) 112 2 [some (.inr 0), some (.inl x1), none, none, none, none, none] [.inl 1, .inl x1] Z (zri Q))
  refine z_si (by rfl) (by rfl) (TI.mono v fun r2 Z1 v => ?_)
  show TZ (d + 1) 112 5 [some (.inr 0), some (.inl x1), none, none, none, none, none] [.inl r2] Z1 (zri Q)
  refine z0 (op := 7) (a := 2) (b := 0) (by rfl) (by rfl) (?_ : TZ (d + 1) 112 6 [some (.inr 0), some (.inl x1), some (.inl r2), none, none, none, none] [] Z1 (zri Q))
  refine z0 (op := 3) (a := 2) (b := 0) (by rfl) (by rfl) (?_ : TZ (d + 1) 112 7 [some (.inr 0), some (.inl x1), some (.inl r2), none, none, none, none] [.inl r2] Z1 (zri Q))
  obtain ⟨c3, v1, v2⟩ := v
  refine z_if0 (a := 0) (t := 16) (by rfl) (by rfl) c3 (fun h4 => ?_) (fun h4 => ?_)
  · have v := v1 h4; clear v1 v2
    show TZ (d + 1) 112 16 [some (.inr 0), some (.inl x1), some (.inl r2), none, none, none, none] [] Z1 (zri Q)
    refine z0 (op := 0) (a := 0) (b := 0) (by rfl) (by rfl) (?_ : TZ (d + 1) 112 17 [some (.inr 0), some (.inl x1), some (.inl r2), none, none, none, none] [.inl 0] Z1 (zri Q))
    refine z0 (op := 7) (a := 3) (b := 0) (by rfl) (by rfl) (?_ : TZ (d + 1) 112 18 [some (.inr 0), some (.inl x1), some (.inl r2), some (.inl 0), none, none, none] [] Z1 (zri Q))
    refine z0 (op := 0) (a := 0) (b := 0) (by rfl) (by rfl) (?_ : TZ (d + 1) 112 19 [some (.inr 0), some (.inl x1), some (.inl r2), some (.inl 0), none, none, none] [.inl 0] Z1 (zri Q))
    refine z0 (op := 8) (a := 4) (b := 0) (by rfl) (by rfl) (?_ : TZ (d + 1) 112 21 [some (.inr 0), some (.inl x1), some (.inl r2), some (.inl 0), some (.inl 0), none, none] [] Z1 (zri Q))
    refine z0 (op := 5) (a := 0) (b := 0) (by rfl) (by rfl) (?_ : TZ (d + 1) 112 22 [some (.inr 0), some (.inl x1), some (.inl r2), some (.inl 0), some (.inl 0), none, none] [.inr 0] Z1 (zri Q))
    refine z_fr (by rfl) fr59_0 (?_ : TZ (d + 1) 112 25 [some (.inr 0), some (.inl x1), some (.inl r2), some (.inl 0), some (.inl 0), none, none] [.inr 44] Z1 (zri Q))
    refine z0 (op := 0) (a := 0) (b := 0) (by rfl) (by rfl) (?_ : TZ (d + 1) 112 26 [some (.inr 0), some (.inl x1), some (.inl r2), some (.inl 0), some (.inl 0), none, none] [.inl 0, .inr 44] Z1 (zri Q))
    refine z_sv (by rfl) (by rfl) (TV.mono v fun Z5 v => ?_)
    show TZ (d + 1) 112 29 [some (.inr 0), some (.inl x1), some (.inl r2), some (.inl 0), some (.inl 0), none, none] [] Z5 (zri Q)
    refine z0 (op := 0) (a := 0) (b := 0) (by rfl) (by rfl) (?_ : TZ (d + 1) 112 30 [some (.inr 0), some (.inl x1), some (.inl r2), some (.inl 0), some (.inl 0), none, none] [.inl 0] Z5 (zri Q))
    refine z0 (op := 8) (a := 5) (b := 0) (by rfl) (by rfl) (?_ : TZ (d + 1) 112 32 [some (.inr 0), some (.inl x1), some (.inl r2), some (.inl 0), some (.inl 0), some (.inl 0), none] [] Z5 (zri Q))
    exact v
  · have v := v2 h4; clear v1 v2
    show TZ (d + 1) 112 10 [some (.inr 0), some (.inl x1), some (.inl r2), none, none, none, none] [] Z1 (zri Q)
    refine z0 (op := 5) (a := 0) (b := 0) (by rfl) (by rfl) (?_ : TZ (d + 1) 112 11 [some (.inr 0), some (.inl x1), some (.inl r2), none, none, none, none] [.inr 0] Z1 (zri Q))
    refine z0 (op := 3) (a := 2) (b := 0) (by rfl) (by rfl) (?_ : TZ (d + 1) 112 12 [some (.inr 0), some (.inl x1), some (.inl r2), none, none, none, none] [.inl r2, .inr 0] Z1 (zri Q))
    refine z_vi (by rfl) (by rfl) cl_0 (TI.mono v fun r7 Z6 v => ?_)
    show TZ (d + 1) 112 15 [some (.inr 0), some (.inl x1), some (.inl r2), none, none, none, none] [.inl r7] Z6 (zri Q)
    exact z_reti (by rfl) (by rfl) v
theorem w112_32 {d : Nat} {x1 x2 x3 x4 x5 : Int} {Z : zM} {Q : Int → zM → Prop}
    (v : zR x5 ∧
      (8 ≤ x5 → TZ (d + 1) 112 54 [some (.inr 0), some (.inl x1), some (.inl x2), some (.inl x3), some (.inl x4), some (.inl 0), none] [] Z (zri Q)) ∧
      (¬ 8 ≤ x5 → TV d 113 [.inr 0, .inl x5] Z (fun Z3 =>
          TZ (d + 1) 112 32 [some (.inr 0), some (.inl x1), some (.inl x2), some (.inl x3), some (.inl x4), some (.inl (x5 + 1)), none] [] Z3 (zri Q)))) :
    TZ (d + 1) 112 32 [some (.inr 0), some (.inl x1), some (.inl x2), some (.inl x3), some (.inl x4), some (.inl x5), none] [] Z (zri Q) := by
  refine z0 (op := 4) (a := 5) (b := 0) (by rfl) (by rfl) (?_ : TZ (d + 1) 112 34 [some (.inr 0), some (.inl x1), some (.inl x2), some (.inl x3), some (.inl x4), some (.inl x5), none] [.inl x5] Z (zri Q))
  refine z0 (op := 1) (a := 0) (b := 8) (by rfl) (by rfl) (?_ : TZ (d + 1) 112 36 [some (.inr 0), some (.inl x1), some (.inl x2), some (.inl x3), some (.inl x4), some (.inl x5), none] [.inl 8, .inl x5] Z (zri Q))
  obtain ⟨c1, v1, v2⟩ := v
  refine z_if2 (a := 3) (t := 51) (by rfl) (by rfl) c1 (by decide) (fun h2 => ?_) (fun h2 => ?_)
  · have v := v1 h2; clear v1 v2
    show TZ (d + 1) 112 51 [some (.inr 0), some (.inl x1), some (.inl x2), some (.inl x3), some (.inl x4), some (.inl x5), none] [] Z (zri Q)
    refine z0 (op := 0) (a := 0) (b := 0) (by rfl) (by rfl) (?_ : TZ (d + 1) 112 52 [some (.inr 0), some (.inl x1), some (.inl x2), some (.inl x3), some (.inl x4), some (.inl x5), none] [.inl 0] Z (zri Q))
    refine z0 (op := 8) (a := 5) (b := 0) (by rfl) (by rfl) (?_ : TZ (d + 1) 112 54 [some (.inr 0), some (.inl x1), some (.inl x2), some (.inl x3), some (.inl x4), some (.inl 0), none] [] Z (zri Q))
    exact v
  · have v := v2 h2; clear v1 v2
    show TZ (d + 1) 112 39 [some (.inr 0), some (.inl x1), some (.inl x2), some (.inl x3), some (.inl x4), some (.inl x5), none] [] Z (zri Q)
    refine z0 (op := 5) (a := 0) (b := 0) (by rfl) (by rfl) (?_ : TZ (d + 1) 112 40 [some (.inr 0), some (.inl x1), some (.inl x2), some (.inl x3), some (.inl x4), some (.inl x5), none] [.inr 0] Z (zri Q))
    refine z0 (op := 4) (a := 5) (b := 0) (by rfl) (by rfl) (?_ : TZ (d + 1) 112 42 [some (.inr 0), some (.inl x1), some (.inl x2), some (.inl x3), some (.inl x4), some (.inl x5), none] [.inl x5, .inr 0] Z (zri Q))
    refine z_vv (by rfl) (by rfl) cl_0 (TV.mono v fun Z3 v => ?_)
    show TZ (d + 1) 112 45 [some (.inr 0), some (.inl x1), some (.inl x2), some (.inl x3), some (.inl x4), some (.inl x5), none] [] Z3 (zri Q)
    refine z0 (op := 11) (a := 5) (b := 1) (by rfl) (by rfl) (?_ : TZ (d + 1) 112 48 [some (.inr 0), some (.inl x1), some (.inl x2), some (.inl x3), some (.inl x4), some (.inl (x5 + 1)), none] [] Z3 (zri Q))
    refine z_goto (t := 32) (by rfl) (by rfl) (?_ : TZ (d + 1) 112 32 [some (.inr 0), some (.inl x1), some (.inl x2), some (.inl x3), some (.inl x4), some (.inl (x5 + 1)), none] [] Z3 (zri Q))
    exact v
theorem w112_54 {d : Nat} {x1 x2 x3 x4 x5 : Int} {o6 : Option zV} {Z : zM} {Q : Int → zM → Prop}
    (v : zR x5 ∧
      (8 < x5 → (zR x1 ∧
          (x1 ≠ 0 → Q x3 Z) ∧
          (¬ x1 ≠ 0 → Q x4 Z))) ∧
      (¬ 8 < x5 → ((0 ≤ x5 ∧ x5 < 12) ∧
          TI d 0 [.inl (Z 44 x5)] Z (fun r7 Z6 =>
          zR r7 ∧
            zR x3 ∧
            (r7 ≤ x3 → TZ (d + 1) 112 54 [some (.inr 0), some (.inl x1), some (.inl x2), some (.inl x3), some (.inl x4), some (.inl (x5 + 1)), some (.inl r7)] [] Z6 (zri Q)) ∧
            (¬ r7 ≤ x3 → TZ (d + 1) 112 54 [some (.inr 0), some (.inl x1), some (.inl x2), some (.inl r7), some (.inl x5), some (.inl (x5 + 1)), some (.inl r7)] [] Z6 (zri Q)))))) :
    TZ (d + 1) 112 54 [some (.inr 0), some (.inl x1), some (.inl x2), some (.inl x3), some (.inl x4), some (.inl x5), o6] [] Z (zri Q) := by
  refine z0 (op := 4) (a := 5) (b := 0) (by rfl) (by rfl) (?_ : TZ (d + 1) 112 56 [some (.inr 0), some (.inl x1), some (.inl x2), some (.inl x3), some (.inl x4), some (.inl x5), o6] [.inl x5] Z (zri Q))
  refine z0 (op := 1) (a := 0) (b := 8) (by rfl) (by rfl) (?_ : TZ (d + 1) 112 58 [some (.inr 0), some (.inl x1), some (.inl x2), some (.inl x3), some (.inl x4), some (.inl x5), o6] [.inl 8, .inl x5] Z (zri Q))
  obtain ⟨c1, v1, v2⟩ := v
  refine z_if2 (a := 4) (t := 92) (by rfl) (by rfl) c1 (by decide) (fun h2 => ?_) (fun h2 => ?_)
  · have v := v1 h2; clear v1 v2
    show TZ (d + 1) 112 92 [some (.inr 0), some (.inl x1), some (.inl x2), some (.inl x3), some (.inl x4), some (.inl x5), o6] [] Z (zri Q)
    refine z0 (op := 3) (a := 1) (b := 0) (by rfl) (by rfl) (?_ : TZ (d + 1) 112 93 [some (.inr 0), some (.inl x1), some (.inl x2), some (.inl x3), some (.inl x4), some (.inl x5), o6] [.inl x1] Z (zri Q))
    obtain ⟨c3, v1, v2⟩ := v
    refine z_if0 (a := 1) (t := 101) (by rfl) (by rfl) c3 (fun h4 => ?_) (fun h4 => ?_)
    · have v := v1 h4; clear v1 v2
      show TZ (d + 1) 112 101 [some (.inr 0), some (.inl x1), some (.inl x2), some (.inl x3), some (.inl x4), some (.inl x5), o6] [] Z (zri Q)
      refine z0 (op := 3) (a := 3) (b := 0) (by rfl) (by rfl) (?_ : TZ (d + 1) 112 102 [some (.inr 0), some (.inl x1), some (.inl x2), some (.inl x3), some (.inl x4), some (.inl x5), o6] [.inl x3] Z (zri Q))
      exact z_reti (by rfl) (by rfl) v
    · have v := v2 h4; clear v1 v2
      show TZ (d + 1) 112 96 [some (.inr 0), some (.inl x1), some (.inl x2), some (.inl x3), some (.inl x4), some (.inl x5), o6] [] Z (zri Q)
      refine z0 (op := 4) (a := 4) (b := 0) (by rfl) (by rfl) (?_ : TZ (d + 1) 112 98 [some (.inr 0), some (.inl x1), some (.inl x2), some (.inl x3), some (.inl x4), some (.inl x5), o6] [.inl x4] Z (zri Q))
      refine z_goto (t := 102) (by rfl) (by rfl) (?_ : TZ (d + 1) 112 102 [some (.inr 0), some (.inl x1), some (.inl x2), some (.inl x3), some (.inl x4), some (.inl x5), o6] [.inl x4] Z (zri Q))
      exact z_reti (by rfl) (by rfl) v
  · have v := v2 h2; clear v1 v2
    show TZ (d + 1) 112 61 [some (.inr 0), some (.inl x1), some (.inl x2), some (.inl x3), some (.inl x4), some (.inl x5), o6] [] Z (zri Q)
    refine z0 (op := 5) (a := 0) (b := 0) (by rfl) (by rfl) (?_ : TZ (d + 1) 112 62 [some (.inr 0), some (.inl x1), some (.inl x2), some (.inl x3), some (.inl x4), some (.inl x5), o6] [.inr 0] Z (zri Q))
    refine z_fr (by rfl) fr59_0 (?_ : TZ (d + 1) 112 65 [some (.inr 0), some (.inl x1), some (.inl x2), some (.inl x3), some (.inl x4), some (.inl x5), o6] [.inr 44] Z (zri Q))
    refine z0 (op := 4) (a := 5) (b := 0) (by rfl) (by rfl) (?_ : TZ (d + 1) 112 67 [some (.inr 0), some (.inl x1), some (.inl x2), some (.inl x3), some (.inl x4), some (.inl x5), o6] [.inl x5, .inr 44] Z (zri Q))
    obtain ⟨c5, v⟩ := v
    refine z_al (by rfl) ln_44 c5 (?_ : TZ (d + 1) 112 68 [some (.inr 0), some (.inl x1), some (.inl x2), some (.inl x3), some (.inl x4), some (.inl x5), o6] [.inl (Z 44 x5)] Z (zri Q))
    refine z_si (by rfl) (by rfl) (TI.mono v fun r7 Z6 v => ?_)
    show TZ (d + 1) 112 71 [some (.inr 0), some (.inl x1), some (.inl x2), some (.inl x3), some (.inl x4), some (.inl x5), o6] [.inl r7] Z6 (zri Q)
    refine z0 (op := 8) (a := 6) (b := 0) (by rfl) (by rfl) (?_ : TZ (d + 1) 112 73 [some (.inr 0), some (.inl x1), some (.inl x2), some (.inl x3), some (.inl x4), some (.inl x5), some (.inl r7)] [] Z6 (zri Q))
    refine z0 (op := 4) (a := 6) (b := 0) (by rfl) (by rfl) (?_ : TZ (d + 1) 112 75 [some (.inr 0), some (.inl x1), some (.inl x2), some (.inl x3), some (.inl x4), some (.inl x5), some (.inl r7)] [.inl r7] Z6 (zri Q))
    refine z0 (op := 3) (a := 3) (b := 0) (by rfl) (by rfl) (?_ : TZ (d + 1) 112 76 [some (.inr 0), some (.inl x1), some (.inl x2), some (.inl x3), some (.inl x4), some (.inl x5), some (.inl r7)] [.inl x3, .inl r7] Z6 (zri Q))
    obtain ⟨c8, c9, v1, v2⟩ := v
    refine z_if2 (a := 5) (t := 86) (by rfl) (by rfl) c8 c9 (fun h10 => ?_) (fun h10 => ?_)
    · have v := v1 h10; clear v1 v2
      show TZ (d + 1) 112 86 [some (.inr 0), some (.inl x1), some (.inl x2), some (.inl x3), some (.inl x4), some (.inl x5), some (.inl r7)] [] Z6 (zri Q)
      refine z0 (op := 11) (a := 5) (b := 1) (by rfl) (by rfl) (?_ : TZ (d + 1) 112 89 [some (.inr 0), some (.inl x1), some (.inl x2), some (.inl x3), some (.inl x4), some (.inl (x5 + 1)), some (.inl r7)] [] Z6 (zri Q))
      refine z_goto (t := 54) (by rfl) (by rfl) (?_ : TZ (d + 1) 112 54 [some (.inr 0), some (.inl x1), some (.inl x2), some (.inl x3), some (.inl x4), some (.inl (x5 + 1)), some (.inl r7)] [] Z6 (zri Q))
      exact v
    · have v := v2 h10; clear v1 v2
      show TZ (d + 1) 112 79 [some (.inr 0), some (.inl x1), some (.inl x2), some (.inl x3), some (.inl x4), some (.inl x5), some (.inl r7)] [] Z6 (zri Q)
      refine z0 (op := 4) (a := 6) (b := 0) (by rfl) (by rfl) (?_ : TZ (d + 1) 112 81 [some (.inr 0), some (.inl x1), some (.inl x2), some (.inl x3), some (.inl x4), some (.inl x5), some (.inl r7)] [.inl r7] Z6 (zri Q))
      refine z0 (op := 7) (a := 3) (b := 0) (by rfl) (by rfl) (?_ : TZ (d + 1) 112 82 [some (.inr 0), some (.inl x1), some (.inl x2), some (.inl r7), some (.inl x4), some (.inl x5), some (.inl r7)] [] Z6 (zri Q))
      refine z0 (op := 4) (a := 5) (b := 0) (by rfl) (by rfl) (?_ : TZ (d + 1) 112 84 [some (.inr 0), some (.inl x1), some (.inl x2), some (.inl r7), some (.inl x4), some (.inl x5), some (.inl r7)] [.inl x5] Z6 (zri Q))
      refine z0 (op := 8) (a := 4) (b := 0) (by rfl) (by rfl) (?_ : TZ (d + 1) 112 86 [some (.inr 0), some (.inl x1), some (.inl x2), some (.inl r7), some (.inl x5), some (.inl x5), some (.inl r7)] [] Z6 (zri Q))
      refine z0 (op := 11) (a := 5) (b := 1) (by rfl) (by rfl) (?_ : TZ (d + 1) 112 89 [some (.inr 0), some (.inl x1), some (.inl x2), some (.inl r7), some (.inl x5), some (.inl (x5 + 1)), some (.inl r7)] [] Z6 (zri Q))
      refine z_goto (t := 54) (by rfl) (by rfl) (?_ : TZ (d + 1) 112 54 [some (.inr 0), some (.inl x1), some (.inl x2), some (.inl r7), some (.inl x5), some (.inl (x5 + 1)), some (.inl r7)] [] Z6 (zri Q))
      exact v
theorem w113_0 {d : Nat} {x1 : Int} {Z : zM} {Q : zM → Prop}
    (v : TR d 97 [.inr 0] Z (fun r2 Z1 =>
      r2 = 19 ∧
        TV d 31 [.inr 19, .inl x1] Z1 (fun Z3 =>
        TZ (d + 1) 113 12 [some (.inr 0), some (.inl x1), some (.inr 19), some (.inl 0)] [] Z3 (zrv Q)))) :
    TZ (d + 1) 113 0 [some (.inr 0), some (.inl x1), none, none] [] Z (zrv Q) := by
  refine z0 (op := 5) (a := 0) (b := 0) (by rfl) (by rfl) (?_ : TZ (d + 1) 113 1 [some (.inr 0), some (.inl x1), none, none] [.inr 0] Z (zrv Q))
  refine z_vr (by rfl) (by rfl) cl_0 (TR.mono v fun r2 Z1 v => ?_)
  obtain ⟨er2, v⟩ := v
  subst er2
  show TZ (d + 1) 113 4 [some (.inr 0), some (.inl x1), none, none] [.inr 19] Z1 (zrv Q)
  refine z0 (op := 9) (a := 2) (b := 0) (by rfl) (by rfl) (?_ : TZ (d + 1) 113 5 [some (.inr 0), some (.inl x1), some (.inr 19), none] [] Z1 (zrv Q))
  refine z0 (op := 5) (a := 2) (b := 0) (by rfl) (by rfl) (?_ : TZ (d + 1) 113 6 [some (.inr 0), some (.inl x1), some (.inr 19), none] [.inr 19] Z1 (zrv Q))
  refine z0 (op := 3) (a := 1) (b := 0) (by rfl) (by rfl) (?_ : TZ (d + 1) 113 7 [some (.inr 0), some (.inl x1), some (.inr 19), none] [.inl x1, .inr 19] Z1 (zrv Q))
  refine z_vv (by rfl) (by rfl) cl_19 (TV.mono v fun Z3 v => ?_)
  show TZ (d + 1) 113 10 [some (.inr 0), some (.inl x1), some (.inr 19), none] [] Z3 (zrv Q)
  refine z0 (op := 0) (a := 0) (b := 0) (by rfl) (by rfl) (?_ : TZ (d + 1) 113 11 [some (.inr 0), some (.inl x1), some (.inr 19), none] [.inl 0] Z3 (zrv Q))
  refine z0 (op := 7) (a := 3) (b := 0) (by rfl) (by rfl) (?_ : TZ (d + 1) 113 12 [some (.inr 0), some (.inl x1), some (.inr 19), some (.inl 0)] [] Z3 (zrv Q))
  exact v
theorem w113_12 {d : Nat} {x1 x3 : Int} {Z : zM} {Q : zM → Prop}
    (v : zR x3 ∧
      (8 < x3 → Q Z) ∧
      (¬ 8 < x3 → ((0 ≤ x3 ∧ x3 < 12) ∧
          TI d 22 [.inr 19] Z (fun r5 Z4 =>
          (0 ≤ x3 ∧ x3 < 12) ∧
            ∀ Z7, Z7 = zup Z4 44 x3 (zbit 4 (Z 44 x3) (zbit 6 1 r5)) →
            TI d 25 [.inr 19, .inl (-1)] Z7 (fun r9 Z8 =>
            TZ (d + 1) 113 12 [some (.inr 0), some (.inl x1), some (.inr 19), some (.inl (x3 + 1))] [] Z8 (zrv Q)))))) :
    TZ (d + 1) 113 12 [some (.inr 0), some (.inl x1), some (.inr 19), some (.inl x3)] [] Z (zrv Q) := by
  refine z0 (op := 3) (a := 3) (b := 0) (by rfl) (by rfl) (?_ : TZ (d + 1) 113 13 [some (.inr 0), some (.inl x1), some (.inr 19), some (.inl x3)] [.inl x3] Z (zrv Q))
  refine z0 (op := 1) (a := 0) (b := 8) (by rfl) (by rfl) (?_ : TZ (d + 1) 113 15 [some (.inr 0), some (.inl x1), some (.inr 19), some (.inl x3)] [.inl 8, .inl x3] Z (zrv Q))
  obtain ⟨c1, v1, v2⟩ := v
  refine z_if2 (a := 4) (t := 45) (by rfl) (by rfl) c1 (by decide) (fun h2 => ?_) (fun h2 => ?_)
  · have v := v1 h2; clear v1 v2
    show TZ (d + 1) 113 45 [some (.inr 0), some (.inl x1), some (.inr 19), some (.inl x3)] [] Z (zrv Q)
    exact z_retv (by rfl) (by rfl) v
  · have v := v2 h2; clear v1 v2
    show TZ (d + 1) 113 18 [some (.inr 0), some (.inl x1), some (.inr 19), some (.inl x3)] [] Z (zrv Q)
    refine z0 (op := 5) (a := 0) (b := 0) (by rfl) (by rfl) (?_ : TZ (d + 1) 113 19 [some (.inr 0), some (.inl x1), some (.inr 19), some (.inl x3)] [.inr 0] Z (zrv Q))
    refine z_fr (by rfl) fr59_0 (?_ : TZ (d + 1) 113 22 [some (.inr 0), some (.inl x1), some (.inr 19), some (.inl x3)] [.inr 44] Z (zrv Q))
    refine z0 (op := 3) (a := 3) (b := 0) (by rfl) (by rfl) (?_ : TZ (d + 1) 113 23 [some (.inr 0), some (.inl x1), some (.inr 19), some (.inl x3)] [.inl x3, .inr 44] Z (zrv Q))
    refine z0 (op := 16) (a := 0) (b := 0) (by rfl) (by rfl) (?_ : TZ (d + 1) 113 24 [some (.inr 0), some (.inl x1), some (.inr 19), some (.inl x3)] [.inl x3, .inr 44, .inl x3, .inr 44] Z (zrv Q))
    obtain ⟨c3, v⟩ := v
    refine z_al (by rfl) ln_44 c3 (?_ : TZ (d + 1) 113 25 [some (.inr 0), some (.inl x1), some (.inr 19), some (.inl x3)] [.inl (Z 44 x3), .inl x3, .inr 44] Z (zrv Q))
    refine z0 (op := 0) (a := 0) (b := 1) (by rfl) (by rfl) (?_ : TZ (d + 1) 113 26 [some (.inr 0), some (.inl x1), some (.inr 19), some (.inl x3)] [.inl 1, .inl (Z 44 x3), .inl x3, .inr 44] Z (zrv Q))
    refine z0 (op := 5) (a := 2) (b := 0) (by rfl) (by rfl) (?_ : TZ (d + 1) 113 27 [some (.inr 0), some (.inl x1), some (.inr 19), some (.inl x3)] [.inr 19, .inl 1, .inl (Z 44 x3), .inl x3, .inr 44] Z (zrv Q))
    refine z_vi (by rfl) (by rfl) cl_19 (TI.mono v fun r5 Z4 v => ?_)
    show TZ (d + 1) 113 30 [some (.inr 0), some (.inl x1), some (.inr 19), some (.inl x3)] [.inl r5, .inl 1, .inl (Z 44 x3), .inl x3, .inr 44] Z4 (zrv Q)
    refine z0 (op := 12) (a := 6) (b := 0) (by rfl) (by rfl) (?_ : TZ (d + 1) 113 31 [some (.inr 0), some (.inl x1), some (.inr 19), some (.inl x3)] [.inl (zbit 6 1 r5), .inl (Z 44 x3), .inl x3, .inr 44] Z4 (zrv Q))
    refine z0 (op := 12) (a := 4) (b := 0) (by rfl) (by rfl) (?_ : TZ (d + 1) 113 32 [some (.inr 0), some (.inl x1), some (.inr 19), some (.inl x3)] [.inl (zbit 4 (Z 44 x3) (zbit 6 1 r5)), .inl x3, .inr 44] Z4 (zrv Q))
    obtain ⟨c6, v⟩ := v
    obtain ⟨Z7, eZ7⟩ : ∃ zz, zz = zup Z4 44 x3 (zbit 4 (Z 44 x3) (zbit 6 1 r5)) := ⟨_, rfl⟩
    have v := v Z7 eZ7
    refine z_as (by rfl) ln_44 c6 ?_
    show TZ (d + 1) 113 33 [some (.inr 0), some (.inl x1), some (.inr 19), some (.inl x3)] [] (zup Z4 44 x3 (zbit 4 (Z 44 x3) (zbit 6 1 r5))) _
    rw [← eZ7]
    refine z0 (op := 5) (a := 2) (b := 0) (by rfl) (by rfl) (?_ : TZ (d + 1) 113 34 [some (.inr 0), some (.inl x1), some (.inr 19), some (.inl x3)] [.inr 19] Z7 (zrv Q))
    refine z0 (op := 0) (a := 0) (b := (-1)) (by rfl) (by rfl) (?_ : TZ (d + 1) 113 35 [some (.inr 0), some (.inl x1), some (.inr 19), some (.inl x3)] [.inl (-1), .inr 19] Z7 (zrv Q))
    refine z_vi (by rfl) (by rfl) cl_19 (TI.mono v fun r9 Z8 v => ?_)
    show TZ (d + 1) 113 38 [some (.inr 0), some (.inl x1), some (.inr 19), some (.inl x3)] [.inl r9] Z8 (zrv Q)
    refine z0 (op := 14) (a := 0) (b := 0) (by rfl) (by rfl) (?_ : TZ (d + 1) 113 39 [some (.inr 0), some (.inl x1), some (.inr 19), some (.inl x3)] [] Z8 (zrv Q))
    refine z0 (op := 11) (a := 3) (b := 1) (by rfl) (by rfl) (?_ : TZ (d + 1) 113 42 [some (.inr 0), some (.inl x1), some (.inr 19), some (.inl (x3 + 1))] [] Z8 (zrv Q))
    refine z_goto (t := 12) (by rfl) (by rfl) (?_ : TZ (d + 1) 113 12 [some (.inr 0), some (.inl x1), some (.inr 19), some (.inl (x3 + 1))] [] Z8 (zrv Q))
    exact v
theorem w114_0 {d : Nat} {Z : zM} {Q : Int → zM → Prop}
    (v : TI d 23 [.inr 1] Z (fun r2 Z1 =>
      TZ (d + 1) 114 13 [some (.inr 0), some (.inl r2), some (.inl (-9)), some (.inl 0), none] [] Z1 (zri Q))) :
    TZ (d + 1) 114 0 [some (.inr 0), none, none, none, none] [] Z (zri Q) := by
  refine z0 (op := 5) (a := 0) (b := 0) (by rfl) (by rfl) (?_ : TZ (d + 1) 114 1 [some (.inr 0), none, none, none, none] [.inr 0] Z (zri Q))
  refine z_fr (by rfl) fr50_0 (?_ : TZ (d + 1) 114 4 [some (.inr 0), none, none, none, none] [.inr 1] Z (zri Q))
  refine z_vi (by rfl) (by rfl) cl_1 (TI.mono v fun r2 Z1 v => ?_)
  show TZ (d + 1) 114 7 [some (.inr 0), none, none, none, none] [.inl r2] Z1 (zri Q)
  refine z0 (op := 7) (a := 1) (b := 0) (by rfl) (by rfl) (?_ : TZ (d + 1) 114 8 [some (.inr 0), some (.inl r2), none, none, none] [] Z1 (zri Q))
  refine z0 (op := 1) (a := 0) (b := (-9)) (by rfl) (by rfl) (?_ : TZ (d + 1) 114 10 [some (.inr 0), some (.inl r2), none, none, none] [.inl (-9)] Z1 (zri Q))
  refine z0 (op := 7) (a := 2) (b := 0) (by rfl) (by rfl) (?_ : TZ (d + 1) 114 11 [some (.inr 0), some (.inl r2), some (.inl (-9)), none, none] [] Z1 (zri Q))
  refine z0 (op := 0) (a := 0) (b := 0) (by rfl) (by rfl) (?_ : TZ (d + 1) 114 12 [some (.inr 0), some (.inl r2), some (.inl (-9)), none, none] [.inl 0] Z1 (zri Q))
  refine z0 (op := 7) (a := 3) (b := 0) (by rfl) (by rfl) (?_ : TZ (d + 1) 114 13 [some (.inr 0), some (.inl r2), some (.inl (-9)), some (.inl 0), none] [] Z1 (zri Q))
  exact v
theorem w114_13 {d : Nat} {x1 x2 x3 : Int} {o4 : Option zV} {Z : zM} {Q : Int → zM → Prop}
    (v : zR x3 ∧
      zR (Z 1 6) ∧
      ((Z 1 6) ≤ x3 → Q x2 Z) ∧
      (¬ (Z 1 6) ≤ x3 → TR d 97 [.inr 0] Z (fun r5 Z4 =>
          r5 = 19 ∧
            TI d 32 [.inr 19, .inl x3] Z4 (fun r7 Z6 =>
            TI d 23 [.inr 19] Z6 (fun r9 Z8 =>
              zR r9 ∧
                zR x1 ∧
                (x1 ≤ r9 → TZ (d + 1) 114 13 [some (.inr 0), some (.inl x1), some (.inl x2), some (.inl (x3 + 1)), some (.inr 19)] [] Z8 (zri Q)) ∧
                (¬ x1 ≤ r9 → TI d 23 [.inr 19] Z8 (fun r14 Z13 =>
                    TZ (d + 1) 114 13 [some (.inr 0), some (.inl r14), some (.inl x3), some (.inl (x3 + 1)), some (.inr 19)] [] Z13 (zri Q)))))))) :
    TZ (d + 1) 114 13 [some (.inr 0), some (.inl x1), some (.inl x2), some (.inl x3), o4] [] Z (zri Q) := by
  refine z0 (op := 3) (a := 3) (b := 0) (by rfl) (by rfl) (?_ : TZ (d + 1) 114 14 [some (.inr 0), some (.inl x1), some (.inl x2), some (.inl x3), o4] [.inl x3] Z (zri Q))
  refine z0 (op := 5) (a := 0) (b := 0) (by rfl) (by rfl) (?_ : TZ (d + 1) 114 15 [some (.inr 0), some (.inl x1), some (.inl x2), some (.inl x3), o4] [.inr 0, .inl x3] Z (zri Q))
  refine z_fr (by rfl) fr50_0 (?_ : TZ (d + 1) 114 18 [some (.inr 0), some (.inl x1), some (.inl x2), some (.inl x3), o4] [.inr 1, .inl x3] Z (zri Q))
  refine z_fi (by rfl) fi69_1 (?_ : TZ (d + 1) 114 21 [some (.inr 0), some (.inl x1), some (.inl x2), some (.inl x3), o4] [.inl (Z 1 6), .inl x3] Z (zri Q))
  obtain ⟨c1, c2, v1, v2⟩ := v
  refine z_if2 (a := 3) (t := 60) (by rfl) (by rfl) c1 c2 (fun h3 => ?_) (fun h3 => ?_)
  · have v := v1 h3; clear v1 v2
    show TZ (d + 1) 114 60 [some (.inr 0), some (.inl x1), some (.inl x2), some (.inl x3), o4] [] Z (zri Q)
    refine z0 (op := 3) (a := 2) (b := 0) (by rfl) (by rfl) (?_ : TZ (d + 1) 114 61 [some (.inr 0), some (.inl x1), some (.inl x2), some (.inl x3), o4] [.inl x2] Z (zri Q))
    exact z_reti (by rfl) (by rfl) v
  · have v := v2 h3; clear v1 v2
    show TZ (d + 1) 114 24 [some (.inr 0), some (.inl x1), some (.inl x2), some (.inl x3), o4] [] Z (zri Q)
    refine z0 (op := 5) (a := 0) (b := 0) (by rfl) (by rfl) (?_ : TZ (d + 1) 114 25 [some (.inr 0), some (.inl x1), some (.inl x2), some (.inl x3), o4] [.inr 0] Z (zri Q))
    refine z_vr (by rfl) (by rfl) cl_0 (TR.mono v fun r5 Z4 v => ?_)
    obtain ⟨er5, v⟩ := v
    subst er5
    show TZ (d + 1) 114 28 [some (.inr 0), some (.inl x1), some (.inl x2), some (.inl x3), o4] [.inr 19] Z4 (zri Q)
    refine z0 (op := 10) (a := 4) (b := 0) (by rfl) (by rfl) (?_ : TZ (d + 1) 114 30 [some (.inr 0), some (.inl x1), some (.inl x2), some (.inl x3), some (.inr 19)] [] Z4 (zri Q))
    refine z0 (op := 6) (a := 4) (b := 0) (by rfl) (by rfl) (?_ : TZ (d + 1) 114 32 [some (.inr 0), some (.inl x1), some (.inl x2), some (.inl x3), some (.inr 19)] [.inr 19] Z4 (zri Q))
    refine z0 (op := 3) (a := 3) (b := 0) (by rfl) (by rfl) (?_ : TZ (d + 1) 114 33 [some (.inr 0), some (.inl x1), some (.inl x2), some (.inl x3), some (.inr 19)] [.inl x3, .inr 19] Z4 (zri Q))
    refine z_vi (by rfl) (by rfl) cl_19 (TI.mono v fun r7 Z6 v => ?_)
    show TZ (d + 1) 114 36 [some (.inr 0), some (.inl x1), some (.inl x2), some (.inl x3), some (.inr 19)] [.inl r7] Z6 (zri Q)
    refine z0 (op := 14) (a := 0) (b := 0) (by rfl) (by rfl) (?_ : TZ (d + 1) 114 37 [some (.inr 0), some (.inl x1), some (.inl x2), some (.inl x3), some (.inr 19)] [] Z6 (zri Q))
    refine z0 (op := 6) (a := 4) (b := 0) (by rfl) (by rfl) (?_ : TZ (d + 1) 114 39 [some (.inr 0), some (.inl x1), some (.inl x2), some (.inl x3), some (.inr 19)] [.inr 19] Z6 (zri Q))
    refine z_vi (by rfl) (by rfl) cl_19 (TI.mono v fun r9 Z8 v => ?_)
    show TZ (d + 1) 114 42 [some (.inr 0), some (.inl x1), some (.inl x2), some (.inl x3), some (.inr 19)] [.inl r9] Z8 (zri Q)
    refine z0 (op := 3) (a := 1) (b := 0) (by rfl) (by rfl) (?_ : TZ (d + 1) 114 43 [some (.inr 0), some (.inl x1), some (.inl x2), some (.inl x3), some (.inr 19)] [.inl x1, .inl r9] Z8 (zri Q))
    obtain ⟨c10, c11, v1, v2⟩ := v
    refine z_if2 (a := 3) (t := 54) (by rfl) (by rfl) c10 c11 (fun h12 => ?_) (fun h12 => ?_)
    · have v := v1 h12; clear v1 v2
      show TZ (d + 1) 114 54 [some (.inr 0), some (.inl x1), some (.inl x2), some (.inl x3), some (.inr 19)] [] Z8 (zri Q)
      refine z0 (op := 11) (a := 3) (b := 1) (by rfl) (by rfl) (?_ : TZ (d + 1) 114 57 [some (.inr 0), some (.inl x1), some (.inl x2), some (.inl (x3 + 1)), some (.inr 19)] [] Z8 (zri Q))
      refine z_goto (t := 13) (by rfl) (by rfl) (?_ : TZ (d + 1) 114 13 [some (.inr 0), some (.inl x1), some (.inl x2), some (.inl (x3 + 1)), some (.inr 19)] [] Z8 (zri Q))
      exact v
    · have v := v2 h12; clear v1 v2
      show TZ (d + 1) 114 46 [some (.inr 0), some (.inl x1), some (.inl x2), some (.inl x3), some (.inr 19)] [] Z8 (zri Q)
      refine z0 (op := 6) (a := 4) (b := 0) (by rfl) (by rfl) (?_ : TZ (d + 1) 114 48 [some (.inr 0), some (.inl x1), some (.inl x2), some (.inl x3), some (.inr 19)] [.inr 19] Z8 (zri Q))
      refine z_vi (by rfl) (by rfl) cl_19 (TI.mono v fun r14 Z13 v => ?_)
      show TZ (d + 1) 114 51 [some (.inr 0), some (.inl x1), some (.inl x2), some (.inl x3), some (.inr 19)] [.inl r14] Z13 (zri Q)
      refine z0 (op := 7) (a := 1) (b := 0) (by rfl) (by rfl) (?_ : TZ (d + 1) 114 52 [some (.inr 0), some (.inl r14), some (.inl x2), some (.inl x3), some (.inr 19)] [] Z13 (zri Q))
      refine z0 (op := 3) (a := 3) (b := 0) (by rfl) (by rfl) (?_ : TZ (d + 1) 114 53 [some (.inr 0), some (.inl r14), some (.inl x2), some (.inl x3), some (.inr 19)] [.inl x3] Z13 (zri Q))
      refine z0 (op := 7) (a := 2) (b := 0) (by rfl) (by rfl) (?_ : TZ (d + 1) 114 54 [some (.inr 0), some (.inl r14), some (.inl x3), some (.inl x3), some (.inr 19)] [] Z13 (zri Q))
      refine z0 (op := 11) (a := 3) (b := 1) (by rfl) (by rfl) (?_ : TZ (d + 1) 114 57 [some (.inr 0), some (.inl r14), some (.inl x3), some (.inl (x3 + 1)), some (.inr 19)] [] Z13 (zri Q))
      refine z_goto (t := 13) (by rfl) (by rfl) (?_ : TZ (d + 1) 114 13 [some (.inr 0), some (.inl r14), some (.inl x3), some (.inl (x3 + 1)), some (.inr 19)] [] Z13 (zri Q))
      exact v
theorem w115_0 {d : Nat} {x1 x2 x3 : Int} {Z : zM} {Q : Int → zM → Prop}
    (v : TI d 73 [.inl x1, .inl 1, .inl 20] Z (fun r2 Z1 =>
      TI d 75 [.inl x3, .inl 1] Z1 (fun r4 Z3 =>
        TI d 72 [.inl r2, .inl r4] Z3 (fun r6 Z5 =>
          zR r6 ∧
            (r6 = 0 → TR d 97 [.inr 0] Z5 (fun r10 Z9 =>
                r10 = 19 ∧ TZ (d + 1) 115 47 [some (.inr 0), some (.inl x1), some (.inl x2), some (.inl x3), some (.inl r6), some (.inr 19), some (.inl x2), some (.inl 0), some (.inl 0), some (.inl 0)] [] Z9 (zri Q))) ∧
            (¬ r6 = 0 → TI d 71 [.inr 0, .inl r6] Z5 (fun r12 Z11 =>
                Q r12 Z11)))))) :
    TZ (d + 1) 115 0 [some (.inr 0), some (.inl x1), some (.inl x2), some (.inl x3), none, none, none, none, none, none] [] Z (zri Q) := by
  refine z0 (op := 3) (a := 1) (b := 0) (by rfl) (by rfl) (?_ : TZ (d + 1) 115 1 [some (.inr 0), some (.inl x1), some (.inl x2), some (.inl x3), none, none, none, none, none, none] [.inl x1] Z (zri Q))
  refine z0 (op := 0) (a := 0) (b := 1) (by rfl) (by rfl) (?_ : TZ (d + 1) 115 2 [some (.inr 0), some (.inl x1), some (.inl x2), some (.inl x3), none, none, none, none, none, none] [.inl 1, .inl x1] Z (zri Q))
  refine z0 (op := 1) (a := 0) (b := 20) (by rfl) (by rfl) (?_ : TZ (d + 1) 115 4 [some (.inr 0), some (.inl x1), some (.inl x2), some (.inl x3), none, none, none, none, none, none] [.inl 20, .inl 1, .inl x1] Z (zri Q))
  refine z_si (by rfl) (by rfl) (TI.mono v fun r2 Z1 v => ?_)
  show TZ (d + 1) 115 7 [some (.inr 0), some (.inl x1), some (.inl x2), some (.inl x3), none, none, none, none, none, none] [.inl r2] Z1 (zri Q)
  refine z0 (op := 3) (a := 3) (b := 0) (by rfl) (by rfl) (?_ : TZ (d + 1) 115 8 [some (.inr 0), some (.inl x1), some (.inl x2), some (.inl x3), none, none, none, none, none, none] [.inl x3, .inl r2] Z1 (zri Q))
  refine z0 (op := 0) (a := 0) (b := 1) (by rfl) (by rfl) (?_ : TZ (d + 1) 115 9 [some (.inr 0), some (.inl x1), some (.inl x2), some (.inl x3), none, none, none, none, none, none] [.inl 1, .inl x3, .inl r2] Z1 (zri Q))
  refine z_si (by rfl) (by rfl) (TI.mono v fun r4 Z3 v => ?_)
  show TZ (d + 1) 115 12 [some (.inr 0), some (.inl x1), some (.inl x2), some (.inl x3), none, none, none, none, none, none] [.inl r4, .inl r2] Z3 (zri Q)
  refine z_si (by rfl) (by rfl) (TI.mono v fun r6 Z5 v => ?_)
  show TZ (d + 1) 115 15 [some (.inr 0), some (.inl x1), some (.inl x2), some (.inl x3), none, none, none, none, none, none] [.inl r6] Z5 (zri Q)
  refine z0 (op := 8) (a := 4) (b := 0) (by rfl) (by rfl) (?_ : TZ (d + 1) 115 17 [some (.inr 0), some (.inl x1), some (.inl x2), some (.inl x3), some (.inl r6), none, none, none, none, none] [] Z5 (zri Q))
  refine z0 (op := 4) (a := 4) (b := 0) (by rfl) (by rfl) (?_ : TZ (d + 1) 115 19 [some (.inr 0), some (.inl x1), some (.inl x2), some (.inl x3), some (.inl r6), none, none, none, none, none] [.inl r6] Z5 (zri Q))
  obtain ⟨c7, v1, v2⟩ := v
  refine z_if0 (a := 0) (t := 29) (by rfl) (by rfl) c7 (fun h8 => ?_) (fun h8 => ?_)
  · have v := v1 h8; clear v1 v2
    show TZ (d + 1) 115 29 [some (.inr 0), some (.inl x1), some (.inl x2), some (.inl x3), some (.inl r6), none, none, none, none, none] [] Z5 (zri Q)
    refine z0 (op := 5) (a := 0) (b := 0) (by rfl) (by rfl) (?_ : TZ (d + 1) 115 30 [some (.inr 0), some (.inl x1), some (.inl x2), some (.inl x3), some (.inl r6), none, none, none, none, none] [.inr 0] Z5 (zri Q))
    refine z_vr (by rfl) (by rfl) cl_0 (TR.mono v fun r10 Z9 v => ?_)
    obtain ⟨er10, v⟩ := v
    subst er10
    show TZ (d + 1) 115 33 [some (.inr 0), some (.inl x1), some (.inl x2), some (.inl x3), some (.inl r6), none, none, none, none, none] [.inr 19] Z9 (zri Q)
    refine z0 (op := 10) (a := 5) (b := 0) (by rfl) (by rfl) (?_ : TZ (d + 1) 115 35 [some (.inr 0), some (.inl x1), some (.inl x2), some (.inl x3), some (.inl r6), some (.inr 19), none, none, none, none] [] Z9 (zri Q))
    refine z0 (op := 3) (a := 2) (b := 0) (by rfl) (by rfl) (?_ : TZ (d + 1) 115 36 [some (.inr 0), some (.inl x1), some (.inl x2), some (.inl x3), some (.inl r6), some (.inr 19), none, none, none, none] [.inl x2] Z9 (zri Q))
    refine z0 (op := 8) (a := 6) (b := 0) (by rfl) (by rfl) (?_ : TZ (d + 1) 115 38 [some (.inr 0), some (.inl x1), some (.inl x2), some (.inl x3), some (.inl r6), some (.inr 19), some (.inl x2), none, none, none] [] Z9 (zri Q))
    refine z0 (op := 0) (a := 0) (b := 0) (by rfl) (by rfl) (?_ : TZ (d + 1) 115 39 [some (.inr 0), some (.inl x1), some (.inl x2), some (.inl x3), some (.inl r6), some (.inr 19), some (.inl x2), none, none, none] [.inl 0] Z9 (zri Q))
    refine z0 (op := 8) (a := 7) (b := 0) (by rfl) (by rfl) (?_ : TZ (d + 1) 115 41 [some (.inr 0), some (.inl x1), some (.inl x2), some (.inl x3), some (.inl r6), some (.inr 19), some (.inl x2), some (.inl 0), none, none] [] Z9 (zri Q))
    refine z0 (op := 0) (a := 0) (b := 0) (by rfl) (by rfl) (?_ : TZ (d + 1) 115 42 [some (.inr 0), some (.inl x1), some (.inl x2), some (.inl x3), some (.inl r6), some (.inr 19), some (.inl x2), some (.inl 0), none, none] [.inl 0] Z9 (zri Q))
    refine z0 (op := 8) (a := 8) (b := 0) (by rfl) (by rfl) (?_ : TZ (d + 1) 115 44 [some (.inr 0), some (.inl x1), some (.inl x2), some (.inl x3), some (.inl r6), some (.inr 19), some (.inl x2), some (.inl 0), some (.inl 0), none] [] Z9 (zri Q))
    refine z0 (op := 0) (a := 0) (b := 0) (by rfl) (by rfl) (?_ : TZ (d + 1) 115 45 [some (.inr 0), some (.inl x1), some (.inl x2), some (.inl x3), some (.inl r6), some (.inr 19), some (.inl x2), some (.inl 0), some (.inl 0), none] [.inl 0] Z9 (zri Q))
    refine z0 (op := 8) (a := 9) (b := 0) (by rfl) (by rfl) (?_ : TZ (d + 1) 115 47 [some (.inr 0), some (.inl x1), some (.inl x2), some (.inl x3), some (.inl r6), some (.inr 19), some (.inl x2), some (.inl 0), some (.inl 0), some (.inl 0)] [] Z9 (zri Q))
    exact v
  · have v := v2 h8; clear v1 v2
    show TZ (d + 1) 115 22 [some (.inr 0), some (.inl x1), some (.inl x2), some (.inl x3), some (.inl r6), none, none, none, none, none] [] Z5 (zri Q)
    refine z0 (op := 5) (a := 0) (b := 0) (by rfl) (by rfl) (?_ : TZ (d + 1) 115 23 [some (.inr 0), some (.inl x1), some (.inl x2), some (.inl x3), some (.inl r6), none, none, none, none, none] [.inr 0] Z5 (zri Q))
    refine z0 (op := 4) (a := 4) (b := 0) (by rfl) (by rfl) (?_ : TZ (d + 1) 115 25 [some (.inr 0), some (.inl x1), some (.inl x2), some (.inl x3), some (.inl r6), none, none, none, none, none] [.inl r6, .inr 0] Z5 (zri Q))
    refine z_vi (by rfl) (by rfl) cl_0 (TI.mono v fun r12 Z11 v => ?_)
    show TZ (d + 1) 115 28 [some (.inr 0), some (.inl x1), some (.inl x2), some (.inl x3), some (.inl r6), none, none, none, none, none] [.inl r12] Z11 (zri Q)
    exact z_reti (by rfl) (by rfl) v
theorem w115_47 {d : Nat} {x1 x2 x3 x4 x6 x7 x8 x9 : Int} {Z : zM} {Q : Int → zM → Prop}
    (v : zR x9 ∧
      zR (20 * x1) ∧
      ((20 * x1) ≤ x9 → (zR x3 ∧
          (x3 ≠ 0 → Q x8 Z) ∧
          (¬ x3 ≠ 0 → Q x7 Z))) ∧
      (¬ (20 * x1) ≤ x9 → (zR (zbit 3 ((x6 * 1103515245) + 12345) 2147483647) ∧
          zR (Int.tdiv (zbit 3 ((x6 * 1103515245) + 12345) 2147483647) 65536) ∧
          TV d 31 [.inr 19, .inl (Int.tmod (Int.tdiv (zbit 3 ((x6 * 1103515245) + 12345) 2147483647) 65536) 8)] Z (fun Z8 =>
          TI d 25 [.inr 19, .inl (-1)] Z8 (fun r10 Z9 =>
            TI d 23 [.inr 19] Z9 (fun r12 Z11 =>
              TI d 23 [.inr 19] Z11 (fun r14 Z13 =>
                zR r14 ∧
                  (r14 ≠ 0 → TZ (d + 1) 115 47 [some (.inr 0), some (.inl x1), some (.inl x2), some (.inl x3), some (.inl x4), some (.inr 19), some (.inl ((x6 * 1103515245) + 12345)), some (.inl (x7 + r12)), some (.inl x8), some (.inl (x9 + 1))] [] Z13 (zri Q)) ∧
                  (¬ r14 ≠ 0 → TZ (d + 1) 115 47 [some (.inr 0), some (.inl x1), some (.inl x2), some (.inl x3), some (.inl x4), some (.inr 19), some (.inl ((x6 * 1103515245) + 12345)), some (.inl (x7 + r12)), some (.inl (x8 + 1)), some (.inl (x9 + 1))] [] Z13 (zri Q))))))))) :
    TZ (d + 1) 115 47 [some (.inr 0), some (.inl x1), some (.inl x2), some (.inl x3), some (.inl x4), some (.inr 19), some (.inl x6), some (.inl x7), some (.inl x8), some (.inl x9)] [] Z (zri Q) := by
  refine z0 (op := 4) (a := 9) (b := 0) (by rfl) (by rfl) (?_ : TZ (d + 1) 115 49 [some (.inr 0), some (.inl x1), some (.inl x2), some (.inl x3), some (.inl x4), some (.inr 19), some (.inl x6), some (.inl x7), some (.inl x8), some (.inl x9)] [.inl x9] Z (zri Q))
  refine z0 (op := 1) (a := 0) (b := 20) (by rfl) (by rfl) (?_ : TZ (d + 1) 115 51 [some (.inr 0), some (.inl x1), some (.inl x2), some (.inl x3), some (.inl x4), some (.inr 19), some (.inl x6), some (.inl x7), some (.inl x8), some (.inl x9)] [.inl 20, .inl x9] Z (zri Q))
  refine z0 (op := 3) (a := 1) (b := 0) (by rfl) (by rfl) (?_ : TZ (d + 1) 115 52 [some (.inr 0), some (.inl x1), some (.inl x2), some (.inl x3), some (.inl x4), some (.inr 19), some (.inl x6), some (.inl x7), some (.inl x8), some (.inl x9)] [.inl x1, .inl 20, .inl x9] Z (zri Q))
  refine z0 (op := 12) (a := 2) (b := 0) (by rfl) (by rfl) (?_ : TZ (d + 1) 115 53 [some (.inr 0), some (.inl x1), some (.inl x2), some (.inl x3), some (.inl x4), some (.inr 19), some (.inl x6), some (.inl x7), some (.inl x8), some (.inl x9)] [.inl (20 * x1), .inl x9] Z (zri Q))
  obtain ⟨c1, c2, v1, v2⟩ := v
  refine z_if2 (a := 3) (t := 120) (by rfl) (by rfl) c1 c2 (fun h3 => ?_) (fun h3 => ?_)
  · have v := v1 h3; clear v1 v2
    show TZ (d + 1) 115 120 [some (.inr 0), some (.inl x1), some (.inl x2), some (.inl x3), some (.inl x4), some (.inr 19), some (.inl x6), some (.inl x7), some (.inl x8), some (.inl x9)] [] Z (zri Q)
    refine z0 (op := 3) (a := 3) (b := 0) (by rfl) (by rfl) (?_ : TZ (d + 1) 115 121 [some (.inr 0), some (.inl x1), some (.inl x2), some (.inl x3), some (.inl x4), some (.inr 19), some (.inl x6), some (.inl x7), some (.inl x8), some (.inl x9)] [.inl x3] Z (zri Q))
    obtain ⟨c4, v1, v2⟩ := v
    refine z_if0 (a := 1) (t := 129) (by rfl) (by rfl) c4 (fun h5 => ?_) (fun h5 => ?_)
    · have v := v1 h5; clear v1 v2
      show TZ (d + 1) 115 129 [some (.inr 0), some (.inl x1), some (.inl x2), some (.inl x3), some (.inl x4), some (.inr 19), some (.inl x6), some (.inl x7), some (.inl x8), some (.inl x9)] [] Z (zri Q)
      refine z0 (op := 4) (a := 8) (b := 0) (by rfl) (by rfl) (?_ : TZ (d + 1) 115 131 [some (.inr 0), some (.inl x1), some (.inl x2), some (.inl x3), some (.inl x4), some (.inr 19), some (.inl x6), some (.inl x7), some (.inl x8), some (.inl x9)] [.inl x8] Z (zri Q))
      exact z_reti (by rfl) (by rfl) v
    · have v := v2 h5; clear v1 v2
      show TZ (d + 1) 115 124 [some (.inr 0), some (.inl x1), some (.inl x2), some (.inl x3), some (.inl x4), some (.inr 19), some (.inl x6), some (.inl x7), some (.inl x8), some (.inl x9)] [] Z (zri Q)
      refine z0 (op := 4) (a := 7) (b := 0) (by rfl) (by rfl) (?_ : TZ (d + 1) 115 126 [some (.inr 0), some (.inl x1), some (.inl x2), some (.inl x3), some (.inl x4), some (.inr 19), some (.inl x6), some (.inl x7), some (.inl x8), some (.inl x9)] [.inl x7] Z (zri Q))
      refine z_goto (t := 131) (by rfl) (by rfl) (?_ : TZ (d + 1) 115 131 [some (.inr 0), some (.inl x1), some (.inl x2), some (.inl x3), some (.inl x4), some (.inr 19), some (.inl x6), some (.inl x7), some (.inl x8), some (.inl x9)] [.inl x7] Z (zri Q))
      exact z_reti (by rfl) (by rfl) v
  · have v := v2 h3; clear v1 v2
    show TZ (d + 1) 115 56 [some (.inr 0), some (.inl x1), some (.inl x2), some (.inl x3), some (.inl x4), some (.inr 19), some (.inl x6), some (.inl x7), some (.inl x8), some (.inl x9)] [] Z (zri Q)
    refine z0 (op := 4) (a := 6) (b := 0) (by rfl) (by rfl) (?_ : TZ (d + 1) 115 58 [some (.inr 0), some (.inl x1), some (.inl x2), some (.inl x3), some (.inl x4), some (.inr 19), some (.inl x6), some (.inl x7), some (.inl x8), some (.inl x9)] [.inl x6] Z (zri Q))
    refine z_con (op := 1) (a := 8) (b := 0) (by rfl) (by rfl) (by decide) (?_ : TZ (d + 1) 115 61 [some (.inr 0), some (.inl x1), some (.inl x2), some (.inl x3), some (.inl x4), some (.inr 19), some (.inl x6), some (.inl x7), some (.inl x8), some (.inl x9)] [.inl 1103515245, .inl x6] Z (zri Q))
    refine z0 (op := 12) (a := 2) (b := 0) (by rfl) (by rfl) (?_ : TZ (d + 1) 115 62 [some (.inr 0), some (.inl x1), some (.inl x2), some (.inl x3), some (.inl x4), some (.inr 19), some (.inl x6), some (.inl x7), some (.inl x8), some (.inl x9)] [.inl (x6 * 1103515245)] Z (zri Q))
    refine z0 (op := 2) (a := 0) (b := 12345) (by rfl) (by rfl) (?_ : TZ (d + 1) 115 65 [some (.inr 0), some (.inl x1), some (.inl x2), some (.inl x3), some (.inl x4), some (.inr 19), some (.inl x6), some (.inl x7), some (.inl x8), some (.inl x9)] [.inl 12345, .inl (x6 * 1103515245)] Z (zri Q))
    refine z0 (op := 12) (a := 0) (b := 0) (by rfl) (by rfl) (?_ : TZ (d + 1) 115 66 [some (.inr 0), some (.inl x1), some (.inl x2), some (.inl x3), some (.inl x4), some (.inr 19), some (.inl x6), some (.inl x7), some (.inl x8), some (.inl x9)] [.inl ((x6 * 1103515245) + 12345)] Z (zri Q))
    refine z0 (op := 8) (a := 6) (b := 0) (by rfl) (by rfl) (?_ : TZ (d + 1) 115 68 [some (.inr 0), some (.inl x1), some (.inl x2), some (.inl x3), some (.inl x4), some (.inr 19), some (.inl ((x6 * 1103515245) + 12345)), some (.inl x7), some (.inl x8), some (.inl x9)] [] Z (zri Q))
    refine z0 (op := 6) (a := 5) (b := 0) (by rfl) (by rfl) (?_ : TZ (d + 1) 115 70 [some (.inr 0), some (.inl x1), some (.inl x2), some (.inl x3), some (.inl x4), some (.inr 19), some (.inl ((x6 * 1103515245) + 12345)), some (.inl x7), some (.inl x8), some (.inl x9)] [.inr 19] Z (zri Q))
    refine z0 (op := 4) (a := 6) (b := 0) (by rfl) (by rfl) (?_ : TZ (d + 1) 115 72 [some (.inr 0), some (.inl x1), some (.inl x2), some (.inl x3), some (.inl x4), some (.inr 19), some (.inl ((x6 * 1103515245) + 12345)), some (.inl x7), some (.inl x8), some (.inl x9)] [.inl ((x6 * 1103515245) + 12345), .inr 19] Z (zri Q))
    refine z_con (op := 1) (a := 9) (b := 0) (by rfl) (by rfl) (by decide) (?_ : TZ (d + 1) 115 75 [some (.inr 0), some (.inl x1), some (.inl x2), some (.inl x3), some (.inl x4), some (.inr 19), some (.inl ((x6 * 1103515245) + 12345)), some (.inl x7), some (.inl x8), some (.inl x9)] [.inl 2147483647, .inl ((x6 * 1103515245) + 12345), .inr 19] Z (zri Q))
    refine z0 (op := 12) (a := 3) (b := 0) (by rfl) (by rfl) (?_ : TZ (d + 1) 115 76 [some (.inr 0), some (.inl x1), some (.inl x2), some (.inl x3), some (.inl x4), some (.inr 19), some (.inl ((x6 * 1103515245) + 12345)), some (.inl x7), some (.inl x8), some (.inl x9)] [.inl (zbit 3 ((x6 * 1103515245) + 12345) 2147483647), .inr 19] Z (zri Q))
    refine z_con (op := 1) (a := 10) (b := 0) (by rfl) (by rfl) (by decide) (?_ : TZ (d + 1) 115 79 [some (.inr 0), some (.inl x1), some (.inl x2), some (.inl x3), some (.inl x4), some (.inr 19), some (.inl ((x6 * 1103515245) + 12345)), some (.inl x7), some (.inl x8), some (.inl x9)] [.inl 65536, .inl (zbit 3 ((x6 * 1103515245) + 12345) 2147483647), .inr 19] Z (zri Q))
    obtain ⟨c6, v⟩ := v
    refine z_div (by rfl) c6 (by decide) (?_ : TZ (d + 1) 115 80 [some (.inr 0), some (.inl x1), some (.inl x2), some (.inl x3), some (.inl x4), some (.inr 19), some (.inl ((x6 * 1103515245) + 12345)), some (.inl x7), some (.inl x8), some (.inl x9)] [.inl (Int.tdiv (zbit 3 ((x6 * 1103515245) + 12345) 2147483647) 65536), .inr 19] Z (zri Q))
    refine z0 (op := 1) (a := 0) (b := 8) (by rfl) (by rfl) (?_ : TZ (d + 1) 115 82 [some (.inr 0), some (.inl x1), some (.inl x2), some (.inl x3), some (.inl x4), some (.inr 19), some (.inl ((x6 * 1103515245) + 12345)), some (.inl x7), some (.inl x8), some (.inl x9)] [.inl 8, .inl (Int.tdiv (zbit 3 ((x6 * 1103515245) + 12345) 2147483647) 65536), .inr 19] Z (zri Q))
    obtain ⟨c7, v⟩ := v
    refine z_rem (by rfl) c7 (by decide) (?_ : TZ (d + 1) 115 83 [some (.inr 0), some (.inl x1), some (.inl x2), some (.inl x3), some (.inl x4), some (.inr 19), some (.inl ((x6 * 1103515245) + 12345)), some (.inl x7), some (.inl x8), some (.inl x9)] [.inl (Int.tmod (Int.tdiv (zbit 3 ((x6 * 1103515245) + 12345) 2147483647) 65536) 8), .inr 19] Z (zri Q))
    refine z_vv (by rfl) (by rfl) cl_19 (TV.mono v fun Z8 v => ?_)
    show TZ (d + 1) 115 86 [some (.inr 0), some (.inl x1), some (.inl x2), some (.inl x3), some (.inl x4), some (.inr 19), some (.inl ((x6 * 1103515245) + 12345)), some (.inl x7), some (.inl x8), some (.inl x9)] [] Z8 (zri Q)
    refine z0 (op := 6) (a := 5) (b := 0) (by rfl) (by rfl) (?_ : TZ (d + 1) 115 88 [some (.inr 0), some (.inl x1), some (.inl x2), some (.inl x3), some (.inl x4), some (.inr 19), some (.inl ((x6 * 1103515245) + 12345)), some (.inl x7), some (.inl x8), some (.inl x9)] [.inr 19] Z8 (zri Q))
    refine z0 (op := 0) (a := 0) (b := (-1)) (by rfl) (by rfl) (?_ : TZ (d + 1) 115 89 [some (.inr 0), some (.inl x1), some (.inl x2), some (.inl x3), some (.inl x4), some (.inr 19), some (.inl ((x6 * 1103515245) + 12345)), some (.inl x7), some (.inl x8), some (.inl x9)] [.inl (-1), .inr 19] Z8 (zri Q))
    refine z_vi (by rfl) (by rfl) cl_19 (TI.mono v fun r10 Z9 v => ?_)
    show TZ (d + 1) 115 92 [some (.inr 0), some (.inl x1), some (.inl x2), some (.inl x3), some (.inl x4), some (.inr 19), some (.inl ((x6 * 1103515245) + 12345)), some (.inl x7), some (.inl x8), some (.inl x9)] [.inl r10] Z9 (zri Q)
    refine z0 (op := 14) (a := 0) (b := 0) (by rfl) (by rfl) (?_ : TZ (d + 1) 115 93 [some (.inr 0), some (.inl x1), some (.inl x2), some (.inl x3), some (.inl x4), some (.inr 19), some (.inl ((x6 * 1103515245) + 12345)), some (.inl x7), some (.inl x8), some (.inl x9)] [] Z9 (zri Q))
    refine z0 (op := 4) (a := 7) (b := 0) (by rfl) (by rfl) (?_ : TZ (d + 1) 115 95 [some (.inr 0), some (.inl x1), some (.inl x2), some (.inl x3), some (.inl x4), some (.inr 19), some (.inl ((x6 * 1103515245) + 12345)), some (.inl x7), some (.inl x8), some (.inl x9)] [.inl x7] Z9 (zri Q))
    refine z0 (op := 6) (a := 5) (b := 0) (by rfl) (by rfl) (?_ : TZ (d + 1) 115 97 [some (.inr 0), some (.inl x1), some (.inl x2), some (.inl x3), some (.inl x4), some (.inr 19), some (.inl ((x6 * 1103515245) + 12345)), some (.inl x7), some (.inl x8), some (.inl x9)] [.inr 19, .inl x7] Z9 (zri Q))
    refine z_vi (by rfl) (by rfl) cl_19 (TI.mono v fun r12 Z11 v => ?_)
    show TZ (d + 1) 115 100 [some (.inr 0), some (.inl x1), some (.inl x2), some (.inl x3), some (.inl x4), some (.inr 19), some (.inl ((x6 * 1103515245) + 12345)), some (.inl x7), some (.inl x8), some (.inl x9)] [.inl r12, .inl x7] Z11 (zri Q)
    refine z0 (op := 12) (a := 0) (b := 0) (by rfl) (by rfl) (?_ : TZ (d + 1) 115 101 [some (.inr 0), some (.inl x1), some (.inl x2), some (.inl x3), some (.inl x4), some (.inr 19), some (.inl ((x6 * 1103515245) + 12345)), some (.inl x7), some (.inl x8), some (.inl x9)] [.inl (x7 + r12)] Z11 (zri Q))
    refine z0 (op := 8) (a := 7) (b := 0) (by rfl) (by rfl) (?_ : TZ (d + 1) 115 103 [some (.inr 0), some (.inl x1), some (.inl x2), some (.inl x3), some (.inl x4), some (.inr 19), some (.inl ((x6 * 1103515245) + 12345)), some (.inl (x7 + r12)), some (.inl x8), some (.inl x9)] [] Z11 (zri Q))
    refine z0 (op := 6) (a := 5) (b := 0) (by rfl) (by rfl) (?_ : TZ (d + 1) 115 105 [some (.inr 0), some (.inl x1), some (.inl x2), some (.inl x3), some (.inl x4), some (.inr 19), some (.inl ((x6 * 1103515245) + 12345)), some (.inl (x7 + r12)), some (.inl x8), some (.inl x9)] [.inr 19] Z11 (zri Q))
    refine z_vi (by rfl) (by rfl) cl_19 (TI.mono v fun r14 Z13 v => ?_)
    show TZ (d + 1) 115 108 [some (.inr 0), some (.inl x1), some (.inl x2), some (.inl x3), some (.inl x4), some (.inr 19), some (.inl ((x6 * 1103515245) + 12345)), some (.inl (x7 + r12)), some (.inl x8), some (.inl x9)] [.inl r14] Z13 (zri Q)
    obtain ⟨c15, v1, v2⟩ := v
    refine z_if0 (a := 1) (t := 114) (by rfl) (by rfl) c15 (fun h16 => ?_) (fun h16 => ?_)
    · have v := v1 h16; clear v1 v2
      show TZ (d + 1) 115 114 [some (.inr 0), some (.inl x1), some (.inl x2), some (.inl x3), some (.inl x4), some (.inr 19), some (.inl ((x6 * 1103515245) + 12345)), some (.inl (x7 + r12)), some (.inl x8), some (.inl x9)] [] Z13 (zri Q)
      refine z0 (op := 11) (a := 9) (b := 1) (by rfl) (by rfl) (?_ : TZ (d + 1) 115 117 [some (.inr 0), some (.inl x1), some (.inl x2), some (.inl x3), some (.inl x4), some (.inr 19), some (.inl ((x6 * 1103515245) + 12345)), some (.inl (x7 + r12)), some (.inl x8), some (.inl (x9 + 1))] [] Z13 (zri Q))
      refine z_goto (t := 47) (by rfl) (by rfl) (?_ : TZ (d + 1) 115 47 [some (.inr 0), some (.inl x1), some (.inl x2), some (.inl x3), some (.inl x4), some (.inr 19), some (.inl ((x6 * 1103515245) + 12345)), some (.inl (x7 + r12)), some (.inl x8), some (.inl (x9 + 1))] [] Z13 (zri Q))
      exact v
    · have v := v2 h16; clear v1 v2
      show TZ (d + 1) 115 111 [some (.inr 0), some (.inl x1), some (.inl x2), some (.inl x3), some (.inl x4), some (.inr 19), some (.inl ((x6 * 1103515245) + 12345)), some (.inl (x7 + r12)), some (.inl x8), some (.inl x9)] [] Z13 (zri Q)
      refine z0 (op := 11) (a := 8) (b := 1) (by rfl) (by rfl) (?_ : TZ (d + 1) 115 114 [some (.inr 0), some (.inl x1), some (.inl x2), some (.inl x3), some (.inl x4), some (.inr 19), some (.inl ((x6 * 1103515245) + 12345)), some (.inl (x7 + r12)), some (.inl (x8 + 1)), some (.inl x9)] [] Z13 (zri Q))
      refine z0 (op := 11) (a := 9) (b := 1) (by rfl) (by rfl) (?_ : TZ (d + 1) 115 117 [some (.inr 0), some (.inl x1), some (.inl x2), some (.inl x3), some (.inl x4), some (.inr 19), some (.inl ((x6 * 1103515245) + 12345)), some (.inl (x7 + r12)), some (.inl (x8 + 1)), some (.inl (x9 + 1))] [] Z13 (zri Q))
      refine z_goto (t := 47) (by rfl) (by rfl) (?_ : TZ (d + 1) 115 47 [some (.inr 0), some (.inl x1), some (.inl x2), some (.inl x3), some (.inl x4), some (.inr 19), some (.inl ((x6 * 1103515245) + 12345)), some (.inl (x7 + r12)), some (.inl (x8 + 1)), some (.inl (x9 + 1))] [] Z13 (zri Q))
      exact v
theorem w116_0 {d : Nat} {x1 : Int} {Z : zM} {Q : Nat → zM → Prop}
    (v : TR d 97 [.inr 0] Z (fun r2 Z1 =>
      r2 = 19 ∧
        TI d 25 [.inr 19, .inl x1] Z1 (fun r4 Z3 =>
        Q 19 Z3))) :
    TZ (d + 1) 116 0 [some (.inr 0), some (.inl x1), none] [] Z (zrr Q) := by
  refine z0 (op := 5) (a := 0) (b := 0) (by rfl) (by rfl) (?_ : TZ (d + 1) 116 1 [some (.inr 0), some (.inl x1), none] [.inr 0] Z (zrr Q))
  refine z_vr (by rfl) (by rfl) cl_0 (TR.mono v fun r2 Z1 v => ?_)
  obtain ⟨er2, v⟩ := v
  subst er2
  show TZ (d + 1) 116 4 [some (.inr 0), some (.inl x1), none] [.inr 19] Z1 (zrr Q)
  refine z0 (op := 9) (a := 2) (b := 0) (by rfl) (by rfl) (?_ : TZ (d + 1) 116 5 [some (.inr 0), some (.inl x1), some (.inr 19)] [] Z1 (zrr Q))
  refine z0 (op := 5) (a := 2) (b := 0) (by rfl) (by rfl) (?_ : TZ (d + 1) 116 6 [some (.inr 0), some (.inl x1), some (.inr 19)] [.inr 19] Z1 (zrr Q))
  refine z0 (op := 3) (a := 1) (b := 0) (by rfl) (by rfl) (?_ : TZ (d + 1) 116 7 [some (.inr 0), some (.inl x1), some (.inr 19)] [.inl x1, .inr 19] Z1 (zrr Q))
  refine z_vi (by rfl) (by rfl) cl_19 (TI.mono v fun r4 Z3 v => ?_)
  show TZ (d + 1) 116 10 [some (.inr 0), some (.inl x1), some (.inr 19)] [.inl r4] Z3 (zrr Q)
  refine z0 (op := 14) (a := 0) (b := 0) (by rfl) (by rfl) (?_ : TZ (d + 1) 116 11 [some (.inr 0), some (.inl x1), some (.inr 19)] [] Z3 (zrr Q))
  refine z0 (op := 5) (a := 2) (b := 0) (by rfl) (by rfl) (?_ : TZ (d + 1) 116 12 [some (.inr 0), some (.inl x1), some (.inr 19)] [.inr 19] Z3 (zrr Q))
  exact z_retr (by rfl) (by rfl) v
theorem w117_0 {d : Nat} {x1 : Int} {Z : zM} {Q : Int → zM → Prop}
    (v : TI d 75 [.inl x1, .inl 1] Z (fun r2 Z1 =>
      zR r2 ∧
        (r2 = 0 → TZ (d + 1) 117 26 [some (.inr 0), some (.inl x1), some (.inl r2), some (.inl 1000000), some (.inl 0), some (.inl (-1)), none] [] Z1 (zri Q)) ∧
        (¬ r2 = 0 → TI d 71 [.inr 0, .inl r2] Z1 (fun r6 Z5 =>
            Q r6 Z5)))) :
    TZ (d + 1) 117 0 [some (.inr 0), some (.inl x1), none, none, none, none, none] [] Z (zri Q) := by
  refine z0 (op := 3) (a := 1) (b := 0) (by rfl) (by rfl) (?_ : TZ (d + 1) 117 1 [some (.inr 0), some (.inl x1), none, none, none, none, none] [.inl x1] Z (zri Q))
  refine z0 (op := 0) (a := 0) (b := 1) (by rfl) (by rfl) (?_ : TZ (d + 1) 117 2 [some (.inr 0), some (.inl x1), none, none, none, none, none] [.inl 1, .inl x1] Z (zri Q))
  refine z_si (by rfl) (by rfl) (TI.mono v fun r2 Z1 v => ?_)
  show TZ (d + 1) 117 5 [some (.inr 0), some (.inl x1), none, none, none, none, none] [.inl r2] Z1 (zri Q)
  refine z0 (op := 7) (a := 2) (b := 0) (by rfl) (by rfl) (?_ : TZ (d + 1) 117 6 [some (.inr 0), some (.inl x1), some (.inl r2), none, none, none, none] [] Z1 (zri Q))
  refine z0 (op := 3) (a := 2) (b := 0) (by rfl) (by rfl) (?_ : TZ (d + 1) 117 7 [some (.inr 0), some (.inl x1), some (.inl r2), none, none, none, none] [.inl r2] Z1 (zri Q))
  obtain ⟨c3, v1, v2⟩ := v
  refine z_if0 (a := 0) (t := 16) (by rfl) (by rfl) c3 (fun h4 => ?_) (fun h4 => ?_)
  · have v := v1 h4; clear v1 v2
    show TZ (d + 1) 117 16 [some (.inr 0), some (.inl x1), some (.inl r2), none, none, none, none] [] Z1 (zri Q)
    refine z_con (op := 1) (a := 11) (b := 0) (by rfl) (by rfl) (by decide) (?_ : TZ (d + 1) 117 19 [some (.inr 0), some (.inl x1), some (.inl r2), none, none, none, none] [.inl 1000000] Z1 (zri Q))
    refine z0 (op := 7) (a := 3) (b := 0) (by rfl) (by rfl) (?_ : TZ (d + 1) 117 20 [some (.inr 0), some (.inl x1), some (.inl r2), some (.inl 1000000), none, none, none] [] Z1 (zri Q))
    refine z0 (op := 0) (a := 0) (b := 0) (by rfl) (by rfl) (?_ : TZ (d + 1) 117 21 [some (.inr 0), some (.inl x1), some (.inl r2), some (.inl 1000000), none, none, none] [.inl 0] Z1 (zri Q))
    refine z0 (op := 8) (a := 4) (b := 0) (by rfl) (by rfl) (?_ : TZ (d + 1) 117 23 [some (.inr 0), some (.inl x1), some (.inl r2), some (.inl 1000000), some (.inl 0), none, none] [] Z1 (zri Q))
    refine z0 (op := 0) (a := 0) (b := (-1)) (by rfl) (by rfl) (?_ : TZ (d + 1) 117 24 [some (.inr 0), some (.inl x1), some (.inl r2), some (.inl 1000000), some (.inl 0), none, none] [.inl (-1)] Z1 (zri Q))
    refine z0 (op := 8) (a := 5) (b := 0) (by rfl) (by rfl) (?_ : TZ (d + 1) 117 26 [some (.inr 0), some (.inl x1), some (.inl r2), some (.inl 1000000), some (.inl 0), some (.inl (-1)), none] [] Z1 (zri Q))
    exact v
  · have v := v2 h4; clear v1 v2
    show TZ (d + 1) 117 10 [some (.inr 0), some (.inl x1), some (.inl r2), none, none, none, none] [] Z1 (zri Q)
    refine z0 (op := 5) (a := 0) (b := 0) (by rfl) (by rfl) (?_ : TZ (d + 1) 117 11 [some (.inr 0), some (.inl x1), some (.inl r2), none, none, none, none] [.inr 0] Z1 (zri Q))
    refine z0 (op := 3) (a := 2) (b := 0) (by rfl) (by rfl) (?_ : TZ (d + 1) 117 12 [some (.inr 0), some (.inl x1), some (.inl r2), none, none, none, none] [.inl r2, .inr 0] Z1 (zri Q))
    refine z_vi (by rfl) (by rfl) cl_0 (TI.mono v fun r6 Z5 v => ?_)
    show TZ (d + 1) 117 15 [some (.inr 0), some (.inl x1), some (.inl r2), none, none, none, none] [.inl r6] Z5 (zri Q)
    exact z_reti (by rfl) (by rfl) v
theorem w117_26 {d : Nat} {x1 x2 x3 x4 x5 : Int} {o6 : Option zV} {Z : zM} {Q : Int → zM → Prop}
    (v : zR x5 ∧
      zR (Z 1 6) ∧
      ((Z 1 6) ≤ x5 → (zR x1 ∧
          (x1 ≠ 0 → Q x3 Z) ∧
          (¬ x1 ≠ 0 → Q x4 Z))) ∧
      (¬ (Z 1 6) ≤ x5 → TR d 116 [.inr 0, .inl x5] Z (fun r7 Z6 =>
          r7 = 19 ∧
            TI d 23 [.inr 19] Z6 (fun r9 Z8 =>
            zR r9 ∧
              zR x3 ∧
              (x3 ≤ r9 → TZ (d + 1) 117 26 [some (.inr 0), some (.inl x1), some (.inl x2), some (.inl x3), some (.inl x4), some (.inl (x5 + 1)), some (.inl r9)] [] Z8 (zri Q)) ∧
              (¬ x3 ≤ r9 → TZ (d + 1) 117 26 [some (.inr 0), some (.inl x1), some (.inl x2), some (.inl r9), some (.inl (x5 + 1)), some (.inl (x5 + 1)), some (.inl r9)] [] Z8 (zri Q)))))) :
    TZ (d + 1) 117 26 [some (.inr 0), some (.inl x1), some (.inl x2), some (.inl x3), some (.inl x4), some (.inl x5), o6] [] Z (zri Q) := by
  refine z0 (op := 4) (a := 5) (b := 0) (by rfl) (by rfl) (?_ : TZ (d + 1) 117 28 [some (.inr 0), some (.inl x1), some (.inl x2), some (.inl x3), some (.inl x4), some (.inl x5), o6] [.inl x5] Z (zri Q))
  refine z0 (op := 5) (a := 0) (b := 0) (by rfl) (by rfl) (?_ : TZ (d + 1) 117 29 [some (.inr 0), some (.inl x1), some (.inl x2), some (.inl x3), some (.inl x4), some (.inl x5), o6] [.inr 0, .inl x5] Z (zri Q))
  refine z_fr (by rfl) fr50_0 (?_ : TZ (d + 1) 117 32 [some (.inr 0), some (.inl x1), some (.inl x2), some (.inl x3), some (.inl x4), some (.inl x5), o6] [.inr 1, .inl x5] Z (zri Q))
  refine z_fi (by rfl) fi69_1 (?_ : TZ (d + 1) 117 35 [some (.inr 0), some (.inl x1), some (.inl x2), some (.inl x3), some (.inl x4), some (.inl x5), o6] [.inl (Z 1 6), .inl x5] Z (zri Q))
  obtain ⟨c1, c2, v1, v2⟩ := v
  refine z_if2 (a := 3) (t := 70) (by rfl) (by rfl) c1 c2 (fun h3 => ?_) (fun h3 => ?_)
  · have v := v1 h3; clear v1 v2
    show TZ (d + 1) 117 70 [some (.inr 0), some (.inl x1), some (.inl x2), some (.inl x3), some (.inl x4), some (.inl x5), o6] [] Z (zri Q)
    refine z0 (op := 3) (a := 1) (b := 0) (by rfl) (by rfl) (?_ : TZ (d + 1) 117 71 [some (.inr 0), some (.inl x1), some (.inl x2), some (.inl x3), some (.inl x4), some (.inl x5), o6] [.inl x1] Z (zri Q))
    obtain ⟨c4, v1, v2⟩ := v
    refine z_if0 (a := 1) (t := 79) (by rfl) (by rfl) c4 (fun h5 => ?_) (fun h5 => ?_)
    · have v := v1 h5; clear v1 v2
      show TZ (d + 1) 117 79 [some (.inr 0), some (.inl x1), some (.inl x2), some (.inl x3), some (.inl x4), some (.inl x5), o6] [] Z (zri Q)
      refine z0 (op := 3) (a := 3) (b := 0) (by rfl) (by rfl) (?_ : TZ (d + 1) 117 80 [some (.inr 0), some (.inl x1), some (.inl x2), some (.inl x3), some (.inl x4), some (.inl x5), o6] [.inl x3] Z (zri Q))
      exact z_reti (by rfl) (by rfl) v
    · have v := v2 h5; clear v1 v2
      show TZ (d + 1) 117 74 [some (.inr 0), some (.inl x1), some (.inl x2), some (.inl x3), some (.inl x4), some (.inl x5), o6] [] Z (zri Q)
      refine z0 (op := 4) (a := 4) (b := 0) (by rfl) (by rfl) (?_ : TZ (d + 1) 117 76 [some (.inr 0), some (.inl x1), some (.inl x2), some (.inl x3), some (.inl x4), some (.inl x5), o6] [.inl x4] Z (zri Q))
      refine z_goto (t := 80) (by rfl) (by rfl) (?_ : TZ (d + 1) 117 80 [some (.inr 0), some (.inl x1), some (.inl x2), some (.inl x3), some (.inl x4), some (.inl x5), o6] [.inl x4] Z (zri Q))
      exact z_reti (by rfl) (by rfl) v
  · have v := v2 h3; clear v1 v2
    show TZ (d + 1) 117 38 [some (.inr 0), some (.inl x1), some (.inl x2), some (.inl x3), some (.inl x4), some (.inl x5), o6] [] Z (zri Q)
    refine z0 (op := 5) (a := 0) (b := 0) (by rfl) (by rfl) (?_ : TZ (d + 1) 117 39 [some (.inr 0), some (.inl x1), some (.inl x2), some (.inl x3), some (.inl x4), some (.inl x5), o6] [.inr 0] Z (zri Q))
    refine z0 (op := 4) (a := 5) (b := 0) (by rfl) (by rfl) (?_ : TZ (d + 1) 117 41 [some (.inr 0), some (.inl x1), some (.inl x2), some (.inl x3), some (.inl x4), some (.inl x5), o6] [.inl x5, .inr 0] Z (zri Q))
    refine z_vr (by rfl) (by rfl) cl_0 (TR.mono v fun r7 Z6 v => ?_)
    obtain ⟨er7, v⟩ := v
    subst er7
    show TZ (d + 1) 117 44 [some (.inr 0), some (.inl x1), some (.inl x2), some (.inl x3), some (.inl x4), some (.inl x5), o6] [.inr 19] Z6 (zri Q)
    refine z_vi (by rfl) (by rfl) cl_19 (TI.mono v fun r9 Z8 v => ?_)
    show TZ (d + 1) 117 47 [some (.inr 0), some (.inl x1), some (.inl x2), some (.inl x3), some (.inl x4), some (.inl x5), o6] [.inl r9] Z8 (zri Q)
    refine z0 (op := 8) (a := 6) (b := 0) (by rfl) (by rfl) (?_ : TZ (d + 1) 117 49 [some (.inr 0), some (.inl x1), some (.inl x2), some (.inl x3), some (.inl x4), some (.inl x5), some (.inl r9)] [] Z8 (zri Q))
    refine z0 (op := 4) (a := 6) (b := 0) (by rfl) (by rfl) (?_ : TZ (d + 1) 117 51 [some (.inr 0), some (.inl x1), some (.inl x2), some (.inl x3), some (.inl x4), some (.inl x5), some (.inl r9)] [.inl r9] Z8 (zri Q))
    refine z0 (op := 3) (a := 3) (b := 0) (by rfl) (by rfl) (?_ : TZ (d + 1) 117 52 [some (.inr 0), some (.inl x1), some (.inl x2), some (.inl x3), some (.inl x4), some (.inl x5), some (.inl r9)] [.inl x3, .inl r9] Z8 (zri Q))
    obtain ⟨c10, c11, v1, v2⟩ := v
    refine z_if2 (a := 3) (t := 64) (by rfl) (by rfl) c10 c11 (fun h12 => ?_) (fun h12 => ?_)
    · have v := v1 h12; clear v1 v2
      show TZ (d + 1) 117 64 [some (.inr 0), some (.inl x1), some (.inl x2), some (.inl x3), some (.inl x4), some (.inl x5), some (.inl r9)] [] Z8 (zri Q)
      refine z0 (op := 11) (a := 5) (b := 1) (by rfl) (by rfl) (?_ : TZ (d + 1) 117 67 [some (.inr 0), some (.inl x1), some (.inl x2), some (.inl x3), some (.inl x4), some (.inl (x5 + 1)), some (.inl r9)] [] Z8 (zri Q))
      refine z_goto (t := 26) (by rfl) (by rfl) (?_ : TZ (d + 1) 117 26 [some (.inr 0), some (.inl x1), some (.inl x2), some (.inl x3), some (.inl x4), some (.inl (x5 + 1)), some (.inl r9)] [] Z8 (zri Q))
      exact v
    · have v := v2 h12; clear v1 v2
      show TZ (d + 1) 117 55 [some (.inr 0), some (.inl x1), some (.inl x2), some (.inl x3), some (.inl x4), some (.inl x5), some (.inl r9)] [] Z8 (zri Q)
      refine z0 (op := 4) (a := 6) (b := 0) (by rfl) (by rfl) (?_ : TZ (d + 1) 117 57 [some (.inr 0), some (.inl x1), some (.inl x2), some (.inl x3), some (.inl x4), some (.inl x5), some (.inl r9)] [.inl r9] Z8 (zri Q))
      refine z0 (op := 7) (a := 3) (b := 0) (by rfl) (by rfl) (?_ : TZ (d + 1) 117 58 [some (.inr 0), some (.inl x1), some (.inl x2), some (.inl r9), some (.inl x4), some (.inl x5), some (.inl r9)] [] Z8 (zri Q))
      refine z0 (op := 4) (a := 5) (b := 0) (by rfl) (by rfl) (?_ : TZ (d + 1) 117 60 [some (.inr 0), some (.inl x1), some (.inl x2), some (.inl r9), some (.inl x4), some (.inl x5), some (.inl r9)] [.inl x5] Z8 (zri Q))
      refine z0 (op := 0) (a := 0) (b := 1) (by rfl) (by rfl) (?_ : TZ (d + 1) 117 61 [some (.inr 0), some (.inl x1), some (.inl x2), some (.inl r9), some (.inl x4), some (.inl x5), some (.inl r9)] [.inl 1, .inl x5] Z8 (zri Q))
      refine z0 (op := 12) (a := 0) (b := 0) (by rfl) (by rfl) (?_ : TZ (d + 1) 117 62 [some (.inr 0), some (.inl x1), some (.inl x2), some (.inl r9), some (.inl x4), some (.inl x5), some (.inl r9)] [.inl (x5 + 1)] Z8 (zri Q))
      refine z0 (op := 8) (a := 4) (b := 0) (by rfl) (by rfl) (?_ : TZ (d + 1) 117 64 [some (.inr 0), some (.inl x1), some (.inl x2), some (.inl r9), some (.inl (x5 + 1)), some (.inl x5), some (.inl r9)] [] Z8 (zri Q))
      refine z0 (op := 11) (a := 5) (b := 1) (by rfl) (by rfl) (?_ : TZ (d + 1) 117 67 [some (.inr 0), some (.inl x1), some (.inl x2), some (.inl r9), some (.inl (x5 + 1)), some (.inl (x5 + 1)), some (.inl r9)] [] Z8 (zri Q))
      refine z_goto (t := 26) (by rfl) (by rfl) (?_ : TZ (d + 1) 117 26 [some (.inr 0), some (.inl x1), some (.inl x2), some (.inl r9), some (.inl (x5 + 1)), some (.inl (x5 + 1)), some (.inl r9)] [] Z8 (zri Q))
      exact v
theorem w118_0 {d : Nat} {x1 : Int} {Z : zM} {Q : Int → zM → Prop}
    (v : TI d 75 [.inl x1, .inl 1] Z (fun r2 Z1 =>
      zR r2 ∧
        (r2 = 0 → (zR x1 ∧
            (x1 ≠ 0 → TI d 119 [.inr 0] Z1 (fun r8 Z7 =>
                Q r8 Z7)) ∧
            (¬ x1 ≠ 0 → TI d 24 [.inr 1] Z1 (fun r10 Z9 =>
                Q r10 Z9)))) ∧
        (¬ r2 = 0 → TI d 71 [.inr 0, .inl r2] Z1 (fun r12 Z11 =>
            Q r12 Z11)))) :
    TZ (d + 1) 118 0 [some (.inr 0), some (.inl x1), none] [] Z (zri Q) := by
  refine z0 (op := 3) (a := 1) (b := 0) (by rfl) (by rfl) (?_ : TZ (d + 1) 118 1 [some (.inr 0), some (.inl x1), none] [.inl x1] Z (zri Q))
  refine z0 (op := 0) (a := 0) (b := 1) (by rfl) (by rfl) (?_ : TZ (d + 1) 118 2 [some (.inr 0), some (.inl x1), none] [.inl 1, .inl x1] Z (zri Q))
  refine z_si (by rfl) (by rfl) (TI.mono v fun r2 Z1 v => ?_)
  show TZ (d + 1) 118 5 [some (.inr 0), some (.inl x1), none] [.inl r2] Z1 (zri Q)
  refine z0 (op := 7) (a := 2) (b := 0) (by rfl) (by rfl) (?_ : TZ (d + 1) 118 6 [some (.inr 0), some (.inl x1), some (.inl r2)] [] Z1 (zri Q))
  refine z0 (op := 3) (a := 2) (b := 0) (by rfl) (by rfl) (?_ : TZ (d + 1) 118 7 [some (.inr 0), some (.inl x1), some (.inl r2)] [.inl r2] Z1 (zri Q))
  obtain ⟨c3, v1, v2⟩ := v
  refine z_if0 (a := 0) (t := 16) (by rfl) (by rfl) c3 (fun h4 => ?_) (fun h4 => ?_)
  · have v := v1 h4; clear v1 v2
    show TZ (d + 1) 118 16 [some (.inr 0), some (.inl x1), some (.inl r2)] [] Z1 (zri Q)
    refine z0 (op := 3) (a := 1) (b := 0) (by rfl) (by rfl) (?_ : TZ (d + 1) 118 17 [some (.inr 0), some (.inl x1), some (.inl r2)] [.inl x1] Z1 (zri Q))
    obtain ⟨c5, v1, v2⟩ := v
    refine z_if0 (a := 1) (t := 30) (by rfl) (by rfl) c5 (fun h6 => ?_) (fun h6 => ?_)
    · have v := v1 h6; clear v1 v2
      show TZ (d + 1) 118 30 [some (.inr 0), some (.inl x1), some (.inl r2)] [] Z1 (zri Q)
      refine z0 (op := 5) (a := 0) (b := 0) (by rfl) (by rfl) (?_ : TZ (d + 1) 118 31 [some (.inr 0), some (.inl x1), some (.inl r2)] [.inr 0] Z1 (zri Q))
      refine z_vi (by rfl) (by rfl) cl_0 (TI.mono v fun r8 Z7 v => ?_)
      show TZ (d + 1) 118 34 [some (.inr 0), some (.inl x1), some (.inl r2)] [.inl r8] Z7 (zri Q)
      exact z_reti (by rfl) (by rfl) v
    · have v := v2 h6; clear v1 v2
      show TZ (d + 1) 118 20 [some (.inr 0), some (.inl x1), some (.inl r2)] [] Z1 (zri Q)
      refine z0 (op := 5) (a := 0) (b := 0) (by rfl) (by rfl) (?_ : TZ (d + 1) 118 21 [some (.inr 0), some (.inl x1), some (.inl r2)] [.inr 0] Z1 (zri Q))
      refine z_fr (by rfl) fr50_0 (?_ : TZ (d + 1) 118 24 [some (.inr 0), some (.inl x1), some (.inl r2)] [.inr 1] Z1 (zri Q))
      refine z_vi (by rfl) (by rfl) cl_1 (TI.mono v fun r10 Z9 v => ?_)
      show TZ (d + 1) 118 27 [some (.inr 0), some (.inl x1), some (.inl r2)] [.inl r10] Z9 (zri Q)
      refine z_goto (t := 34) (by rfl) (by rfl) (?_ : TZ (d + 1) 118 34 [some (.inr 0), some (.inl x1), some (.inl r2)] [.inl r10] Z9 (zri Q))
      exact z_reti (by rfl) (by rfl) v
  · have v := v2 h4; clear v1 v2
    show TZ (d + 1) 118 10 [some (.inr 0), some (.inl x1), some (.inl r2)] [] Z1 (zri Q)
    refine z0 (op := 5) (a := 0) (b := 0) (by rfl) (by rfl) (?_ : TZ (d + 1) 118 11 [some (.inr 0), some (.inl x1), some (.inl r2)] [.inr 0] Z1 (zri Q))
    refine z0 (op := 3) (a := 2) (b := 0) (by rfl) (by rfl) (?_ : TZ (d + 1) 118 12 [some (.inr 0), some (.inl x1), some (.inl r2)] [.inl r2, .inr 0] Z1 (zri Q))
    refine z_vi (by rfl) (by rfl) cl_0 (TI.mono v fun r12 Z11 v => ?_)
    show TZ (d + 1) 118 15 [some (.inr 0), some (.inl x1), some (.inl r2)] [.inl r12] Z11 (zri Q)
    exact z_reti (by rfl) (by rfl) v
theorem w120_0 {d : Nat} {x1 : Int} {Z : zM} {Q : Int → zM → Prop}
    (v : TI d 75 [.inl x1, .inl 2] Z (fun r2 Z1 =>
      zR r2 ∧
        (r2 = 0 → TR d 116 [.inr 0, .inl (-1)] Z1 (fun r6 Z5 =>
            r6 = 19 ∧
              TI d 23 [.inr 19] Z5 (fun r8 Z7 =>
              TZ (d + 1) 120 28 [some (.inr 0), some (.inl x1), some (.inl r2), some (.inl r8), some (.inl 0), none, none, none] [] Z7 (zri Q)))) ∧
        (¬ r2 = 0 → TI d 71 [.inr 0, .inl r2] Z1 (fun r10 Z9 =>
            Q r10 Z9)))) :
    TZ (d + 1) 120 0 [some (.inr 0), some (.inl x1), none, none, none, none, none, none] [] Z (zri Q) := by
  refine z0 (op := 3) (a := 1) (b := 0) (by rfl) (by rfl) (?_ : TZ (d + 1) 120 1 [some (.inr 0), some (.inl x1), none, none, none, none, none, none] [.inl x1] Z (zri Q))
  refine z0 (op := 0) (a := 0) (b := 2) (by rfl) (by rfl) (?_ : TZ (d + 1) 120 2 [some (.inr 0), some (.inl x1), none, none, none, none, none, none] [.inl 2, .inl x1] Z (zri Q))
  refine z_si (by rfl) (by rfl) (TI.mono v fun r2 Z1 v => ?_)
  show TZ (d + 1) 120 5 [some (.inr 0), some (.inl x1), none, none, none, none, none, none] [.inl r2] Z1 (zri Q)
  refine z0 (op := 7) (a := 2) (b := 0) (by rfl) (by rfl) (?_ : TZ (d + 1) 120 6 [some (.inr 0), some (.inl x1), some (.inl r2), none, none, none, none, none] [] Z1 (zri Q))
  refine z0 (op := 3) (a := 2) (b := 0) (by rfl) (by rfl) (?_ : TZ (d + 1) 120 7 [some (.inr 0), some (.inl x1), some (.inl r2), none, none, none, none, none] [.inl r2] Z1 (zri Q))
  obtain ⟨c3, v1, v2⟩ := v
  refine z_if0 (a := 0) (t := 16) (by rfl) (by rfl) c3 (fun h4 => ?_) (fun h4 => ?_)
  · have v := v1 h4; clear v1 v2
    show TZ (d + 1) 120 16 [some (.inr 0), some (.inl x1), some (.inl r2), none, none, none, none, none] [] Z1 (zri Q)
    refine z0 (op := 5) (a := 0) (b := 0) (by rfl) (by rfl) (?_ : TZ (d + 1) 120 17 [some (.inr 0), some (.inl x1), some (.inl r2), none, none, none, none, none] [.inr 0] Z1 (zri Q))
    refine z0 (op := 0) (a := 0) (b := (-1)) (by rfl) (by rfl) (?_ : TZ (d + 1) 120 18 [some (.inr 0), some (.inl x1), some (.inl r2), none, none, none, none, none] [.inl (-1), .inr 0] Z1 (zri Q))
    refine z_vr (by rfl) (by rfl) cl_0 (TR.mono v fun r6 Z5 v => ?_)
    obtain ⟨er6, v⟩ := v
    subst er6
    show TZ (d + 1) 120 21 [some (.inr 0), some (.inl x1), some (.inl r2), none, none, none, none, none] [.inr 19] Z5 (zri Q)
    refine z_vi (by rfl) (by rfl) cl_19 (TI.mono v fun r8 Z7 v => ?_)
    show TZ (d + 1) 120 24 [some (.inr 0), some (.inl x1), some (.inl r2), none, none, none, none, none] [.inl r8] Z7 (zri Q)
    refine z0 (op := 7) (a := 3) (b := 0) (by rfl) (by rfl) (?_ : TZ (d + 1) 120 25 [some (.inr 0), some (.inl x1), some (.inl r2), some (.inl r8), none, none, none, none] [] Z7 (zri Q))
    refine z0 (op := 0) (a := 0) (b := 0) (by rfl) (by rfl) (?_ : TZ (d + 1) 120 26 [some (.inr 0), some (.inl x1), some (.inl r2), some (.inl r8), none, none, none, none] [.inl 0] Z7 (zri Q))
    refine z0 (op := 8) (a := 4) (b := 0) (by rfl) (by rfl) (?_ : TZ (d + 1) 120 28 [some (.inr 0), some (.inl x1), some (.inl r2), some (.inl r8), some (.inl 0), none, none, none] [] Z7 (zri Q))
    exact v
  · have v := v2 h4; clear v1 v2
    show TZ (d + 1) 120 10 [some (.inr 0), some (.inl x1), some (.inl r2), none, none, none, none, none] [] Z1 (zri Q)
    refine z0 (op := 5) (a := 0) (b := 0) (by rfl) (by rfl) (?_ : TZ (d + 1) 120 11 [some (.inr 0), some (.inl x1), some (.inl r2), none, none, none, none, none] [.inr 0] Z1 (zri Q))
    refine z0 (op := 3) (a := 2) (b := 0) (by rfl) (by rfl) (?_ : TZ (d + 1) 120 12 [some (.inr 0), some (.inl x1), some (.inl r2), none, none, none, none, none] [.inl r2, .inr 0] Z1 (zri Q))
    refine z_vi (by rfl) (by rfl) cl_0 (TI.mono v fun r10 Z9 v => ?_)
    show TZ (d + 1) 120 15 [some (.inr 0), some (.inl x1), some (.inl r2), none, none, none, none, none] [.inl r10] Z9 (zri Q)
    exact z_reti (by rfl) (by rfl) v
theorem w120_28 {d : Nat} {x1 x2 x3 x4 : Int} {Z : zM} {Q : Int → zM → Prop}
    (v : zR x4 ∧
      (5 ≤ x4 → (zR x1 ∧
          (x1 ≠ 2 → TZ (d + 1) 120 78 [some (.inr 0), some (.inl x1), some (.inl x2), some (.inl x3), some (.inl 1000000), some (.inl 0), some (.inl 0), none] [] Z (zri Q)) ∧
          (¬ x1 ≠ 2 → TI d 122 [.inr 0, .inl x3] Z (fun r6 Z5 =>
              Q r6 Z5)))) ∧
      (¬ 5 ≤ x4 → TR d 116 [.inr 0, .inl x4] Z (fun r8 Z7 =>
          r8 = 19 ∧
            TI d 23 [.inr 19] Z7 (fun r10 Z9 =>
            (0 ≤ x4 ∧ x4 < 12) ∧
              ∀ Z12, Z12 = zup Z9 44 x4 r10 →
              TZ (d + 1) 120 28 [some (.inr 0), some (.inl x1), some (.inl x2), some (.inl x3), some (.inl (x4 + 1)), none, none, none] [] Z12 (zri Q))))) :
    TZ (d + 1) 120 28 [some (.inr 0), some (.inl x1), some (.inl x2), some (.inl x3), some (.inl x4), none, none, none] [] Z (zri Q) := by
  refine z0 (op := 4) (a := 4) (b := 0) (by rfl) (by rfl) (?_ : TZ (d + 1) 120 30 [some (.inr 0), some (.inl x1), some (.inl x2), some (.inl x3), some (.inl x4), none, none, none] [.inl x4] Z (zri Q))
  refine z0 (op := 0) (a := 0) (b := 5) (by rfl) (by rfl) (?_ : TZ (d + 1) 120 31 [some (.inr 0), some (.inl x1), some (.inl x2), some (.inl x3), some (.inl x4), none, none, none] [.inl 5, .inl x4] Z (zri Q))
  obtain ⟨c1, v1, v2⟩ := v
  refine z_if2 (a := 3) (t := 56) (by rfl) (by rfl) c1 (by decide) (fun h2 => ?_) (fun h2 => ?_)
  · have v := v1 h2; clear v1 v2
    show TZ (d + 1) 120 56 [some (.inr 0), some (.inl x1), some (.inl x2), some (.inl x3), some (.inl x4), none, none, none] [] Z (zri Q)
    refine z0 (op := 3) (a := 1) (b := 0) (by rfl) (by rfl) (?_ : TZ (d + 1) 120 57 [some (.inr 0), some (.inl x1), some (.inl x2), some (.inl x3), some (.inl x4), none, none, none] [.inl x1] Z (zri Q))
    refine z0 (op := 0) (a := 0) (b := 2) (by rfl) (by rfl) (?_ : TZ (d + 1) 120 58 [some (.inr 0), some (.inl x1), some (.inl x2), some (.inl x3), some (.inl x4), none, none, none] [.inl 2, .inl x1] Z (zri Q))
    obtain ⟨c3, v1, v2⟩ := v
    refine z_if2 (a := 1) (t := 67) (by rfl) (by rfl) c3 (by decide) (fun h4 => ?_) (fun h4 => ?_)
    · have v := v1 h4; clear v1 v2
      show TZ (d + 1) 120 67 [some (.inr 0), some (.inl x1), some (.inl x2), some (.inl x3), some (.inl x4), none, none, none] [] Z (zri Q)
      refine z_con (op := 1) (a := 11) (b := 0) (by rfl) (by rfl) (by decide) (?_ : TZ (d + 1) 120 70 [some (.inr 0), some (.inl x1), some (.inl x2), some (.inl x3), some (.inl x4), none, none, none] [.inl 1000000] Z (zri Q))
      refine z0 (op := 8) (a := 4) (b := 0) (by rfl) (by rfl) (?_ : TZ (d + 1) 120 72 [some (.inr 0), some (.inl x1), some (.inl x2), some (.inl x3), some (.inl 1000000), none, none, none] [] Z (zri Q))
      refine z0 (op := 0) (a := 0) (b := 0) (by rfl) (by rfl) (?_ : TZ (d + 1) 120 73 [some (.inr 0), some (.inl x1), some (.inl x2), some (.inl x3), some (.inl 1000000), none, none, none] [.inl 0] Z (zri Q))
      refine z0 (op := 8) (a := 5) (b := 0) (by rfl) (by rfl) (?_ : TZ (d + 1) 120 75 [some (.inr 0), some (.inl x1), some (.inl x2), some (.inl x3), some (.inl 1000000), some (.inl 0), none, none] [] Z (zri Q))
      refine z0 (op := 0) (a := 0) (b := 0) (by rfl) (by rfl) (?_ : TZ (d + 1) 120 76 [some (.inr 0), some (.inl x1), some (.inl x2), some (.inl x3), some (.inl 1000000), some (.inl 0), none, none] [.inl 0] Z (zri Q))
      refine z0 (op := 8) (a := 6) (b := 0) (by rfl) (by rfl) (?_ : TZ (d + 1) 120 78 [some (.inr 0), some (.inl x1), some (.inl x2), some (.inl x3), some (.inl 1000000), some (.inl 0), some (.inl 0), none] [] Z (zri Q))
      exact v
    · have v := v2 h4; clear v1 v2
      show TZ (d + 1) 120 61 [some (.inr 0), some (.inl x1), some (.inl x2), some (.inl x3), some (.inl x4), none, none, none] [] Z (zri Q)
      refine z0 (op := 5) (a := 0) (b := 0) (by rfl) (by rfl) (?_ : TZ (d + 1) 120 62 [some (.inr 0), some (.inl x1), some (.inl x2), some (.inl x3), some (.inl x4), none, none, none] [.inr 0] Z (zri Q))
      refine z0 (op := 3) (a := 3) (b := 0) (by rfl) (by rfl) (?_ : TZ (d + 1) 120 63 [some (.inr 0), some (.inl x1), some (.inl x2), some (.inl x3), some (.inl x4), none, none, none] [.inl x3, .inr 0] Z (zri Q))
      refine z_vi (by rfl) (by rfl) cl_0 (TI.mono v fun r6 Z5 v => ?_)
      show TZ (d + 1) 120 66 [some (.inr 0), some (.inl x1), some (.inl x2), some (.inl x3), some (.inl x4), none, none, none] [.inl r6] Z5 (zri Q)
      exact z_reti (by rfl) (by rfl) v
  · have v := v2 h2; clear v1 v2
    show TZ (d + 1) 120 34 [some (.inr 0), some (.inl x1), some (.inl x2), some (.inl x3), some (.inl x4), none, none, none] [] Z (zri Q)
    refine z0 (op := 5) (a := 0) (b := 0) (by rfl) (by rfl) (?_ : TZ (d + 1) 120 35 [some (.inr 0), some (.inl x1), some (.inl x2), some (.inl x3), some (.inl x4), none, none, none] [.inr 0] Z (zri Q))
    refine z_fr (by rfl) fr59_0 (?_ : TZ (d + 1) 120 38 [some (.inr 0), some (.inl x1), some (.inl x2), some (.inl x3), some (.inl x4), none, none, none] [.inr 44] Z (zri Q))
    refine z0 (op := 4) (a := 4) (b := 0) (by rfl) (by rfl) (?_ : TZ (d + 1) 120 40 [some (.inr 0), some (.inl x1), some (.inl x2), some (.inl x3), some (.inl x4), none, none, none] [.inl x4, .inr 44] Z (zri Q))
    refine z0 (op := 5) (a := 0) (b := 0) (by rfl) (by rfl) (?_ : TZ (d + 1) 120 41 [some (.inr 0), some (.inl x1), some (.inl x2), some (.inl x3), some (.inl x4), none, none, none] [.inr 0, .inl x4, .inr 44] Z (zri Q))
    refine z0 (op := 4) (a := 4) (b := 0) (by rfl) (by rfl) (?_ : TZ (d + 1) 120 43 [some (.inr 0), some (.inl x1), some (.inl x2), some (.inl x3), some (.inl x4), none, none, none] [.inl x4, .inr 0, .inl x4, .inr 44] Z (zri Q))
    refine z_vr (by rfl) (by rfl) cl_0 (TR.mono v fun r8 Z7 v => ?_)
    obtain ⟨er8, v⟩ := v
    subst er8
    show TZ (d + 1) 120 46 [some (.inr 0), some (.inl x1), some (.inl x2), some (.inl x3), some (.inl x4), none, none, none] [.inr 19, .inl x4, .inr 44] Z7 (zri Q)
    refine z_vi (by rfl) (by rfl) cl_19 (TI.mono v fun r10 Z9 v => ?_)
    show TZ (d + 1) 120 49 [some (.inr 0), some (.inl x1), some (.inl x2), some (.inl x3), some (.inl x4), none, none, none] [.inl r10, .inl x4, .inr 44] Z9 (zri Q)
    obtain ⟨c11, v⟩ := v
    obtain ⟨Z12, eZ12⟩ : ∃ zz, zz = zup Z9 44 x4 r10 := ⟨_, rfl⟩
    have v := v Z12 eZ12
    refine z_as (by rfl) ln_44 c11 ?_
    show TZ (d + 1) 120 50 [some (.inr 0), some (.inl x1), some (.inl x2), some (.inl x3), some (.inl x4), none, none, none] [] (zup Z9 44 x4 r10) _
    rw [← eZ12]
    refine z0 (op := 11) (a := 4) (b := 1) (by rfl) (by rfl) (?_ : TZ (d + 1) 120 53 [some (.inr 0), some (.inl x1), some (.inl x2), some (.inl x3), some (.inl (x4 + 1)), none, none, none] [] Z12 (zri Q))
    refine z_goto (t := 28) (by rfl) (by rfl) (?_ : TZ (d + 1) 120 28 [some (.inr 0), some (.inl x1), some (.inl x2), some (.inl x3), some (.inl (x4 + 1)), none, none, none] [] Z12 (zri Q))
    exact v
theorem w120_78 {d : Nat} {x1 x2 x3 x4 x5 x6 : Int} {o7 : Option zV} {Z : zM} {Q : Int → zM → Prop}
    (v : zR x6 ∧
      (5 ≤ x6 → (zR x1 ∧
          (x1 ≠ 0 → Q x5 Z) ∧
          (¬ x1 ≠ 0 → Q x4 Z))) ∧
      (¬ 5 ≤ x6 → TI d 121 [.inr 0, .inl x6, .inl x3] Z (fun r6 Z5 =>
          zR r6 ∧
            zR x4 ∧
            (x4 ≤ r6 → TZ (d + 1) 120 78 [some (.inr 0), some (.inl x1), some (.inl x2), some (.inl x3), some (.inl x4), some (.inl x5), some (.inl (x6 + 1)), some (.inl r6)] [] Z5 (zri Q)) ∧
            (¬ x4 ≤ r6 → TZ (d + 1) 120 78 [some (.inr 0), some (.inl x1), some (.inl x2), some (.inl x3), some (.inl r6), some (.inl x6), some (.inl (x6 + 1)), some (.inl r6)] [] Z5 (zri Q))))) :
    TZ (d + 1) 120 78 [some (.inr 0), some (.inl x1), some (.inl x2), some (.inl x3), some (.inl x4), some (.inl x5), some (.inl x6), o7] [] Z (zri Q) := by
  refine z0 (op := 4) (a := 6) (b := 0) (by rfl) (by rfl) (?_ : TZ (d + 1) 120 80 [some (.inr 0), some (.inl x1), some (.inl x2), some (.inl x3), some (.inl x4), some (.inl x5), some (.inl x6), o7] [.inl x6] Z (zri Q))
  refine z0 (op := 0) (a := 0) (b := 5) (by rfl) (by rfl) (?_ : TZ (d + 1) 120 81 [some (.inr 0), some (.inl x1), some (.inl x2), some (.inl x3), some (.inl x4), some (.inl x5), some (.inl x6), o7] [.inl 5, .inl x6] Z (zri Q))
  obtain ⟨c1, v1, v2⟩ := v
  refine z_if2 (a := 3) (t := 114) (by rfl) (by rfl) c1 (by decide) (fun h2 => ?_) (fun h2 => ?_)
  · have v := v1 h2; clear v1 v2
    show TZ (d + 1) 120 114 [some (.inr 0), some (.inl x1), some (.inl x2), some (.inl x3), some (.inl x4), some (.inl x5), some (.inl x6), o7] [] Z (zri Q)
    refine z0 (op := 3) (a := 1) (b := 0) (by rfl) (by rfl) (?_ : TZ (d + 1) 120 115 [some (.inr 0), some (.inl x1), some (.inl x2), some (.inl x3), some (.inl x4), some (.inl x5), some (.inl x6), o7] [.inl x1] Z (zri Q))
    obtain ⟨c3, v1, v2⟩ := v
    refine z_if0 (a := 1) (t := 123) (by rfl) (by rfl) c3 (fun h4 => ?_) (fun h4 => ?_)
    · have v := v1 h4; clear v1 v2
      show TZ (d + 1) 120 123 [some (.inr 0), some (.inl x1), some (.inl x2), some (.inl x3), some (.inl x4), some (.inl x5), some (.inl x6), o7] [] Z (zri Q)
      refine z0 (op := 4) (a := 5) (b := 0) (by rfl) (by rfl) (?_ : TZ (d + 1) 120 125 [some (.inr 0), some (.inl x1), some (.inl x2), some (.inl x3), some (.inl x4), some (.inl x5), some (.inl x6), o7] [.inl x5] Z (zri Q))
      exact z_reti (by rfl) (by rfl) v
    · have v := v2 h4; clear v1 v2
      show TZ (d + 1) 120 118 [some (.inr 0), some (.inl x1), some (.inl x2), some (.inl x3), some (.inl x4), some (.inl x5), some (.inl x6), o7] [] Z (zri Q)
      refine z0 (op := 4) (a := 4) (b := 0) (by rfl) (by rfl) (?_ : TZ (d + 1) 120 120 [some (.inr 0), some (.inl x1), some (.inl x2), some (.inl x3), some (.inl x4), some (.inl x5), some (.inl x6), o7] [.inl x4] Z (zri Q))
      refine z_goto (t := 125) (by rfl) (by rfl) (?_ : TZ (d + 1) 120 125 [some (.inr 0), some (.inl x1), some (.inl x2), some (.inl x3), some (.inl x4), some (.inl x5), some (.inl x6), o7] [.inl x4] Z (zri Q))
      exact z_reti (by rfl) (by rfl) v
  · have v := v2 h2; clear v1 v2
    show TZ (d + 1) 120 84 [some (.inr 0), some (.inl x1), some (.inl x2), some (.inl x3), some (.inl x4), some (.inl x5), some (.inl x6), o7] [] Z (zri Q)
    refine z0 (op := 5) (a := 0) (b := 0) (by rfl) (by rfl) (?_ : TZ (d + 1) 120 85 [some (.inr 0), some (.inl x1), some (.inl x2), some (.inl x3), some (.inl x4), some (.inl x5), some (.inl x6), o7] [.inr 0] Z (zri Q))
    refine z0 (op := 4) (a := 6) (b := 0) (by rfl) (by rfl) (?_ : TZ (d + 1) 120 87 [some (.inr 0), some (.inl x1), some (.inl x2), some (.inl x3), some (.inl x4), some (.inl x5), some (.inl x6), o7] [.inl x6, .inr 0] Z (zri Q))
    refine z0 (op := 3) (a := 3) (b := 0) (by rfl) (by rfl) (?_ : TZ (d + 1) 120 88 [some (.inr 0), some (.inl x1), some (.inl x2), some (.inl x3), some (.inl x4), some (.inl x5), some (.inl x6), o7] [.inl x3, .inl x6, .inr 0] Z (zri Q))
    refine z_vi (by rfl) (by rfl) cl_0 (TI.mono v fun r6 Z5 v => ?_)
    show TZ (d + 1) 120 91 [some (.inr 0), some (.inl x1), some (.inl x2), some (.inl x3), some (.inl x4), some (.inl x5), some (.inl x6), o7] [.inl r6] Z5 (zri Q)
    refine z0 (op := 8) (a := 7) (b := 0) (by rfl) (by rfl) (?_ : TZ (d + 1) 120 93 [some (.inr 0), some (.inl x1), some (.inl x2), some (.inl x3), some (.inl x4), some (.inl x5), some (.inl x6), some (.inl r6)] [] Z5 (zri Q))
    refine z0 (op := 4) (a := 7) (b := 0) (by rfl) (by rfl) (?_ : TZ (d + 1) 120 95 [some (.inr 0), some (.inl x1), some (.inl x2), some (.inl x3), some (.inl x4), some (.inl x5), some (.inl x6), some (.inl r6)] [.inl r6] Z5 (zri Q))
    refine z0 (op := 4) (a := 4) (b := 0) (by rfl) (by rfl) (?_ : TZ (d + 1) 120 97 [some (.inr 0), some (.inl x1), some (.inl x2), some (.inl x3), some (.inl x4), some (.inl x5), some (.inl x6), some (.inl r6)] [.inl x4, .inl r6] Z5 (zri Q))
    obtain ⟨c7, c8, v1, v2⟩ := v
    refine z_if2 (a := 3) (t := 108) (by rfl) (by rfl) c7 c8 (fun h9 => ?_) (fun h9 => ?_)
    · have v := v1 h9; clear v1 v2
      show TZ (d + 1) 120 108 [some (.inr 0), some (.inl x1), some (.inl x2), some (.inl x3), some (.inl x4), some (.inl x5), some (.inl x6), some (.inl r6)] [] Z5 (zri Q)
      refine z0 (op := 11) (a := 6) (b := 1) (by rfl) (by rfl) (?_ : TZ (d + 1) 120 111 [some (.inr 0), some (.inl x1), some (.inl x2), some (.inl x3), some (.inl x4), some (.inl x5), some (.inl (x6 + 1)), some (.inl r6)] [] Z5 (zri Q))
      refine z_goto (t := 78) (by rfl) (by rfl) (?_ : TZ (d + 1) 120 78 [some (.inr 0), some (.inl x1), some (.inl x2), some (.inl x3), some (.inl x4), some (.inl x5), some (.inl (x6 + 1)), some (.inl r6)] [] Z5 (zri Q))
      exact v
    · have v := v2 h9; clear v1 v2
      show TZ (d + 1) 120 100 [some (.inr 0), some (.inl x1), some (.inl x2), some (.inl x3), some (.inl x4), some (.inl x5), some (.inl x6), some (.inl r6)] [] Z5 (zri Q)
      refine z0 (op := 4) (a := 7) (b := 0) (by rfl) (by rfl) (?_ : TZ (d + 1) 120 102 [some (.inr 0), some (.inl x1), some (.inl x2), some (.inl x3), some (.inl x4), some (.inl x5), some (.inl x6), some (.inl r6)] [.inl r6] Z5 (zri Q))
      refine z0 (op := 8) (a := 4) (b := 0) (by rfl) (by rfl) (?_ : TZ (d + 1) 120 104 [some (.inr 0), some (.inl x1), some (.inl x2), some (.inl x3), some (.inl r6), some (.inl x5), some (.inl x6), some (.inl r6)] [] Z5 (zri Q))
      refine z0 (op := 4) (a := 6) (b := 0) (by rfl) (by rfl) (?_ : TZ (d + 1) 120 106 [some (.inr 0), some (.inl x1), some (.inl x2), some (.inl x3), some (.inl r6), some (.inl x5), some (.inl x6), some (.inl r6)] [.inl x6] Z5 (zri Q))
      refine z0 (op := 8) (a := 5) (b := 0) (by rfl) (by rfl) (?_ : TZ (d + 1) 120 108 [some (.inr 0), some (.inl x1), some (.inl x2), some (.inl x3), some (.inl r6), some (.inl x6), some (.inl x6), some (.inl r6)] [] Z5 (zri Q))
      refine z0 (op := 11) (a := 6) (b := 1) (by rfl) (by rfl) (?_ : TZ (d + 1) 120 111 [some (.inr 0), some (.inl x1), some (.inl x2), some (.inl x3), some (.inl r6), some (.inl x6), some (.inl (x6 + 1)), some (.inl r6)] [] Z5 (zri Q))
      refine z_goto (t := 78) (by rfl) (by rfl) (?_ : TZ (d + 1) 120 78 [some (.inr 0), some (.inl x1), some (.inl x2), some (.inl x3), some (.inl r6), some (.inl x6), some (.inl (x6 + 1)), some (.inl r6)] [] Z5 (zri Q))
      exact v
theorem w121_0 {d : Nat} {x1 x2 : Int} {Z : zM} {Q : Int → zM → Prop}
    (v : TZ d 121 5 [some (.inr 0), some (.inl x1), some (.inl x2), some (.inl x2), some (.inl 0)] [] Z (zri Q)) :
    TZ d 121 0 [some (.inr 0), some (.inl x1), some (.inl x2), none, none] [] Z (zri Q) := by
  refine z0 (op := 3) (a := 2) (b := 0) (by rfl) (by rfl) (?_ : TZ d 121 1 [some (.inr 0), some (.inl x1), some (.inl x2), none, none] [.inl x2] Z (zri Q))
  refine z0 (op := 7) (a := 3) (b := 0) (by rfl) (by rfl) (?_ : TZ d 121 2 [some (.inr 0), some (.inl x1), some (.inl x2), some (.inl x2), none] [] Z (zri Q))
  refine z0 (op := 0) (a := 0) (b := 0) (by rfl) (by rfl) (?_ : TZ d 121 3 [some (.inr 0), some (.inl x1), some (.inl x2), some (.inl x2), none] [.inl 0] Z (zri Q))
  refine z0 (op := 8) (a := 4) (b := 0) (by rfl) (by rfl) (?_ : TZ d 121 5 [some (.inr 0), some (.inl x1), some (.inl x2), some (.inl x2), some (.inl 0)] [] Z (zri Q))
  exact v
theorem w121_5 {d : Nat} {x1 x2 x3 x4 : Int} {Z : zM} {Q : Int → zM → Prop}
    (v : zR x4 ∧
      (5 ≤ x4 → Q x3 Z) ∧
      (¬ 5 ≤ x4 → (zR x4 ∧
          zR x1 ∧
          (x4 = x1 → TZ (d + 1) 121 5 [some (.inr 0), some (.inl x1), some (.inl x2), some (.inl x3), some (.inl (x4 + 1))] [] Z (zri Q)) ∧
          (¬ x4 = x1 → ((0 ≤ x4 ∧ x4 < 12) ∧
              zR x3 ∧
              zR (Z 44 x4) ∧ TZ (d + 1) 121 5 [some (.inr 0), some (.inl x1), some (.inl x2), some (.inl (max x3 (Z 44 x4))), some (.inl (x4 + 1))] [] Z (zri Q)))))) :
    TZ (d + 1) 121 5 [some (.inr 0), some (.inl x1), some (.inl x2), some (.inl x3), some (.inl x4)] [] Z (zri Q) := by
  refine z0 (op := 4) (a := 4) (b := 0) (by rfl) (by rfl) (?_ : TZ (d + 1) 121 7 [some (.inr 0), some (.inl x1), some (.inl x2), some (.inl x3), some (.inl x4)] [.inl x4] Z (zri Q))
  refine z0 (op := 0) (a := 0) (b := 5) (by rfl) (by rfl) (?_ : TZ (d + 1) 121 8 [some (.inr 0), some (.inl x1), some (.inl x2), some (.inl x3), some (.inl x4)] [.inl 5, .inl x4] Z (zri Q))
  obtain ⟨c1, v1, v2⟩ := v
  refine z_if2 (a := 3) (t := 35) (by rfl) (by rfl) c1 (by decide) (fun h2 => ?_) (fun h2 => ?_)
  · have v := v1 h2; clear v1 v2
    show TZ (d + 1) 121 35 [some (.inr 0), some (.inl x1), some (.inl x2), some (.inl x3), some (.inl x4)] [] Z (zri Q)
    refine z0 (op := 3) (a := 3) (b := 0) (by rfl) (by rfl) (?_ : TZ (d + 1) 121 36 [some (.inr 0), some (.inl x1), some (.inl x2), some (.inl x3), some (.inl x4)] [.inl x3] Z (zri Q))
    exact z_reti (by rfl) (by rfl) v
  · have v := v2 h2; clear v1 v2
    show TZ (d + 1) 121 11 [some (.inr 0), some (.inl x1), some (.inl x2), some (.inl x3), some (.inl x4)] [] Z (zri Q)
    refine z0 (op := 4) (a := 4) (b := 0) (by rfl) (by rfl) (?_ : TZ (d + 1) 121 13 [some (.inr 0), some (.inl x1), some (.inl x2), some (.inl x3), some (.inl x4)] [.inl x4] Z (zri Q))
    refine z0 (op := 3) (a := 1) (b := 0) (by rfl) (by rfl) (?_ : TZ (d + 1) 121 14 [some (.inr 0), some (.inl x1), some (.inl x2), some (.inl x3), some (.inl x4)] [.inl x1, .inl x4] Z (zri Q))
    obtain ⟨c3, c4, v1, v2⟩ := v
    refine z_if2 (a := 0) (t := 29) (by rfl) (by rfl) c3 c4 (fun h5 => ?_) (fun h5 => ?_)
    · have v := v1 h5; clear v1 v2
      show TZ (d + 1) 121 29 [some (.inr 0), some (.inl x1), some (.inl x2), some (.inl x3), some (.inl x4)] [] Z (zri Q)
      refine z0 (op := 11) (a := 4) (b := 1) (by rfl) (by rfl) (?_ : TZ (d + 1) 121 32 [some (.inr 0), some (.inl x1), some (.inl x2), some (.inl x3), some (.inl (x4 + 1))] [] Z (zri Q))
      refine z_goto (t := 5) (by rfl) (by rfl) (?_ : TZ (d + 1) 121 5 [some (.inr 0), some (.inl x1), some (.inl x2), some (.inl x3), some (.inl (x4 + 1))] [] Z (zri Q))
      exact v
    · have v := v2 h5; clear v1 v2
      show TZ (d + 1) 121 17 [some (.inr 0), some (.inl x1), some (.inl x2), some (.inl x3), some (.inl x4)] [] Z (zri Q)
      refine z0 (op := 3) (a := 3) (b := 0) (by rfl) (by rfl) (?_ : TZ (d + 1) 121 18 [some (.inr 0), some (.inl x1), some (.inl x2), some (.inl x3), some (.inl x4)] [.inl x3] Z (zri Q))
      refine z0 (op := 5) (a := 0) (b := 0) (by rfl) (by rfl) (?_ : TZ (d + 1) 121 19 [some (.inr 0), some (.inl x1), some (.inl x2), some (.inl x3), some (.inl x4)] [.inr 0, .inl x3] Z (zri Q))
      refine z_fr (by rfl) fr59_0 (?_ : TZ (d + 1) 121 22 [some (.inr 0), some (.inl x1), some (.inl x2), some (.inl x3), some (.inl x4)] [.inr 44, .inl x3] Z (zri Q))
      refine z0 (op := 4) (a := 4) (b := 0) (by rfl) (by rfl) (?_ : TZ (d + 1) 121 24 [some (.inr 0), some (.inl x1), some (.inl x2), some (.inl x3), some (.inl x4)] [.inl x4, .inr 44, .inl x3] Z (zri Q))
      obtain ⟨c6, v⟩ := v
      refine z_al (by rfl) ln_44 c6 (?_ : TZ (d + 1) 121 25 [some (.inr 0), some (.inl x1), some (.inl x2), some (.inl x3), some (.inl x4)] [.inl (Z 44 x4), .inl x3] Z (zri Q))
      obtain ⟨c7, c8, v⟩ := v
      refine z_max (by rfl) (by rfl) (Nat.le_of_ble_eq_true rfl) c7 c8 (?_ : TZ (d + 1) 121 28 [some (.inr 0), some (.inl x1), some (.inl x2), some (.inl x3), some (.inl x4)] [.inl (max x3 (Z 44 x4))] Z (zri Q))
      refine z0 (op := 7) (a := 3) (b := 0) (by rfl) (by rfl) (?_ : TZ (d + 1) 121 29 [some (.inr 0), some (.inl x1), some (.inl x2), some (.inl (max x3 (Z 44 x4))), some (.inl x4)] [] Z (zri Q))
      refine z0 (op := 11) (a := 4) (b := 1) (by rfl) (by rfl) (?_ : TZ (d + 1) 121 32 [some (.inr 0), some (.inl x1), some (.inl x2), some (.inl (max x3 (Z 44 x4))), some (.inl (x4 + 1))] [] Z (zri Q))
      refine z_goto (t := 5) (by rfl) (by rfl) (?_ : TZ (d + 1) 121 5 [some (.inr 0), some (.inl x1), some (.inl x2), some (.inl (max x3 (Z 44 x4))), some (.inl (x4 + 1))] [] Z (zri Q))
      exact v
theorem w122_0 {d : Nat} {x1 : Int} {Z : zM} {Q : Int → zM → Prop}
    (v : TZ d 122 4 [some (.inr 0), some (.inl x1), some (.inl 0), some (.inl 0)] [] Z (zri Q)) :
    TZ d 122 0 [some (.inr 0), some (.inl x1), none, none] [] Z (zri Q) := by
  refine z0 (op := 0) (a := 0) (b := 0) (by rfl) (by rfl) (?_ : TZ d 122 1 [some (.inr 0), some (.inl x1), none, none] [.inl 0] Z (zri Q))
  refine z0 (op := 7) (a := 2) (b := 0) (by rfl) (by rfl) (?_ : TZ d 122 2 [some (.inr 0), some (.inl x1), some (.inl 0), none] [] Z (zri Q))
  refine z0 (op := 0) (a := 0) (b := 0) (by rfl) (by rfl) (?_ : TZ d 122 3 [some (.inr 0), some (.inl x1), some (.inl 0), none] [.inl 0] Z (zri Q))
  refine z0 (op := 7) (a := 3) (b := 0) (by rfl) (by rfl) (?_ : TZ d 122 4 [some (.inr 0), some (.inl x1), some (.inl 0), some (.inl 0)] [] Z (zri Q))
  exact v
theorem w122_4 {d : Nat} {x1 x2 x3 : Int} {Z : zM} {Q : Int → zM → Prop}
    (v : zR x3 ∧
      (5 ≤ x3 → Q x2 Z) ∧
      (¬ 5 ≤ x3 → ((0 ≤ x3 ∧ x3 < 12) ∧
          zR x1 ∧
          zR (Z 44 x3) ∧
          zR x2 ∧
          zR (min x1 (Z 44 x3)) ∧ TZ (d + 1) 122 4 [some (.inr 0), some (.inl x1), some (.inl (max x2 (min x1 (Z 44 x3)))), some (.inl (x3 + 1))] [] Z (zri Q)))) :
    TZ (d + 1) 122 4 [some (.inr 0), some (.inl x1), some (.inl x2), some (.inl x3)] [] Z (zri Q) := by
  refine z0 (op := 3) (a := 3) (b := 0) (by rfl) (by rfl) (?_ : TZ (d + 1) 122 5 [some (.inr 0), some (.inl x1), some (.inl x2), some (.inl x3)] [.inl x3] Z (zri Q))
  refine z0 (op := 0) (a := 0) (b := 5) (by rfl) (by rfl) (?_ : TZ (d + 1) 122 6 [some (.inr 0), some (.inl x1), some (.inl x2), some (.inl x3)] [.inl 5, .inl x3] Z (zri Q))
  obtain ⟨c1, v1, v2⟩ := v
  refine z_if2 (a := 3) (t := 30) (by rfl) (by rfl) c1 (by decide) (fun h2 => ?_) (fun h2 => ?_)
  · have v := v1 h2; clear v1 v2
    show TZ (d + 1) 122 30 [some (.inr 0), some (.inl x1), some (.inl x2), some (.inl x3)] [] Z (zri Q)
    refine z0 (op := 3) (a := 2) (b := 0) (by rfl) (by rfl) (?_ : TZ (d + 1) 122 31 [some (.inr 0), some (.inl x1), some (.inl x2), some (.inl x3)] [.inl x2] Z (zri Q))
    exact z_reti (by rfl) (by rfl) v
  · have v := v2 h2; clear v1 v2
    show TZ (d + 1) 122 9 [some (.inr 0), some (.inl x1), some (.inl x2), some (.inl x3)] [] Z (zri Q)
    refine z0 (op := 3) (a := 2) (b := 0) (by rfl) (by rfl) (?_ : TZ (d + 1) 122 10 [some (.inr 0), some (.inl x1), some (.inl x2), some (.inl x3)] [.inl x2] Z (zri Q))
    refine z0 (op := 3) (a := 1) (b := 0) (by rfl) (by rfl) (?_ : TZ (d + 1) 122 11 [some (.inr 0), some (.inl x1), some (.inl x2), some (.inl x3)] [.inl x1, .inl x2] Z (zri Q))
    refine z0 (op := 5) (a := 0) (b := 0) (by rfl) (by rfl) (?_ : TZ (d + 1) 122 12 [some (.inr 0), some (.inl x1), some (.inl x2), some (.inl x3)] [.inr 0, .inl x1, .inl x2] Z (zri Q))
    refine z_fr (by rfl) fr59_0 (?_ : TZ (d + 1) 122 15 [some (.inr 0), some (.inl x1), some (.inl x2), some (.inl x3)] [.inr 44, .inl x1, .inl x2] Z (zri Q))
    refine z0 (op := 3) (a := 3) (b := 0) (by rfl) (by rfl) (?_ : TZ (d + 1) 122 16 [some (.inr 0), some (.inl x1), some (.inl x2), some (.inl x3)] [.inl x3, .inr 44, .inl x1, .inl x2] Z (zri Q))
    obtain ⟨c3, v⟩ := v
    refine z_al (by rfl) ln_44 c3 (?_ : TZ (d + 1) 122 17 [some (.inr 0), some (.inl x1), some (.inl x2), some (.inl x3)] [.inl (Z 44 x3), .inl x1, .inl x2] Z (zri Q))
    obtain ⟨c4, c5, v⟩ := v
    refine z_min (by rfl) (by rfl) (Nat.le_of_ble_eq_true rfl) c4 c5 (?_ : TZ (d + 1) 122 20 [some (.inr 0), some (.inl x1), some (.inl x2), some (.inl x3)] [.inl (min x1 (Z 44 x3)), .inl x2] Z (zri Q))
    obtain ⟨c6, c7, v⟩ := v
    refine z_max (by rfl) (by rfl) (Nat.le_of_ble_eq_true rfl) c6 c7 (?_ : TZ (d + 1) 122 23 [some (.inr 0), some (.inl x1), some (.inl x2), some (.inl x3)] [.inl (max x2 (min x1 (Z 44 x3)))] Z (zri Q))
    refine z0 (op := 7) (a := 2) (b := 0) (by rfl) (by rfl) (?_ : TZ (d + 1) 122 24 [some (.inr 0), some (.inl x1), some (.inl (max x2 (min x1 (Z 44 x3)))), some (.inl x3)] [] Z (zri Q))
    refine z0 (op := 11) (a := 3) (b := 1) (by rfl) (by rfl) (?_ : TZ (d + 1) 122 27 [some (.inr 0), some (.inl x1), some (.inl (max x2 (min x1 (Z 44 x3)))), some (.inl (x3 + 1))] [] Z (zri Q))
    refine z_goto (t := 4) (by rfl) (by rfl) (?_ : TZ (d + 1) 122 4 [some (.inr 0), some (.inl x1), some (.inl (max x2 (min x1 (Z 44 x3)))), some (.inl (x3 + 1))] [] Z (zri Q))
    exact v
theorem w123_0 {d : Nat} {x1 x2 : Int} {Z : zM} {Q : Int → zM → Prop}
    (v : TI d 76 [.inr 0, .inl x1] Z (fun r2 Z1 =>
      TI d 75 [.inl x2, .inl 1] Z1 (fun r4 Z3 =>
        TI d 72 [.inl r2, .inl r4] Z3 (fun r6 Z5 =>
          zR r6 ∧
            (r6 = 0 → TR d 97 [.inr 0] Z5 (fun r10 Z9 =>
                r10 = 19 ∧
                  (0 ≤ x1 ∧ x1 < 6) ∧ TZ (d + 1) 123 45 [some (.inr 0), some (.inl x1), some (.inl x2), some (.inl r6), some (.inr 19), some (.inl (Z9 23 x1)), some (.inl 0), some (.inl 1)] [] Z9 (zri Q))) ∧
            (¬ r6 = 0 → TI d 71 [.inr 0, .inl r6] Z5 (fun r13 Z12 =>
                Q r13 Z12)))))) :
    TZ (d + 1) 123 0 [some (.inr 0), some (.inl x1), some (.inl x2), none, none, none, none, none] [] Z (zri Q) := by
  refine z0 (op := 5) (a := 0) (b := 0) (by rfl) (by rfl) (?_ : TZ (d + 1) 123 1 [some (.inr 0), some (.inl x1), some (.inl x2), none, none, none, none, none] [.inr 0] Z (zri Q))
  refine z0 (op := 3) (a := 1) (b := 0) (by rfl) (by rfl) (?_ : TZ (d + 1) 123 2 [some (.inr 0), some (.inl x1), some (.inl x2), none, none, none, none, none] [.inl x1, .inr 0] Z (zri Q))
  refine z_vi (by rfl) (by rfl) cl_0 (TI.mono v fun r2 Z1 v => ?_)
  show TZ (d + 1) 123 5 [some (.inr 0), some (.inl x1), some (.inl x2), none, none, none, none, none] [.inl r2] Z1 (zri Q)
  refine z0 (op := 3) (a := 2) (b := 0) (by rfl) (by rfl) (?_ : TZ (d + 1) 123 6 [some (.inr 0), some (.inl x1), some (.inl x2), none, none, none, none, none] [.inl x2, .inl r2] Z1 (zri Q))
  refine z0 (op := 0) (a := 0) (b := 1) (by rfl) (by rfl) (?_ : TZ (d + 1) 123 7 [some (.inr 0), some (.inl x1), some (.inl x2), none, none, none, none, none] [.inl 1, .inl x2, .inl r2] Z1 (zri Q))
  refine z_si (by rfl) (by rfl) (TI.mono v fun r4 Z3 v => ?_)
  show TZ (d + 1) 123 10 [some (.inr 0), some (.inl x1), some (.inl x2), none, none, none, none, none] [.inl r4, .inl r2] Z3 (zri Q)
  refine z_si (by rfl) (by rfl) (TI.mono v fun r6 Z5 v => ?_)
  show TZ (d + 1) 123 13 [some (.inr 0), some (.inl x1), some (.inl x2), none, none, none, none, none] [.inl r6] Z5 (zri Q)
  refine z0 (op := 7) (a := 3) (b := 0) (by rfl) (by rfl) (?_ : TZ (d + 1) 123 14 [some (.inr 0), some (.inl x1), some (.inl x2), some (.inl r6), none, none, none, none] [] Z5 (zri Q))
  refine z0 (op := 3) (a := 3) (b := 0) (by rfl) (by rfl) (?_ : TZ (d + 1) 123 15 [some (.inr 0), some (.inl x1), some (.inl x2), some (.inl r6), none, none, none, none] [.inl r6] Z5 (zri Q))
  obtain ⟨c7, v1, v2⟩ := v
  refine z_if0 (a := 0) (t := 24) (by rfl) (by rfl) c7 (fun h8 => ?_) (fun h8 => ?_)
  · have v := v1 h8; clear v1 v2
    show TZ (d + 1) 123 24 [some (.inr 0), some (.inl x1), some (.inl x2), some (.inl r6), none, none, none, none] [] Z5 (zri Q)
    refine z0 (op := 5) (a := 0) (b := 0) (by rfl) (by rfl) (?_ : TZ (d + 1) 123 25 [some (.inr 0), some (.inl x1), some (.inl x2), some (.inl r6), none, none, none, none] [.inr 0] Z5 (zri Q))
    refine z_vr (by rfl) (by rfl) cl_0 (TR.mono v fun r10 Z9 v => ?_)
    obtain ⟨er10, v⟩ := v
    subst er10
    show TZ (d + 1) 123 28 [some (.inr 0), some (.inl x1), some (.inl x2), some (.inl r6), none, none, none, none] [.inr 19] Z9 (zri Q)
    refine z0 (op := 10) (a := 4) (b := 0) (by rfl) (by rfl) (?_ : TZ (d + 1) 123 30 [some (.inr 0), some (.inl x1), some (.inl x2), some (.inl r6), some (.inr 19), none, none, none] [] Z9 (zri Q))
    refine z0 (op := 6) (a := 4) (b := 0) (by rfl) (by rfl) (?_ : TZ (d + 1) 123 32 [some (.inr 0), some (.inl x1), some (.inl x2), some (.inl r6), some (.inr 19), none, none, none] [.inr 19] Z9 (zri Q))
    refine z_fr (by rfl) fr76_19 (?_ : TZ (d + 1) 123 35 [some (.inr 0), some (.inl x1), some (.inl x2), some (.inl r6), some (.inr 19), none, none, none] [.inr 23] Z9 (zri Q))
    refine z0 (op := 3) (a := 1) (b := 0) (by rfl) (by rfl) (?_ : TZ (d + 1) 123 36 [some (.inr 0), some (.inl x1), some (.inl x2), some (.inl r6), some (.inr 19), none, none, none] [.inl x1, .inr 23] Z9 (zri Q))
    obtain ⟨c11, v⟩ := v
    refine z_al (by rfl) ln_23 c11 (?_ : TZ (d + 1) 123 37 [some (.inr 0), some (.inl x1), some (.inl x2), some (.inl r6), some (.inr 19), none, none, none] [.inl (Z9 23 x1)] Z9 (zri Q))
    refine z0 (op := 8) (a := 5) (b := 0) (by rfl) (by rfl) (?_ : TZ (d + 1) 123 39 [some (.inr 0), some (.inl x1), some (.inl x2), some (.inl r6), some (.inr 19), some (.inl (Z9 23 x1)), none, none] [] Z9 (zri Q))
    refine z0 (op := 0) (a := 0) (b := 0) (by rfl) (by rfl) (?_ : TZ (d + 1) 123 40 [some (.inr 0), some (.inl x1), some (.inl x2), some (.inl r6), some (.inr 19), some (.inl (Z9 23 x1)), none, none] [.inl 0] Z9 (zri Q))
    refine z0 (op := 8) (a := 6) (b := 0) (by rfl) (by rfl) (?_ : TZ (d + 1) 123 42 [some (.inr 0), some (.inl x1), some (.inl x2), some (.inl r6), some (.inr 19), some (.inl (Z9 23 x1)), some (.inl 0), none] [] Z9 (zri Q))
    refine z0 (op := 0) (a := 0) (b := 1) (by rfl) (by rfl) (?_ : TZ (d + 1) 123 43 [some (.inr 0), some (.inl x1), some (.inl x2), some (.inl r6), some (.inr 19), some (.inl (Z9 23 x1)), some (.inl 0), none] [.inl 1] Z9 (zri Q))
    refine z0 (op := 8) (a := 7) (b := 0) (by rfl) (by rfl) (?_ : TZ (d + 1) 123 45 [some (.inr 0), some (.inl x1), some (.inl x2), some (.inl r6), some (.inr 19), some (.inl (Z9 23 x1)), some (.inl 0), some (.inl 1)] [] Z9 (zri Q))
    exact v
  · have v := v2 h8; clear v1 v2
    show TZ (d + 1) 123 18 [some (.inr 0), some (.inl x1), some (.inl x2), some (.inl r6), none, none, none, none] [] Z5 (zri Q)
    refine z0 (op := 5) (a := 0) (b := 0) (by rfl) (by rfl) (?_ : TZ (d + 1) 123 19 [some (.inr 0), some (.inl x1), some (.inl x2), some (.inl r6), none, none, none, none] [.inr 0] Z5 (zri Q))
    refine z0 (op := 3) (a := 3) (b := 0) (by rfl) (by rfl) (?_ : TZ (d + 1) 123 20 [some (.inr 0), some (.inl x1), some (.inl x2), some (.inl r6), none, none, none, none] [.inl r6, .inr 0] Z5 (zri Q))
    refine z_vi (by rfl) (by rfl) cl_0 (TI.mono v fun r13 Z12 v => ?_)
    show TZ (d + 1) 123 23 [some (.inr 0), some (.inl x1), some (.inl x2), some (.inl r6), none, none, none, none] [.inl r13] Z12 (zri Q)
    exact z_reti (by rfl) (by rfl) v
