/-! what stretches of code need of integers -/
theorem w75_0 {d : Nat} {x0 x1 : Int} {Z : zM} {Q : Int → zM → Prop}
    (v : zR x0 ∧
      (x0 < 0 → Q (-2) Z) ∧
      (¬ x0 < 0 → (zR x0 ∧
          zR x1 ∧
          (x0 ≤ x1 → Q 0 Z) ∧
          (¬ x0 ≤ x1 → Q (-2) Z)))) :
    TZ d 75 0 [some (.inl x0), some (.inl x1)] [] Z (zri Q) := by
  refine z0 (op := 3) (a := 0) (b := 0) (by rfl) (by rfl) (?_ : TZ d 75 1 [some (.inl x0), some (.inl x1)] [.inl x0] Z (zri Q))
  obtain ⟨c1, v1, v2⟩ := v
  refine z_if0 (a := 2) (t := 9) (by rfl) (by rfl) c1 (fun h2 => ?_) (fun h2 => ?_)
  · have v := v1 h2; clear v1 v2
    show TZ d 75 9 [some (.inl x0), some (.inl x1)] [] Z (zri Q)
    refine z0 (op := 1) (a := 0) (b := (-2)) (by rfl) (by rfl) (?_ : TZ d 75 11 [some (.inl x0), some (.inl x1)] [.inl (-2)] Z (zri Q))
    refine z_goto (t := 15) (by rfl) (by rfl) (?_ : TZ d 75 15 [some (.inl x0), some (.inl x1)] [.inl (-2)] Z (zri Q))
    exact z_reti (by rfl) (by rfl) v
  · have v := v2 h2; clear v1 v2
    show TZ d 75 4 [some (.inl x0), some (.inl x1)] [] Z (zri Q)
    refine z0 (op := 3) (a := 0) (b := 0) (by rfl) (by rfl) (?_ : TZ d 75 5 [some (.inl x0), some (.inl x1)] [.inl x0] Z (zri Q))
    refine z0 (op := 3) (a := 1) (b := 0) (by rfl) (by rfl) (?_ : TZ d 75 6 [some (.inl x0), some (.inl x1)] [.inl x1, .inl x0] Z (zri Q))
    obtain ⟨c3, c4, v1, v2⟩ := v
    refine z_if2 (a := 5) (t := 14) (by rfl) (by rfl) c3 c4 (fun h5 => ?_) (fun h5 => ?_)
    · have v := v1 h5; clear v1 v2
      show TZ d 75 14 [some (.inl x0), some (.inl x1)] [] Z (zri Q)
      refine z0 (op := 0) (a := 0) (b := 0) (by rfl) (by rfl) (?_ : TZ d 75 15 [some (.inl x0), some (.inl x1)] [.inl 0] Z (zri Q))
      exact z_reti (by rfl) (by rfl) v
    · have v := v2 h5; clear v1 v2
      show TZ d 75 9 [some (.inl x0), some (.inl x1)] [] Z (zri Q)
      refine z0 (op := 1) (a := 0) (b := (-2)) (by rfl) (by rfl) (?_ : TZ d 75 11 [some (.inl x0), some (.inl x1)] [.inl (-2)] Z (zri Q))
      refine z_goto (t := 15) (by rfl) (by rfl) (?_ : TZ d 75 15 [some (.inl x0), some (.inl x1)] [.inl (-2)] Z (zri Q))
      exact z_reti (by rfl) (by rfl) v
theorem w76_0 {d : Nat} {x1 : Int} {Z : zM} {Q : Int → zM → Prop}
    (v : TI d 15 [.inr 1, .inl x1] Z (fun r2 Z1 =>
      zR r2 ∧
        (r2 = 0 → Q (-1) Z1) ∧
        (¬ r2 = 0 → Q 0 Z1))) :
    TZ (d + 1) 76 0 [some (.inr 0), some (.inl x1)] [] Z (zri Q) := by
  refine z0 (op := 5) (a := 0) (b := 0) (by rfl) (by rfl) (?_ : TZ (d + 1) 76 1 [some (.inr 0), some (.inl x1)] [.inr 0] Z (zri Q))
  refine z_fr (by rfl) fr50_0 (?_ : TZ (d + 1) 76 4 [some (.inr 0), some (.inl x1)] [.inr 1] Z (zri Q))
  refine z0 (op := 3) (a := 1) (b := 0) (by rfl) (by rfl) (?_ : TZ (d + 1) 76 5 [some (.inr 0), some (.inl x1)] [.inl x1, .inr 1] Z (zri Q))
  refine z_vi (by rfl) (by rfl) cl_1 (TI.mono v fun r2 Z1 v => ?_)
  show TZ (d + 1) 76 8 [some (.inr 0), some (.inl x1)] [.inl r2] Z1 (zri Q)
  obtain ⟨c3, v1, v2⟩ := v
  refine z_if0 (a := 0) (t := 15) (by rfl) (by rfl) c3 (fun h4 => ?_) (fun h4 => ?_)
  · have v := v1 h4; clear v1 v2
    show TZ (d + 1) 76 15 [some (.inr 0), some (.inl x1)] [] Z1 (zri Q)
    refine z0 (op := 0) (a := 0) (b := (-1)) (by rfl) (by rfl) (?_ : TZ (d + 1) 76 16 [some (.inr 0), some (.inl x1)] [.inl (-1)] Z1 (zri Q))
    exact z_reti (by rfl) (by rfl) v
  · have v := v2 h4; clear v1 v2
    show TZ (d + 1) 76 11 [some (.inr 0), some (.inl x1)] [] Z1 (zri Q)
    refine z0 (op := 0) (a := 0) (b := 0) (by rfl) (by rfl) (?_ : TZ (d + 1) 76 12 [some (.inr 0), some (.inl x1)] [.inl 0] Z1 (zri Q))
    refine z_goto (t := 16) (by rfl) (by rfl) (?_ : TZ (d + 1) 76 16 [some (.inr 0), some (.inl x1)] [.inl 0] Z1 (zri Q))
    exact z_reti (by rfl) (by rfl) v
theorem w77_0 {d : Nat} {x1 : Int} {Z : zM} {Q : Int → zM → Prop}
    (v : TI d 16 [.inr 1, .inl x1] Z (fun r2 Z1 =>
      zR r2 ∧
        (r2 = 0 → Q (-1) Z1) ∧
        (¬ r2 = 0 → Q 0 Z1))) :
    TZ (d + 1) 77 0 [some (.inr 0), some (.inl x1)] [] Z (zri Q) := by
  refine z0 (op := 5) (a := 0) (b := 0) (by rfl) (by rfl) (?_ : TZ (d + 1) 77 1 [some (.inr 0), some (.inl x1)] [.inr 0] Z (zri Q))
  refine z_fr (by rfl) fr50_0 (?_ : TZ (d + 1) 77 4 [some (.inr 0), some (.inl x1)] [.inr 1] Z (zri Q))
  refine z0 (op := 3) (a := 1) (b := 0) (by rfl) (by rfl) (?_ : TZ (d + 1) 77 5 [some (.inr 0), some (.inl x1)] [.inl x1, .inr 1] Z (zri Q))
  refine z_vi (by rfl) (by rfl) cl_1 (TI.mono v fun r2 Z1 v => ?_)
  show TZ (d + 1) 77 8 [some (.inr 0), some (.inl x1)] [.inl r2] Z1 (zri Q)
  obtain ⟨c3, v1, v2⟩ := v
  refine z_if0 (a := 0) (t := 15) (by rfl) (by rfl) c3 (fun h4 => ?_) (fun h4 => ?_)
  · have v := v1 h4; clear v1 v2
    show TZ (d + 1) 77 15 [some (.inr 0), some (.inl x1)] [] Z1 (zri Q)
    refine z0 (op := 0) (a := 0) (b := (-1)) (by rfl) (by rfl) (?_ : TZ (d + 1) 77 16 [some (.inr 0), some (.inl x1)] [.inl (-1)] Z1 (zri Q))
    exact z_reti (by rfl) (by rfl) v
  · have v := v2 h4; clear v1 v2
    show TZ (d + 1) 77 11 [some (.inr 0), some (.inl x1)] [] Z1 (zri Q)
    refine z0 (op := 0) (a := 0) (b := 0) (by rfl) (by rfl) (?_ : TZ (d + 1) 77 12 [some (.inr 0), some (.inl x1)] [.inl 0] Z1 (zri Q))
    refine z_goto (t := 16) (by rfl) (by rfl) (?_ : TZ (d + 1) 77 16 [some (.inr 0), some (.inl x1)] [.inl 0] Z1 (zri Q))
    exact z_reti (by rfl) (by rfl) v
theorem w79_0 {d : Nat} {x1 : Int} {Z : zM} {Q : Int → zM → Prop}
    (v : TI d 73 [.inl x1, .inl 0, .inl 255] Z (fun r2 Z1 =>
      zR r2 ∧
        (r2 ≠ 0 → (zR r2 ∧
            (r2 = 0 → TI d 65 [.inr 37, .inl x1] Z1 (fun r8 Z7 =>
                Q r8 Z7)) ∧
            (¬ r2 = 0 → TI d 71 [.inr 0, .inl r2] Z1 (fun r10 Z9 =>
                Q r10 Z9)))) ∧
        (¬ r2 ≠ 0 → (zR (Z1 37 1) ∧
            ((Z1 37 1) < 96 → (zR r2 ∧
                (r2 = 0 → TI d 65 [.inr 37, .inl x1] Z1 (fun r16 Z15 =>
                    Q r16 Z15)) ∧
                (¬ r2 = 0 → TI d 71 [.inr 0, .inl r2] Z1 (fun r18 Z17 =>
                    Q r18 Z17)))) ∧
            (¬ (Z1 37 1) < 96 → TI d 71 [.inr 0, .inl (-6)] Z1 (fun r20 Z19 =>
                Q r20 Z19)))))) :
    TZ (d + 1) 79 0 [some (.inr 0), some (.inl x1), none] [] Z (zri Q) := by
  refine z0 (op := 3) (a := 1) (b := 0) (by rfl) (by rfl) (?_ : TZ (d + 1) 79 1 [some (.inr 0), some (.inl x1), none] [.inl x1] Z (zri Q))
  refine z0 (op := 0) (a := 0) (b := 0) (by rfl) (by rfl) (?_ : TZ (d + 1) 79 2 [some (.inr 0), some (.inl x1), none] [.inl 0, .inl x1] Z (zri Q))
  refine z0 (op := 2) (a := 0) (b := 255) (by rfl) (by rfl) (?_ : TZ (d + 1) 79 5 [some (.inr 0), some (.inl x1), none] [.inl 255, .inl 0, .inl x1] Z (zri Q))
  refine z_si (by rfl) (by rfl) (TI.mono v fun r2 Z1 v => ?_)
  show TZ (d + 1) 79 8 [some (.inr 0), some (.inl x1), none] [.inl r2] Z1 (zri Q)
  refine z0 (op := 7) (a := 2) (b := 0) (by rfl) (by rfl) (?_ : TZ (d + 1) 79 9 [some (.inr 0), some (.inl x1), some (.inl r2)] [] Z1 (zri Q))
  refine z0 (op := 3) (a := 2) (b := 0) (by rfl) (by rfl) (?_ : TZ (d + 1) 79 10 [some (.inr 0), some (.inl x1), some (.inl r2)] [.inl r2] Z1 (zri Q))
  obtain ⟨c3, v1, v2⟩ := v
  refine z_if0 (a := 1) (t := 28) (by rfl) (by rfl) c3 (fun h4 => ?_) (fun h4 => ?_)
  · have v := v1 h4; clear v1 v2
    show TZ (d + 1) 79 28 [some (.inr 0), some (.inl x1), some (.inl r2)] [] Z1 (zri Q)
    refine z0 (op := 3) (a := 2) (b := 0) (by rfl) (by rfl) (?_ : TZ (d + 1) 79 29 [some (.inr 0), some (.inl x1), some (.inl r2)] [.inl r2] Z1 (zri Q))
    obtain ⟨c5, v1, v2⟩ := v
    refine z_if0 (a := 0) (t := 38) (by rfl) (by rfl) c5 (fun h6 => ?_) (fun h6 => ?_)
    · have v := v1 h6; clear v1 v2
      show TZ (d + 1) 79 38 [some (.inr 0), some (.inl x1), some (.inl r2)] [] Z1 (zri Q)
      refine z0 (op := 5) (a := 0) (b := 0) (by rfl) (by rfl) (?_ : TZ (d + 1) 79 39 [some (.inr 0), some (.inl x1), some (.inl r2)] [.inr 0] Z1 (zri Q))
      refine z_fr (by rfl) fr56_0 (?_ : TZ (d + 1) 79 42 [some (.inr 0), some (.inl x1), some (.inl r2)] [.inr 37] Z1 (zri Q))
      refine z0 (op := 3) (a := 1) (b := 0) (by rfl) (by rfl) (?_ : TZ (d + 1) 79 43 [some (.inr 0), some (.inl x1), some (.inl r2)] [.inl x1, .inr 37] Z1 (zri Q))
      refine z_vi (by rfl) (by rfl) cl_37 (TI.mono v fun r8 Z7 v => ?_)
      show TZ (d + 1) 79 46 [some (.inr 0), some (.inl x1), some (.inl r2)] [.inl r8] Z7 (zri Q)
      exact z_reti (by rfl) (by rfl) v
    · have v := v2 h6; clear v1 v2
      show TZ (d + 1) 79 32 [some (.inr 0), some (.inl x1), some (.inl r2)] [] Z1 (zri Q)
      refine z0 (op := 5) (a := 0) (b := 0) (by rfl) (by rfl) (?_ : TZ (d + 1) 79 33 [some (.inr 0), some (.inl x1), some (.inl r2)] [.inr 0] Z1 (zri Q))
      refine z0 (op := 3) (a := 2) (b := 0) (by rfl) (by rfl) (?_ : TZ (d + 1) 79 34 [some (.inr 0), some (.inl x1), some (.inl r2)] [.inl r2, .inr 0] Z1 (zri Q))
      refine z_vi (by rfl) (by rfl) cl_0 (TI.mono v fun r10 Z9 v => ?_)
      show TZ (d + 1) 79 37 [some (.inr 0), some (.inl x1), some (.inl r2)] [.inl r10] Z9 (zri Q)
      exact z_reti (by rfl) (by rfl) v
  · have v := v2 h4; clear v1 v2
    show TZ (d + 1) 79 13 [some (.inr 0), some (.inl x1), some (.inl r2)] [] Z1 (zri Q)
    refine z0 (op := 5) (a := 0) (b := 0) (by rfl) (by rfl) (?_ : TZ (d + 1) 79 14 [some (.inr 0), some (.inl x1), some (.inl r2)] [.inr 0] Z1 (zri Q))
    refine z_fr (by rfl) fr56_0 (?_ : TZ (d + 1) 79 17 [some (.inr 0), some (.inl x1), some (.inl r2)] [.inr 37] Z1 (zri Q))
    refine z_fi (by rfl) fi68_37 (?_ : TZ (d + 1) 79 20 [some (.inr 0), some (.inl x1), some (.inl r2)] [.inl (Z1 37 1)] Z1 (zri Q))
    refine z0 (op := 1) (a := 0) (b := 96) (by rfl) (by rfl) (?_ : TZ (d + 1) 79 22 [some (.inr 0), some (.inl x1), some (.inl r2)] [.inl 96, .inl (Z1 37 1)] Z1 (zri Q))
    obtain ⟨c11, v1, v2⟩ := v
    refine z_if2 (a := 2) (t := 28) (by rfl) (by rfl) c11 (by decide) (fun h12 => ?_) (fun h12 => ?_)
    · have v := v1 h12; clear v1 v2
      show TZ (d + 1) 79 28 [some (.inr 0), some (.inl x1), some (.inl r2)] [] Z1 (zri Q)
      refine z0 (op := 3) (a := 2) (b := 0) (by rfl) (by rfl) (?_ : TZ (d + 1) 79 29 [some (.inr 0), some (.inl x1), some (.inl r2)] [.inl r2] Z1 (zri Q))
      obtain ⟨c13, v1, v2⟩ := v
      refine z_if0 (a := 0) (t := 38) (by rfl) (by rfl) c13 (fun h14 => ?_) (fun h14 => ?_)
      · have v := v1 h14; clear v1 v2
        show TZ (d + 1) 79 38 [some (.inr 0), some (.inl x1), some (.inl r2)] [] Z1 (zri Q)
        refine z0 (op := 5) (a := 0) (b := 0) (by rfl) (by rfl) (?_ : TZ (d + 1) 79 39 [some (.inr 0), some (.inl x1), some (.inl r2)] [.inr 0] Z1 (zri Q))
        refine z_fr (by rfl) fr56_0 (?_ : TZ (d + 1) 79 42 [some (.inr 0), some (.inl x1), some (.inl r2)] [.inr 37] Z1 (zri Q))
        refine z0 (op := 3) (a := 1) (b := 0) (by rfl) (by rfl) (?_ : TZ (d + 1) 79 43 [some (.inr 0), some (.inl x1), some (.inl r2)] [.inl x1, .inr 37] Z1 (zri Q))
        refine z_vi (by rfl) (by rfl) cl_37 (TI.mono v fun r16 Z15 v => ?_)
        show TZ (d + 1) 79 46 [some (.inr 0), some (.inl x1), some (.inl r2)] [.inl r16] Z15 (zri Q)
        exact z_reti (by rfl) (by rfl) v
      · have v := v2 h14; clear v1 v2
        show TZ (d + 1) 79 32 [some (.inr 0), some (.inl x1), some (.inl r2)] [] Z1 (zri Q)
        refine z0 (op := 5) (a := 0) (b := 0) (by rfl) (by rfl) (?_ : TZ (d + 1) 79 33 [some (.inr 0), some (.inl x1), some (.inl r2)] [.inr 0] Z1 (zri Q))
        refine z0 (op := 3) (a := 2) (b := 0) (by rfl) (by rfl) (?_ : TZ (d + 1) 79 34 [some (.inr 0), some (.inl x1), some (.inl r2)] [.inl r2, .inr 0] Z1 (zri Q))
        refine z_vi (by rfl) (by rfl) cl_0 (TI.mono v fun r18 Z17 v => ?_)
        show TZ (d + 1) 79 37 [some (.inr 0), some (.inl x1), some (.inl r2)] [.inl r18] Z17 (zri Q)
        exact z_reti (by rfl) (by rfl) v
    · have v := v2 h12; clear v1 v2
      show TZ (d + 1) 79 25 [some (.inr 0), some (.inl x1), some (.inl r2)] [] Z1 (zri Q)
      refine z0 (op := 1) (a := 0) (b := (-6)) (by rfl) (by rfl) (?_ : TZ (d + 1) 79 27 [some (.inr 0), some (.inl x1), some (.inl r2)] [.inl (-6)] Z1 (zri Q))
      refine z0 (op := 7) (a := 2) (b := 0) (by rfl) (by rfl) (?_ : TZ (d + 1) 79 28 [some (.inr 0), some (.inl x1), some (.inl (-6))] [] Z1 (zri Q))
      refine z0 (op := 3) (a := 2) (b := 0) (by rfl) (by rfl) (?_ : TZ (d + 1) 79 29 [some (.inr 0), some (.inl x1), some (.inl (-6))] [.inl (-6)] Z1 (zri Q))
      refine z_if0 (a := 0) (t := 38) (by rfl) (by rfl) (by decide) (fun h => absurd (show ((-6) : Int) = (0 : Int) from h) (by decide)) (fun _ => ?_)
      show TZ (d + 1) 79 32 [some (.inr 0), some (.inl x1), some (.inl (-6))] [] Z1 (zri Q)
      refine z0 (op := 5) (a := 0) (b := 0) (by rfl) (by rfl) (?_ : TZ (d + 1) 79 33 [some (.inr 0), some (.inl x1), some (.inl (-6))] [.inr 0] Z1 (zri Q))
      refine z0 (op := 3) (a := 2) (b := 0) (by rfl) (by rfl) (?_ : TZ (d + 1) 79 34 [some (.inr 0), some (.inl x1), some (.inl (-6))] [.inl (-6), .inr 0] Z1 (zri Q))
      refine z_vi (by rfl) (by rfl) cl_0 (TI.mono v fun r20 Z19 v => ?_)
      show TZ (d + 1) 79 37 [some (.inr 0), some (.inl x1), some (.inl (-6))] [.inl r20] Z19 (zri Q)
      exact z_reti (by rfl) (by rfl) v
theorem w80_0 {d : Nat} {Z : zM} {Q : Int → zM → Prop}
    (v : TI d 69 [.inr 37] Z (fun r2 Z1 =>
      zR r2 ∧
        (r2 < 0 → TI d 81 [.inr 0] Z1 (fun r6 Z5 =>
            ∀ Z7, Z7 = zup Z5 37 1 0 →
              Q r6 Z7)) ∧
        (¬ r2 < 0 → ∀ Z8, Z8 = zup Z1 37 1 0 →
            Q ((-1000) - r2) Z8))) :
    TZ (d + 1) 80 0 [some (.inr 0), none, none] [] Z (zri Q) := by
  refine z0 (op := 5) (a := 0) (b := 0) (by rfl) (by rfl) (?_ : TZ (d + 1) 80 1 [some (.inr 0), none, none] [.inr 0] Z (zri Q))
  refine z_fr (by rfl) fr56_0 (?_ : TZ (d + 1) 80 4 [some (.inr 0), none, none] [.inr 37] Z (zri Q))
  refine z_vi (by rfl) (by rfl) cl_37 (TI.mono v fun r2 Z1 v => ?_)
  show TZ (d + 1) 80 7 [some (.inr 0), none, none] [.inl r2] Z1 (zri Q)
  refine z0 (op := 7) (a := 1) (b := 0) (by rfl) (by rfl) (?_ : TZ (d + 1) 80 8 [some (.inr 0), some (.inl r2), none] [] Z1 (zri Q))
  refine z0 (op := 3) (a := 1) (b := 0) (by rfl) (by rfl) (?_ : TZ (d + 1) 80 9 [some (.inr 0), some (.inl r2), none] [.inl r2] Z1 (zri Q))
  obtain ⟨c3, v1, v2⟩ := v
  refine z_if0 (a := 2) (t := 20) (by rfl) (by rfl) c3 (fun h4 => ?_) (fun h4 => ?_)
  · have v := v1 h4; clear v1 v2
    show TZ (d + 1) 80 20 [some (.inr 0), some (.inl r2), none] [] Z1 (zri Q)
    refine z0 (op := 5) (a := 0) (b := 0) (by rfl) (by rfl) (?_ : TZ (d + 1) 80 21 [some (.inr 0), some (.inl r2), none] [.inr 0] Z1 (zri Q))
    refine z_vi (by rfl) (by rfl) cl_0 (TI.mono v fun r6 Z5 v => ?_)
    show TZ (d + 1) 80 24 [some (.inr 0), some (.inl r2), none] [.inl r6] Z5 (zri Q)
    refine z0 (op := 7) (a := 2) (b := 0) (by rfl) (by rfl) (?_ : TZ (d + 1) 80 25 [some (.inr 0), some (.inl r2), some (.inl r6)] [] Z5 (zri Q))
    refine z0 (op := 5) (a := 0) (b := 0) (by rfl) (by rfl) (?_ : TZ (d + 1) 80 26 [some (.inr 0), some (.inl r2), some (.inl r6)] [.inr 0] Z5 (zri Q))
    refine z_fr (by rfl) fr56_0 (?_ : TZ (d + 1) 80 29 [some (.inr 0), some (.inl r2), some (.inl r6)] [.inr 37] Z5 (zri Q))
    refine z0 (op := 0) (a := 0) (b := 0) (by rfl) (by rfl) (?_ : TZ (d + 1) 80 30 [some (.inr 0), some (.inl r2), some (.inl r6)] [.inl 0, .inr 37] Z5 (zri Q))
    obtain ⟨Z7, eZ7⟩ : ∃ q, q = zup Z5 37 1 0 := ⟨_, rfl⟩
    have v := v Z7 eZ7
    refine z_pf (by rfl) pf68_37 (fun h => nomatch h) ?_
    show TZ (d + 1) 80 33 [some (.inr 0), some (.inl r2), some (.inl r6)] [] (zup Z5 37 1 0) _
    rw [← eZ7]
    refine z0 (op := 3) (a := 2) (b := 0) (by rfl) (by rfl) (?_ : TZ (d + 1) 80 34 [some (.inr 0), some (.inl r2), some (.inl r6)] [.inl r6] Z7 (zri Q))
    exact z_reti (by rfl) (by rfl) v
  · have v := v2 h4; clear v1 v2
    show TZ (d + 1) 80 12 [some (.inr 0), some (.inl r2), none] [] Z1 (zri Q)
    refine z0 (op := 2) (a := 0) (b := (-1000)) (by rfl) (by rfl) (?_ : TZ (d + 1) 80 15 [some (.inr 0), some (.inl r2), none] [.inl (-1000)] Z1 (zri Q))
    refine z0 (op := 3) (a := 1) (b := 0) (by rfl) (by rfl) (?_ : TZ (d + 1) 80 16 [some (.inr 0), some (.inl r2), none] [.inl r2, .inl (-1000)] Z1 (zri Q))
    refine z0 (op := 12) (a := 1) (b := 0) (by rfl) (by rfl) (?_ : TZ (d + 1) 80 17 [some (.inr 0), some (.inl r2), none] [.inl ((-1000) - r2)] Z1 (zri Q))
    refine z_goto (t := 24) (by rfl) (by rfl) (?_ : TZ (d + 1) 80 24 [some (.inr 0), some (.inl r2), none] [.inl ((-1000) - r2)] Z1 (zri Q))
    refine z0 (op := 7) (a := 2) (b := 0) (by rfl) (by rfl) (?_ : TZ (d + 1) 80 25 [some (.inr 0), some (.inl r2), some (.inl ((-1000) - r2))] [] Z1 (zri Q))
    refine z0 (op := 5) (a := 0) (b := 0) (by rfl) (by rfl) (?_ : TZ (d + 1) 80 26 [some (.inr 0), some (.inl r2), some (.inl ((-1000) - r2))] [.inr 0] Z1 (zri Q))
    refine z_fr (by rfl) fr56_0 (?_ : TZ (d + 1) 80 29 [some (.inr 0), some (.inl r2), some (.inl ((-1000) - r2))] [.inr 37] Z1 (zri Q))
    refine z0 (op := 0) (a := 0) (b := 0) (by rfl) (by rfl) (?_ : TZ (d + 1) 80 30 [some (.inr 0), some (.inl r2), some (.inl ((-1000) - r2))] [.inl 0, .inr 37] Z1 (zri Q))
    obtain ⟨Z8, eZ8⟩ : ∃ q, q = zup Z1 37 1 0 := ⟨_, rfl⟩
    have v := v Z8 eZ8
    refine z_pf (by rfl) pf68_37 (fun h => nomatch h) ?_
    show TZ (d + 1) 80 33 [some (.inr 0), some (.inl r2), some (.inl ((-1000) - r2))] [] (zup Z1 37 1 0) _
    rw [← eZ8]
    refine z0 (op := 3) (a := 2) (b := 0) (by rfl) (by rfl) (?_ : TZ (d + 1) 80 34 [some (.inr 0), some (.inl r2), some (.inl ((-1000) - r2))] [.inl ((-1000) - r2)] Z8 (zri Q))
    exact z_reti (by rfl) (by rfl) v
theorem w81_0 {d : Nat} {Z : zM} {Q : Int → zM → Prop}
    (v : TV d 12 [.inr 13, .inr 1] Z (fun Z1 =>
      TZ (d + 1) 81 15 [some (.inr 0), some (.inl 0), some (.inl 0)] [] Z1 (zri Q))) :
    TZ (d + 1) 81 0 [some (.inr 0), none, none] [] Z (zri Q) := by
  refine z0 (op := 5) (a := 0) (b := 0) (by rfl) (by rfl) (?_ : TZ (d + 1) 81 1 [some (.inr 0), none, none] [.inr 0] Z (zri Q))
  refine z_fr (by rfl) fr52_0 (?_ : TZ (d + 1) 81 4 [some (.inr 0), none, none] [.inr 13] Z (zri Q))
  refine z0 (op := 5) (a := 0) (b := 0) (by rfl) (by rfl) (?_ : TZ (d + 1) 81 5 [some (.inr 0), none, none] [.inr 0, .inr 13] Z (zri Q))
  refine z_fr (by rfl) fr50_0 (?_ : TZ (d + 1) 81 8 [some (.inr 0), none, none] [.inr 1, .inr 13] Z (zri Q))
  refine z_vv (by rfl) (by rfl) cl_13 (TV.mono v fun Z1 v => ?_)
  show TZ (d + 1) 81 11 [some (.inr 0), none, none] [] Z1 (zri Q)
  refine z0 (op := 0) (a := 0) (b := 0) (by rfl) (by rfl) (?_ : TZ (d + 1) 81 12 [some (.inr 0), none, none] [.inl 0] Z1 (zri Q))
  refine z0 (op := 7) (a := 1) (b := 0) (by rfl) (by rfl) (?_ : TZ (d + 1) 81 13 [some (.inr 0), some (.inl 0), none] [] Z1 (zri Q))
  refine z0 (op := 0) (a := 0) (b := 0) (by rfl) (by rfl) (?_ : TZ (d + 1) 81 14 [some (.inr 0), some (.inl 0), none] [.inl 0] Z1 (zri Q))
  refine z0 (op := 7) (a := 2) (b := 0) (by rfl) (by rfl) (?_ : TZ (d + 1) 81 15 [some (.inr 0), some (.inl 0), some (.inl 0)] [] Z1 (zri Q))
  exact v
theorem w81_15 {d : Nat} {x1 x2 : Int} {Z : zM} {Q : Int → zM → Prop}
    (v : zR x2 ∧
      zR (Z 37 1) ∧
      ((Z 37 1) ≤ x2 → TV d 12 [.inr 1, .inr 13] Z (fun Z4 =>
          TV d 46 [.inr 26] Z4 (fun Z5 =>
            Q x1 Z5))) ∧
      (¬ (Z 37 1) ≤ x2 → TI d 82 [.inr 0, .inl x2] Z (fun r7 Z6 =>
          zR r7 ∧
            (r7 ≠ 0 → TI d 66 [.inr 37, .inl x2] Z6 (fun r11 Z10 =>
                TI d 68 [.inl r11] Z10 (fun r13 Z12 =>
                  zR r13 ∧ TZ (d + 1) 81 15 [some (.inr 0), some (.inl (x1 + 1)), some (.inl (x2 + ((max 0 r13) + 2)))] [] Z12 (zri Q)))) ∧
            (¬ r7 ≠ 0 → Q ((-2000) - x2) Z6)))) :
    TZ (d + 1) 81 15 [some (.inr 0), some (.inl x1), some (.inl x2)] [] Z (zri Q) := by
  refine z0 (op := 3) (a := 2) (b := 0) (by rfl) (by rfl) (?_ : TZ (d + 1) 81 16 [some (.inr 0), some (.inl x1), some (.inl x2)] [.inl x2] Z (zri Q))
  refine z0 (op := 5) (a := 0) (b := 0) (by rfl) (by rfl) (?_ : TZ (d + 1) 81 17 [some (.inr 0), some (.inl x1), some (.inl x2)] [.inr 0, .inl x2] Z (zri Q))
  refine z_fr (by rfl) fr56_0 (?_ : TZ (d + 1) 81 20 [some (.inr 0), some (.inl x1), some (.inl x2)] [.inr 37, .inl x2] Z (zri Q))
  refine z_fi (by rfl) fi68_37 (?_ : TZ (d + 1) 81 23 [some (.inr 0), some (.inl x1), some (.inl x2)] [.inl (Z 37 1), .inl x2] Z (zri Q))
  obtain ⟨c1, c2, v1, v2⟩ := v
  refine z_if2 (a := 3) (t := 66) (by rfl) (by rfl) c1 c2 (fun h3 => ?_) (fun h3 => ?_)
  · have v := v1 h3; clear v1 v2
    show TZ (d + 1) 81 66 [some (.inr 0), some (.inl x1), some (.inl x2)] [] Z (zri Q)
    refine z0 (op := 5) (a := 0) (b := 0) (by rfl) (by rfl) (?_ : TZ (d + 1) 81 67 [some (.inr 0), some (.inl x1), some (.inl x2)] [.inr 0] Z (zri Q))
    refine z_fr (by rfl) fr50_0 (?_ : TZ (d + 1) 81 70 [some (.inr 0), some (.inl x1), some (.inl x2)] [.inr 1] Z (zri Q))
    refine z0 (op := 5) (a := 0) (b := 0) (by rfl) (by rfl) (?_ : TZ (d + 1) 81 71 [some (.inr 0), some (.inl x1), some (.inl x2)] [.inr 0, .inr 1] Z (zri Q))
    refine z_fr (by rfl) fr52_0 (?_ : TZ (d + 1) 81 74 [some (.inr 0), some (.inl x1), some (.inl x2)] [.inr 13, .inr 1] Z (zri Q))
    refine z_vv (by rfl) (by rfl) cl_1 (TV.mono v fun Z4 v => ?_)
    show TZ (d + 1) 81 77 [some (.inr 0), some (.inl x1), some (.inl x2)] [] Z4 (zri Q)
    refine z0 (op := 5) (a := 0) (b := 0) (by rfl) (by rfl) (?_ : TZ (d + 1) 81 78 [some (.inr 0), some (.inl x1), some (.inl x2)] [.inr 0] Z4 (zri Q))
    refine z_fr (by rfl) fr55_0 (?_ : TZ (d + 1) 81 81 [some (.inr 0), some (.inl x1), some (.inl x2)] [.inr 26] Z4 (zri Q))
    refine z_vv (by rfl) (by rfl) cl_26 (TV.mono v fun Z5 v => ?_)
    show TZ (d + 1) 81 84 [some (.inr 0), some (.inl x1), some (.inl x2)] [] Z5 (zri Q)
    refine z0 (op := 3) (a := 1) (b := 0) (by rfl) (by rfl) (?_ : TZ (d + 1) 81 85 [some (.inr 0), some (.inl x1), some (.inl x2)] [.inl x1] Z5 (zri Q))
    exact z_reti (by rfl) (by rfl) v
  · have v := v2 h3; clear v1 v2
    show TZ (d + 1) 81 26 [some (.inr 0), some (.inl x1), some (.inl x2)] [] Z (zri Q)
    refine z0 (op := 5) (a := 0) (b := 0) (by rfl) (by rfl) (?_ : TZ (d + 1) 81 27 [some (.inr 0), some (.inl x1), some (.inl x2)] [.inr 0] Z (zri Q))
    refine z0 (op := 3) (a := 2) (b := 0) (by rfl) (by rfl) (?_ : TZ (d + 1) 81 28 [some (.inr 0), some (.inl x1), some (.inl x2)] [.inl x2, .inr 0] Z (zri Q))
    refine z_vi (by rfl) (by rfl) cl_0 (TI.mono v fun r7 Z6 v => ?_)
    show TZ (d + 1) 81 31 [some (.inr 0), some (.inl x1), some (.inl x2)] [.inl r7] Z6 (zri Q)
    obtain ⟨c8, v1, v2⟩ := v
    refine z_if0 (a := 1) (t := 40) (by rfl) (by rfl) c8 (fun h9 => ?_) (fun h9 => ?_)
    · have v := v1 h9; clear v1 v2
      show TZ (d + 1) 81 40 [some (.inr 0), some (.inl x1), some (.inl x2)] [] Z6 (zri Q)
      refine z0 (op := 11) (a := 1) (b := 1) (by rfl) (by rfl) (?_ : TZ (d + 1) 81 43 [some (.inr 0), some (.inl (x1 + 1)), some (.inl x2)] [] Z6 (zri Q))
      refine z0 (op := 3) (a := 2) (b := 0) (by rfl) (by rfl) (?_ : TZ (d + 1) 81 44 [some (.inr 0), some (.inl (x1 + 1)), some (.inl x2)] [.inl x2] Z6 (zri Q))
      refine z0 (op := 0) (a := 0) (b := 0) (by rfl) (by rfl) (?_ : TZ (d + 1) 81 45 [some (.inr 0), some (.inl (x1 + 1)), some (.inl x2)] [.inl 0, .inl x2] Z6 (zri Q))
      refine z0 (op := 5) (a := 0) (b := 0) (by rfl) (by rfl) (?_ : TZ (d + 1) 81 46 [some (.inr 0), some (.inl (x1 + 1)), some (.inl x2)] [.inr 0, .inl 0, .inl x2] Z6 (zri Q))
      refine z_fr (by rfl) fr56_0 (?_ : TZ (d + 1) 81 49 [some (.inr 0), some (.inl (x1 + 1)), some (.inl x2)] [.inr 37, .inl 0, .inl x2] Z6 (zri Q))
      refine z0 (op := 3) (a := 2) (b := 0) (by rfl) (by rfl) (?_ : TZ (d + 1) 81 50 [some (.inr 0), some (.inl (x1 + 1)), some (.inl x2)] [.inl x2, .inr 37, .inl 0, .inl x2] Z6 (zri Q))
      refine z_vi (by rfl) (by rfl) cl_37 (TI.mono v fun r11 Z10 v => ?_)
      show TZ (d + 1) 81 53 [some (.inr 0), some (.inl (x1 + 1)), some (.inl x2)] [.inl r11, .inl 0, .inl x2] Z10 (zri Q)
      refine z_si (by rfl) (by rfl) (TI.mono v fun r13 Z12 v => ?_)
      show TZ (d + 1) 81 56 [some (.inr 0), some (.inl (x1 + 1)), some (.inl x2)] [.inl r13, .inl 0, .inl x2] Z12 (zri Q)
      obtain ⟨c14, v⟩ := v
      refine z_max (by rfl) (by rfl) (Nat.le_of_ble_eq_true rfl) (by decide) c14 (?_ : TZ (d + 1) 81 59 [some (.inr 0), some (.inl (x1 + 1)), some (.inl x2)] [.inl (max 0 r13), .inl x2] Z12 (zri Q))
      refine z0 (op := 0) (a := 0) (b := 2) (by rfl) (by rfl) (?_ : TZ (d + 1) 81 60 [some (.inr 0), some (.inl (x1 + 1)), some (.inl x2)] [.inl 2, .inl (max 0 r13), .inl x2] Z12 (zri Q))
      refine z0 (op := 12) (a := 0) (b := 0) (by rfl) (by rfl) (?_ : TZ (d + 1) 81 61 [some (.inr 0), some (.inl (x1 + 1)), some (.inl x2)] [.inl ((max 0 r13) + 2), .inl x2] Z12 (zri Q))
      refine z0 (op := 12) (a := 0) (b := 0) (by rfl) (by rfl) (?_ : TZ (d + 1) 81 62 [some (.inr 0), some (.inl (x1 + 1)), some (.inl x2)] [.inl (x2 + ((max 0 r13) + 2))] Z12 (zri Q))
      refine z0 (op := 7) (a := 2) (b := 0) (by rfl) (by rfl) (?_ : TZ (d + 1) 81 63 [some (.inr 0), some (.inl (x1 + 1)), some (.inl (x2 + ((max 0 r13) + 2)))] [] Z12 (zri Q))
      refine z_goto (t := 15) (by rfl) (by rfl) (?_ : TZ (d + 1) 81 15 [some (.inr 0), some (.inl (x1 + 1)), some (.inl (x2 + ((max 0 r13) + 2)))] [] Z12 (zri Q))
      exact v
    · have v := v2 h9; clear v1 v2
      show TZ (d + 1) 81 34 [some (.inr 0), some (.inl x1), some (.inl x2)] [] Z6 (zri Q)
      refine z0 (op := 2) (a := 0) (b := (-2000)) (by rfl) (by rfl) (?_ : TZ (d + 1) 81 37 [some (.inr 0), some (.inl x1), some (.inl x2)] [.inl (-2000)] Z6 (zri Q))
      refine z0 (op := 3) (a := 2) (b := 0) (by rfl) (by rfl) (?_ : TZ (d + 1) 81 38 [some (.inr 0), some (.inl x1), some (.inl x2)] [.inl x2, .inl (-2000)] Z6 (zri Q))
      refine z0 (op := 12) (a := 1) (b := 0) (by rfl) (by rfl) (?_ : TZ (d + 1) 81 39 [some (.inr 0), some (.inl x1), some (.inl x2)] [.inl ((-2000) - x2)] Z6 (zri Q))
      exact z_reti (by rfl) (by rfl) v
theorem w82_0 {d : Nat} {x1 : Int} {Z : zM} {Q : Int → zM → Prop}
    (v : TI d 67 [.inr 37, .inl (x1 + 1)] Z (fun r2 Z1 =>
      TI d 66 [.inr 37, .inl x1] Z1 (fun r4 Z3 =>
        zR r4 ∧
          (r4 = 98 → TI d 67 [.inr 37, .inl (x1 + 2)] Z3 (fun r11 Z10 =>
              TI d 67 [.inr 37, .inl (x1 + 3)] Z10 (fun r13 Z12 =>
                TI d 83 [.inr 0, .inl r2, .inl r11, .inl r13] Z12 (fun r15 Z14 =>
                  (r15 = 0 ∨ r15 = 1) ∧ Q r15 Z14)))) ∧
          (r4 = 99 → TI d 86 [.inr 0, .inl r2] Z3 (fun r18 Z17 =>
              (r18 = 0 ∨ r18 = 1) ∧ Q r18 Z17)) ∧
          (r4 = 102 → TI d 15 [.inr 13, .inl r2] Z3 (fun r21 Z20 =>
              zR r21 ∧
                (r21 = 0 → Q 0 Z20) ∧
                (¬ r21 = 0 → TI d 85 [.inr 0, .inl 1, .inl r2] Z20 (fun r25 Z24 =>
                    zR r25 ∧
                      (r25 = 0 → Q 0 Z24) ∧
                      (¬ r25 = 0 → Q 1 Z24))))) ∧
          (r4 = 104 → TI d 34 [.inr 13] Z3 (fun r29 Z28 =>
              Q 1 Z28)) ∧
          (r4 = 110 → TI d 85 [.inr 0, .inl r2, .inl (-1)] Z3 (fun r31 Z30 =>
              (r31 = 0 ∨ r31 = 1) ∧ Q r31 Z30)) ∧
          (r4 = 114 → TI d 35 [.inr 13] Z3 (fun r34 Z33 =>
              Q 1 Z33)) ∧
          (r4 = 119 → TI d 67 [.inr 37, .inl (x1 + 2)] Z3 (fun r36 Z35 =>
              TI d 67 [.inr 37, .inl (x1 + 3)] Z35 (fun r38 Z37 =>
                TI d 84 [.inr 0, .inl r2, .inl ((10 * r36) + r38)] Z37 (fun r40 Z39 =>
                  (r40 = 0 ∨ r40 = 1) ∧ Q r40 Z39)))) ∧
          ((r4 ≠ 98 ∧ r4 ≠ 99 ∧ r4 ≠ 102 ∧ r4 ≠ 104 ∧ r4 ≠ 110 ∧ r4 ≠ 114 ∧ r4 ≠ 119) → (zR (Z3 13 6) ∧
              ((Z3 13 6) = 6 → TV d 21 [.inr 13, .inl 0] Z3 (fun Z8 =>
                  Q 1 Z8)) ∧
              (¬ (Z3 13 6) = 6 → TV d 21 [.inr 13, .inl 1] Z3 (fun Z9 =>
                  Q 1 Z9))))))) :
    TZ (d + 1) 82 0 [some (.inr 0), some (.inl x1), none] [] Z (zri Q) := by
  refine z0 (op := 5) (a := 0) (b := 0) (by rfl) (by rfl) (?_ : TZ (d + 1) 82 1 [some (.inr 0), some (.inl x1), none] [.inr 0] Z (zri Q))
  refine z_fr (by rfl) fr56_0 (?_ : TZ (d + 1) 82 4 [some (.inr 0), some (.inl x1), none] [.inr 37] Z (zri Q))
  refine z0 (op := 3) (a := 1) (b := 0) (by rfl) (by rfl) (?_ : TZ (d + 1) 82 5 [some (.inr 0), some (.inl x1), none] [.inl x1, .inr 37] Z (zri Q))
  refine z0 (op := 0) (a := 0) (b := 1) (by rfl) (by rfl) (?_ : TZ (d + 1) 82 6 [some (.inr 0), some (.inl x1), none] [.inl 1, .inl x1, .inr 37] Z (zri Q))
  refine z0 (op := 12) (a := 0) (b := 0) (by rfl) (by rfl) (?_ : TZ (d + 1) 82 7 [some (.inr 0), some (.inl x1), none] [.inl (x1 + 1), .inr 37] Z (zri Q))
  refine z_vi (by rfl) (by rfl) cl_37 (TI.mono v fun r2 Z1 v => ?_)
  show TZ (d + 1) 82 10 [some (.inr 0), some (.inl x1), none] [.inl r2] Z1 (zri Q)
  refine z0 (op := 7) (a := 2) (b := 0) (by rfl) (by rfl) (?_ : TZ (d + 1) 82 11 [some (.inr 0), some (.inl x1), some (.inl r2)] [] Z1 (zri Q))
  refine z0 (op := 5) (a := 0) (b := 0) (by rfl) (by rfl) (?_ : TZ (d + 1) 82 12 [some (.inr 0), some (.inl x1), some (.inl r2)] [.inr 0] Z1 (zri Q))
  refine z_fr (by rfl) fr56_0 (?_ : TZ (d + 1) 82 15 [some (.inr 0), some (.inl x1), some (.inl r2)] [.inr 37] Z1 (zri Q))
  refine z0 (op := 3) (a := 1) (b := 0) (by rfl) (by rfl) (?_ : TZ (d + 1) 82 16 [some (.inr 0), some (.inl x1), some (.inl r2)] [.inl x1, .inr 37] Z1 (zri Q))
  refine z_vi (by rfl) (by rfl) cl_37 (TI.mono v fun r4 Z3 v => ?_)
  show TZ (d + 1) 82 19 [some (.inr 0), some (.inl x1), some (.inl r2)] [.inl r4] Z3 (zri Q)
  obtain ⟨c5, v⟩ := v
  obtain ⟨w0, w1, w2, w3, w4, w5, w6, w7⟩ := v
  have hd : r4 ≠ 98 ∧ r4 ≠ 99 ∧ r4 ≠ 102 ∧ r4 ≠ 104 ∧ r4 ≠ 110 ∧ r4 ≠ 114 ∧ r4 ≠ 119 → TZ (d + 1) 82 235 [some (.inr 0), some (.inl x1), some (.inl r2)] [] Z3 (zri Q) := fun hh => by
    have v := w7 hh; clear w0 w1 w2 w3 w4 w5 w6 w7
    refine z0 (op := 5) (a := 0) (b := 0) (by rfl) (by rfl) (?_ : TZ (d + 1) 82 236 [some (.inr 0), some (.inl x1), some (.inl r2)] [.inr 0] Z3 (zri Q))
    refine z_fr (by rfl) fr52_0 (?_ : TZ (d + 1) 82 239 [some (.inr 0), some (.inl x1), some (.inl r2)] [.inr 13] Z3 (zri Q))
    refine z0 (op := 5) (a := 0) (b := 0) (by rfl) (by rfl) (?_ : TZ (d + 1) 82 240 [some (.inr 0), some (.inl x1), some (.inl r2)] [.inr 0, .inr 13] Z3 (zri Q))
    refine z_fr (by rfl) fr52_0 (?_ : TZ (d + 1) 82 243 [some (.inr 0), some (.inl x1), some (.inl r2)] [.inr 13, .inr 13] Z3 (zri Q))
    refine z_fi (by rfl) fi69_13 (?_ : TZ (d + 1) 82 246 [some (.inr 0), some (.inl x1), some (.inl r2)] [.inl (Z3 13 6), .inr 13] Z3 (zri Q))
    refine z0 (op := 1) (a := 0) (b := 6) (by rfl) (by rfl) (?_ : TZ (d + 1) 82 248 [some (.inr 0), some (.inl x1), some (.inl r2)] [.inl 6, .inl (Z3 13 6), .inr 13] Z3 (zri Q))
    obtain ⟨c6, v1, v2⟩ := v
    refine z_if2 (a := 0) (t := 255) (by rfl) (by rfl) c6 (by decide) (fun h7 => ?_) (fun h7 => ?_)
    · have v := v1 h7; clear v1 v2
      show TZ (d + 1) 82 255 [some (.inr 0), some (.inl x1), some (.inl r2)] [.inr 13] Z3 (zri Q)
      refine z0 (op := 0) (a := 0) (b := 0) (by rfl) (by rfl) (?_ : TZ (d + 1) 82 256 [some (.inr 0), some (.inl x1), some (.inl r2)] [.inl 0, .inr 13] Z3 (zri Q))
      refine z_vv (by rfl) (by rfl) cl_13 (TV.mono v fun Z8 v => ?_)
      show TZ (d + 1) 82 259 [some (.inr 0), some (.inl x1), some (.inl r2)] [] Z8 (zri Q)
      refine z0 (op := 0) (a := 0) (b := 1) (by rfl) (by rfl) (?_ : TZ (d + 1) 82 260 [some (.inr 0), some (.inl x1), some (.inl r2)] [.inl 1] Z8 (zri Q))
      exact z_retb (by rfl) (by rfl) (by decide) v
    · have v := v2 h7; clear v1 v2
      show TZ (d + 1) 82 251 [some (.inr 0), some (.inl x1), some (.inl r2)] [.inr 13] Z3 (zri Q)
      refine z0 (op := 0) (a := 0) (b := 1) (by rfl) (by rfl) (?_ : TZ (d + 1) 82 252 [some (.inr 0), some (.inl x1), some (.inl r2)] [.inl 1, .inr 13] Z3 (zri Q))
      refine z_goto (t := 256) (by rfl) (by rfl) (?_ : TZ (d + 1) 82 256 [some (.inr 0), some (.inl x1), some (.inl r2)] [.inl 1, .inr 13] Z3 (zri Q))
      refine z_vv (by rfl) (by rfl) cl_13 (TV.mono v fun Z9 v => ?_)
      show TZ (d + 1) 82 259 [some (.inr 0), some (.inl x1), some (.inl r2)] [] Z9 (zri Q)
      refine z0 (op := 0) (a := 0) (b := 1) (by rfl) (by rfl) (?_ : TZ (d + 1) 82 260 [some (.inr 0), some (.inl x1), some (.inl r2)] [.inl 1] Z9 (zri Q))
      exact z_retb (by rfl) (by rfl) (by decide) v
  have hc0 : r4 = 98 → TZ (d + 1) 82 120 [some (.inr 0), some (.inl x1), some (.inl r2)] [] Z3 (zri Q) := fun hh => by
    have v := w0 hh; clear w0 w1 w2 w3 w4 w5 w6 w7 hd
    refine z0 (op := 5) (a := 0) (b := 0) (by rfl) (by rfl) (?_ : TZ (d + 1) 82 121 [some (.inr 0), some (.inl x1), some (.inl r2)] [.inr 0] Z3 (zri Q))
    refine z0 (op := 3) (a := 2) (b := 0) (by rfl) (by rfl) (?_ : TZ (d + 1) 82 122 [some (.inr 0), some (.inl x1), some (.inl r2)] [.inl r2, .inr 0] Z3 (zri Q))
    refine z0 (op := 5) (a := 0) (b := 0) (by rfl) (by rfl) (?_ : TZ (d + 1) 82 123 [some (.inr 0), some (.inl x1), some (.inl r2)] [.inr 0, .inl r2, .inr 0] Z3 (zri Q))
    refine z_fr (by rfl) fr56_0 (?_ : TZ (d + 1) 82 126 [some (.inr 0), some (.inl x1), some (.inl r2)] [.inr 37, .inl r2, .inr 0] Z3 (zri Q))
    refine z0 (op := 3) (a := 1) (b := 0) (by rfl) (by rfl) (?_ : TZ (d + 1) 82 127 [some (.inr 0), some (.inl x1), some (.inl r2)] [.inl x1, .inr 37, .inl r2, .inr 0] Z3 (zri Q))
    refine z0 (op := 0) (a := 0) (b := 2) (by rfl) (by rfl) (?_ : TZ (d + 1) 82 128 [some (.inr 0), some (.inl x1), some (.inl r2)] [.inl 2, .inl x1, .inr 37, .inl r2, .inr 0] Z3 (zri Q))
    refine z0 (op := 12) (a := 0) (b := 0) (by rfl) (by rfl) (?_ : TZ (d + 1) 82 129 [some (.inr 0), some (.inl x1), some (.inl r2)] [.inl (x1 + 2), .inr 37, .inl r2, .inr 0] Z3 (zri Q))
    refine z_vi (by rfl) (by rfl) cl_37 (TI.mono v fun r11 Z10 v => ?_)
    show TZ (d + 1) 82 132 [some (.inr 0), some (.inl x1), some (.inl r2)] [.inl r11, .inl r2, .inr 0] Z10 (zri Q)
    refine z0 (op := 5) (a := 0) (b := 0) (by rfl) (by rfl) (?_ : TZ (d + 1) 82 133 [some (.inr 0), some (.inl x1), some (.inl r2)] [.inr 0, .inl r11, .inl r2, .inr 0] Z10 (zri Q))
    refine z_fr (by rfl) fr56_0 (?_ : TZ (d + 1) 82 136 [some (.inr 0), some (.inl x1), some (.inl r2)] [.inr 37, .inl r11, .inl r2, .inr 0] Z10 (zri Q))
    refine z0 (op := 3) (a := 1) (b := 0) (by rfl) (by rfl) (?_ : TZ (d + 1) 82 137 [some (.inr 0), some (.inl x1), some (.inl r2)] [.inl x1, .inr 37, .inl r11, .inl r2, .inr 0] Z10 (zri Q))
    refine z0 (op := 0) (a := 0) (b := 3) (by rfl) (by rfl) (?_ : TZ (d + 1) 82 138 [some (.inr 0), some (.inl x1), some (.inl r2)] [.inl 3, .inl x1, .inr 37, .inl r11, .inl r2, .inr 0] Z10 (zri Q))
    refine z0 (op := 12) (a := 0) (b := 0) (by rfl) (by rfl) (?_ : TZ (d + 1) 82 139 [some (.inr 0), some (.inl x1), some (.inl r2)] [.inl (x1 + 3), .inr 37, .inl r11, .inl r2, .inr 0] Z10 (zri Q))
    refine z_vi (by rfl) (by rfl) cl_37 (TI.mono v fun r13 Z12 v => ?_)
    show TZ (d + 1) 82 142 [some (.inr 0), some (.inl x1), some (.inl r2)] [.inl r13, .inl r11, .inl r2, .inr 0] Z12 (zri Q)
    refine z_vi (by rfl) (by rfl) cl_0 (TI.mono v fun r15 Z14 v => ?_)
    show TZ (d + 1) 82 145 [some (.inr 0), some (.inl x1), some (.inl r2)] [.inl r15] Z14 (zri Q)
    obtain ⟨c16, v⟩ := v
    exact z_retb (by rfl) (by rfl) c16 v
  have hc1 : r4 = 99 → TZ (d + 1) 82 209 [some (.inr 0), some (.inl x1), some (.inl r2)] [] Z3 (zri Q) := fun hh => by
    have v := w1 hh; clear w0 w1 w2 w3 w4 w5 w6 w7 hd hc0
    refine z0 (op := 5) (a := 0) (b := 0) (by rfl) (by rfl) (?_ : TZ (d + 1) 82 210 [some (.inr 0), some (.inl x1), some (.inl r2)] [.inr 0] Z3 (zri Q))
    refine z0 (op := 3) (a := 2) (b := 0) (by rfl) (by rfl) (?_ : TZ (d + 1) 82 211 [some (.inr 0), some (.inl x1), some (.inl r2)] [.inl r2, .inr 0] Z3 (zri Q))
    refine z_vi (by rfl) (by rfl) cl_0 (TI.mono v fun r18 Z17 v => ?_)
    show TZ (d + 1) 82 214 [some (.inr 0), some (.inl x1), some (.inl r2)] [.inl r18] Z17 (zri Q)
    obtain ⟨c19, v⟩ := v
    exact z_retb (by rfl) (by rfl) c19 v
  have hc2 : r4 = 102 → TZ (d + 1) 82 176 [some (.inr 0), some (.inl x1), some (.inl r2)] [] Z3 (zri Q) := fun hh => by
    have v := w2 hh; clear w0 w1 w2 w3 w4 w5 w6 w7 hd hc0 hc1
    refine z0 (op := 5) (a := 0) (b := 0) (by rfl) (by rfl) (?_ : TZ (d + 1) 82 177 [some (.inr 0), some (.inl x1), some (.inl r2)] [.inr 0] Z3 (zri Q))
    refine z_fr (by rfl) fr52_0 (?_ : TZ (d + 1) 82 180 [some (.inr 0), some (.inl x1), some (.inl r2)] [.inr 13] Z3 (zri Q))
    refine z0 (op := 3) (a := 2) (b := 0) (by rfl) (by rfl) (?_ : TZ (d + 1) 82 181 [some (.inr 0), some (.inl x1), some (.inl r2)] [.inl r2, .inr 13] Z3 (zri Q))
    refine z_vi (by rfl) (by rfl) cl_13 (TI.mono v fun r21 Z20 v => ?_)
    show TZ (d + 1) 82 184 [some (.inr 0), some (.inl x1), some (.inl r2)] [.inl r21] Z20 (zri Q)
    obtain ⟨c22, v1, v2⟩ := v
    refine z_if0 (a := 0) (t := 200) (by rfl) (by rfl) c22 (fun h23 => ?_) (fun h23 => ?_)
    · have v := v1 h23; clear v1 v2
      show TZ (d + 1) 82 200 [some (.inr 0), some (.inl x1), some (.inl r2)] [] Z20 (zri Q)
      refine z0 (op := 0) (a := 0) (b := 0) (by rfl) (by rfl) (?_ : TZ (d + 1) 82 201 [some (.inr 0), some (.inl x1), some (.inl r2)] [.inl 0] Z20 (zri Q))
      exact z_retb (by rfl) (by rfl) (by decide) v
    · have v := v2 h23; clear v1 v2
      show TZ (d + 1) 82 187 [some (.inr 0), some (.inl x1), some (.inl r2)] [] Z20 (zri Q)
      refine z0 (op := 5) (a := 0) (b := 0) (by rfl) (by rfl) (?_ : TZ (d + 1) 82 188 [some (.inr 0), some (.inl x1), some (.inl r2)] [.inr 0] Z20 (zri Q))
      refine z0 (op := 0) (a := 0) (b := 1) (by rfl) (by rfl) (?_ : TZ (d + 1) 82 189 [some (.inr 0), some (.inl x1), some (.inl r2)] [.inl 1, .inr 0] Z20 (zri Q))
      refine z0 (op := 3) (a := 2) (b := 0) (by rfl) (by rfl) (?_ : TZ (d + 1) 82 190 [some (.inr 0), some (.inl x1), some (.inl r2)] [.inl r2, .inl 1, .inr 0] Z20 (zri Q))
      refine z_vi (by rfl) (by rfl) cl_0 (TI.mono v fun r25 Z24 v => ?_)
      show TZ (d + 1) 82 193 [some (.inr 0), some (.inl x1), some (.inl r2)] [.inl r25] Z24 (zri Q)
      obtain ⟨c26, v1, v2⟩ := v
      refine z_if0 (a := 0) (t := 200) (by rfl) (by rfl) c26 (fun h27 => ?_) (fun h27 => ?_)
      · have v := v1 h27; clear v1 v2
        show TZ (d + 1) 82 200 [some (.inr 0), some (.inl x1), some (.inl r2)] [] Z24 (zri Q)
        refine z0 (op := 0) (a := 0) (b := 0) (by rfl) (by rfl) (?_ : TZ (d + 1) 82 201 [some (.inr 0), some (.inl x1), some (.inl r2)] [.inl 0] Z24 (zri Q))
        exact z_retb (by rfl) (by rfl) (by decide) v
      · have v := v2 h27; clear v1 v2
        show TZ (d + 1) 82 196 [some (.inr 0), some (.inl x1), some (.inl r2)] [] Z24 (zri Q)
        refine z0 (op := 0) (a := 0) (b := 1) (by rfl) (by rfl) (?_ : TZ (d + 1) 82 197 [some (.inr 0), some (.inl x1), some (.inl r2)] [.inl 1] Z24 (zri Q))
        refine z_goto (t := 201) (by rfl) (by rfl) (?_ : TZ (d + 1) 82 201 [some (.inr 0), some (.inl x1), some (.inl r2)] [.inl 1] Z24 (zri Q))
        exact z_retb (by rfl) (by rfl) (by decide) v
  have hc3 : r4 = 104 → TZ (d + 1) 82 215 [some (.inr 0), some (.inl x1), some (.inl r2)] [] Z3 (zri Q) := fun hh => by
    have v := w3 hh; clear w0 w1 w2 w3 w4 w5 w6 w7 hd hc0 hc1 hc2
    refine z0 (op := 5) (a := 0) (b := 0) (by rfl) (by rfl) (?_ : TZ (d + 1) 82 216 [some (.inr 0), some (.inl x1), some (.inl r2)] [.inr 0] Z3 (zri Q))
    refine z_fr (by rfl) fr52_0 (?_ : TZ (d + 1) 82 219 [some (.inr 0), some (.inl x1), some (.inl r2)] [.inr 13] Z3 (zri Q))
    refine z_vi (by rfl) (by rfl) cl_13 (TI.mono v fun r29 Z28 v => ?_)
    show TZ (d + 1) 82 222 [some (.inr 0), some (.inl x1), some (.inl r2)] [.inl r29] Z28 (zri Q)
    refine z0 (op := 14) (a := 0) (b := 0) (by rfl) (by rfl) (?_ : TZ (d + 1) 82 223 [some (.inr 0), some (.inl x1), some (.inl r2)] [] Z28 (zri Q))
    refine z0 (op := 0) (a := 0) (b := 1) (by rfl) (by rfl) (?_ : TZ (d + 1) 82 224 [some (.inr 0), some (.inl x1), some (.inl r2)] [.inl 1] Z28 (zri Q))
    exact z_retb (by rfl) (by rfl) (by decide) v
  have hc4 : r4 = 110 → TZ (d + 1) 82 202 [some (.inr 0), some (.inl x1), some (.inl r2)] [] Z3 (zri Q) := fun hh => by
    have v := w4 hh; clear w0 w1 w2 w3 w4 w5 w6 w7 hd hc0 hc1 hc2 hc3
    refine z0 (op := 5) (a := 0) (b := 0) (by rfl) (by rfl) (?_ : TZ (d + 1) 82 203 [some (.inr 0), some (.inl x1), some (.inl r2)] [.inr 0] Z3 (zri Q))
    refine z0 (op := 3) (a := 2) (b := 0) (by rfl) (by rfl) (?_ : TZ (d + 1) 82 204 [some (.inr 0), some (.inl x1), some (.inl r2)] [.inl r2, .inr 0] Z3 (zri Q))
    refine z0 (op := 0) (a := 0) (b := (-1)) (by rfl) (by rfl) (?_ : TZ (d + 1) 82 205 [some (.inr 0), some (.inl x1), some (.inl r2)] [.inl (-1), .inl r2, .inr 0] Z3 (zri Q))
    refine z_vi (by rfl) (by rfl) cl_0 (TI.mono v fun r31 Z30 v => ?_)
    show TZ (d + 1) 82 208 [some (.inr 0), some (.inl x1), some (.inl r2)] [.inl r31] Z30 (zri Q)
    obtain ⟨c32, v⟩ := v
    exact z_retb (by rfl) (by rfl) c32 v
  have hc5 : r4 = 114 → TZ (d + 1) 82 225 [some (.inr 0), some (.inl x1), some (.inl r2)] [] Z3 (zri Q) := fun hh => by
    have v := w5 hh; clear w0 w1 w2 w3 w4 w5 w6 w7 hd hc0 hc1 hc2 hc3 hc4
    refine z0 (op := 5) (a := 0) (b := 0) (by rfl) (by rfl) (?_ : TZ (d + 1) 82 226 [some (.inr 0), some (.inl x1), some (.inl r2)] [.inr 0] Z3 (zri Q))
    refine z_fr (by rfl) fr52_0 (?_ : TZ (d + 1) 82 229 [some (.inr 0), some (.inl x1), some (.inl r2)] [.inr 13] Z3 (zri Q))
    refine z_vi (by rfl) (by rfl) cl_13 (TI.mono v fun r34 Z33 v => ?_)
    show TZ (d + 1) 82 232 [some (.inr 0), some (.inl x1), some (.inl r2)] [.inl r34] Z33 (zri Q)
    refine z0 (op := 14) (a := 0) (b := 0) (by rfl) (by rfl) (?_ : TZ (d + 1) 82 233 [some (.inr 0), some (.inl x1), some (.inl r2)] [] Z33 (zri Q))
    refine z0 (op := 0) (a := 0) (b := 1) (by rfl) (by rfl) (?_ : TZ (d + 1) 82 234 [some (.inr 0), some (.inl x1), some (.inl r2)] [.inl 1] Z33 (zri Q))
    exact z_retb (by rfl) (by rfl) (by decide) v
  have hc6 : r4 = 119 → TZ (d + 1) 82 146 [some (.inr 0), some (.inl x1), some (.inl r2)] [] Z3 (zri Q) := fun hh => by
    have v := w6 hh; clear w0 w1 w2 w3 w4 w5 w6 w7 hd hc0 hc1 hc2 hc3 hc4 hc5
    refine z0 (op := 5) (a := 0) (b := 0) (by rfl) (by rfl) (?_ : TZ (d + 1) 82 147 [some (.inr 0), some (.inl x1), some (.inl r2)] [.inr 0] Z3 (zri Q))
    refine z0 (op := 3) (a := 2) (b := 0) (by rfl) (by rfl) (?_ : TZ (d + 1) 82 148 [some (.inr 0), some (.inl x1), some (.inl r2)] [.inl r2, .inr 0] Z3 (zri Q))
    refine z0 (op := 1) (a := 0) (b := 10) (by rfl) (by rfl) (?_ : TZ (d + 1) 82 150 [some (.inr 0), some (.inl x1), some (.inl r2)] [.inl 10, .inl r2, .inr 0] Z3 (zri Q))
    refine z0 (op := 5) (a := 0) (b := 0) (by rfl) (by rfl) (?_ : TZ (d + 1) 82 151 [some (.inr 0), some (.inl x1), some (.inl r2)] [.inr 0, .inl 10, .inl r2, .inr 0] Z3 (zri Q))
    refine z_fr (by rfl) fr56_0 (?_ : TZ (d + 1) 82 154 [some (.inr 0), some (.inl x1), some (.inl r2)] [.inr 37, .inl 10, .inl r2, .inr 0] Z3 (zri Q))
    refine z0 (op := 3) (a := 1) (b := 0) (by rfl) (by rfl) (?_ : TZ (d + 1) 82 155 [some (.inr 0), some (.inl x1), some (.inl r2)] [.inl x1, .inr 37, .inl 10, .inl r2, .inr 0] Z3 (zri Q))
    refine z0 (op := 0) (a := 0) (b := 2) (by rfl) (by rfl) (?_ : TZ (d + 1) 82 156 [some (.inr 0), some (.inl x1), some (.inl r2)] [.inl 2, .inl x1, .inr 37, .inl 10, .inl r2, .inr 0] Z3 (zri Q))
    refine z0 (op := 12) (a := 0) (b := 0) (by rfl) (by rfl) (?_ : TZ (d + 1) 82 157 [some (.inr 0), some (.inl x1), some (.inl r2)] [.inl (x1 + 2), .inr 37, .inl 10, .inl r2, .inr 0] Z3 (zri Q))
    refine z_vi (by rfl) (by rfl) cl_37 (TI.mono v fun r36 Z35 v => ?_)
    show TZ (d + 1) 82 160 [some (.inr 0), some (.inl x1), some (.inl r2)] [.inl r36, .inl 10, .inl r2, .inr 0] Z35 (zri Q)
    refine z0 (op := 12) (a := 2) (b := 0) (by rfl) (by rfl) (?_ : TZ (d + 1) 82 161 [some (.inr 0), some (.inl x1), some (.inl r2)] [.inl (10 * r36), .inl r2, .inr 0] Z35 (zri Q))
    refine z0 (op := 5) (a := 0) (b := 0) (by rfl) (by rfl) (?_ : TZ (d + 1) 82 162 [some (.inr 0), some (.inl x1), some (.inl r2)] [.inr 0, .inl (10 * r36), .inl r2, .inr 0] Z35 (zri Q))
    refine z_fr (by rfl) fr56_0 (?_ : TZ (d + 1) 82 165 [some (.inr 0), some (.inl x1), some (.inl r2)] [.inr 37, .inl (10 * r36), .inl r2, .inr 0] Z35 (zri Q))
    refine z0 (op := 3) (a := 1) (b := 0) (by rfl) (by rfl) (?_ : TZ (d + 1) 82 166 [some (.inr 0), some (.inl x1), some (.inl r2)] [.inl x1, .inr 37, .inl (10 * r36), .inl r2, .inr 0] Z35 (zri Q))
    refine z0 (op := 0) (a := 0) (b := 3) (by rfl) (by rfl) (?_ : TZ (d + 1) 82 167 [some (.inr 0), some (.inl x1), some (.inl r2)] [.inl 3, .inl x1, .inr 37, .inl (10 * r36), .inl r2, .inr 0] Z35 (zri Q))
    refine z0 (op := 12) (a := 0) (b := 0) (by rfl) (by rfl) (?_ : TZ (d + 1) 82 168 [some (.inr 0), some (.inl x1), some (.inl r2)] [.inl (x1 + 3), .inr 37, .inl (10 * r36), .inl r2, .inr 0] Z35 (zri Q))
    refine z_vi (by rfl) (by rfl) cl_37 (TI.mono v fun r38 Z37 v => ?_)
    show TZ (d + 1) 82 171 [some (.inr 0), some (.inl x1), some (.inl r2)] [.inl r38, .inl (10 * r36), .inl r2, .inr 0] Z37 (zri Q)
    refine z0 (op := 12) (a := 0) (b := 0) (by rfl) (by rfl) (?_ : TZ (d + 1) 82 172 [some (.inr 0), some (.inl x1), some (.inl r2)] [.inl ((10 * r36) + r38), .inl r2, .inr 0] Z37 (zri Q))
    refine z_vi (by rfl) (by rfl) cl_0 (TI.mono v fun r40 Z39 v => ?_)
    show TZ (d + 1) 82 175 [some (.inr 0), some (.inl x1), some (.inl r2)] [.inl r40] Z39 (zri Q)
    obtain ⟨c41, v⟩ := v
    exact z_retb (by rfl) (by rfl) c41 v
  refine z_tsw (t := 235) (by rfl) (by rfl) (by decide) (by rfl) c5 (fun n o hn hx => ?_) (fun hx => hd (by omega))
  match n, hn with
  | 0, hn => have e := Option.some.inj hn; subst e; exact ⟨120, by rfl, hc0 (by omega)⟩
  | 1, hn => have e := Option.some.inj hn; subst e; exact ⟨209, by rfl, hc1 (by omega)⟩
  | 2, hn => have e := Option.some.inj hn; subst e; exact ⟨235, by rfl, hd (by omega)⟩
  | 3, hn => have e := Option.some.inj hn; subst e; exact ⟨235, by rfl, hd (by omega)⟩
  | 4, hn => have e := Option.some.inj hn; subst e; exact ⟨176, by rfl, hc2 (by omega)⟩
  | 5, hn => have e := Option.some.inj hn; subst e; exact ⟨235, by rfl, hd (by omega)⟩
  | 6, hn => have e := Option.some.inj hn; subst e; exact ⟨215, by rfl, hc3 (by omega)⟩
  | 7, hn => have e := Option.some.inj hn; subst e; exact ⟨235, by rfl, hd (by omega)⟩
  | 8, hn => have e := Option.some.inj hn; subst e; exact ⟨235, by rfl, hd (by omega)⟩
  | 9, hn => have e := Option.some.inj hn; subst e; exact ⟨235, by rfl, hd (by omega)⟩
  | 10, hn => have e := Option.some.inj hn; subst e; exact ⟨235, by rfl, hd (by omega)⟩
  | 11, hn => have e := Option.some.inj hn; subst e; exact ⟨235, by rfl, hd (by omega)⟩
  | 12, hn => have e := Option.some.inj hn; subst e; exact ⟨202, by rfl, hc4 (by omega)⟩
  | 13, hn => have e := Option.some.inj hn; subst e; exact ⟨235, by rfl, hd (by omega)⟩
  | 14, hn => have e := Option.some.inj hn; subst e; exact ⟨235, by rfl, hd (by omega)⟩
  | 15, hn => have e := Option.some.inj hn; subst e; exact ⟨235, by rfl, hd (by omega)⟩
  | 16, hn => have e := Option.some.inj hn; subst e; exact ⟨225, by rfl, hc5 (by omega)⟩
  | 17, hn => have e := Option.some.inj hn; subst e; exact ⟨235, by rfl, hd (by omega)⟩
  | 18, hn => have e := Option.some.inj hn; subst e; exact ⟨235, by rfl, hd (by omega)⟩
  | 19, hn => have e := Option.some.inj hn; subst e; exact ⟨235, by rfl, hd (by omega)⟩
  | 20, hn => have e := Option.some.inj hn; subst e; exact ⟨235, by rfl, hd (by omega)⟩
  | 21, hn => have e := Option.some.inj hn; subst e; exact ⟨146, by rfl, hc6 (by omega)⟩
  | n + 22, hn => exact absurd hn (by simp)
theorem w83_0 {d : Nat} {x1 x2 x3 : Int} {Z : zM} {Q : Int → zM → Prop}
    (v : zR x1 ∧
      (x1 < 0 → Q 0 Z) ∧
      (¬ x1 < 0 → (zR x1 ∧
          (5 < x1 → Q 0 Z) ∧
          (¬ 5 < x1 → (zR (Z 13 5) ∧
              (8 ≤ (Z 13 5) → Q 0 Z) ∧
              (¬ 8 ≤ (Z 13 5) → TI d 17 [.inr 13, .inl x3] Z (fun r8 Z7 =>
                  zR r8 ∧
                    (r8 ≠ 0 → TI d 18 [.inr 13, .inl x1, .inl x2, .inl x3] Z7 (fun r12 Z11 =>
                        Q 1 Z11)) ∧
                    (¬ r8 ≠ 0 → Q 0 Z7)))))))) :
    TZ (d + 1) 83 0 [some (.inr 0), some (.inl x1), some (.inl x2), some (.inl x3)] [] Z (zri Q) := by
  refine z0 (op := 3) (a := 1) (b := 0) (by rfl) (by rfl) (?_ : TZ (d + 1) 83 1 [some (.inr 0), some (.inl x1), some (.inl x2), some (.inl x3)] [.inl x1] Z (zri Q))
  obtain ⟨c1, v1, v2⟩ := v
  refine z_if0 (a := 2) (t := 32) (by rfl) (by rfl) c1 (fun h2 => ?_) (fun h2 => ?_)
  · have v := v1 h2; clear v1 v2
    show TZ (d + 1) 83 32 [some (.inr 0), some (.inl x1), some (.inl x2), some (.inl x3)] [] Z (zri Q)
    refine z0 (op := 0) (a := 0) (b := 0) (by rfl) (by rfl) (?_ : TZ (d + 1) 83 33 [some (.inr 0), some (.inl x1), some (.inl x2), some (.inl x3)] [.inl 0] Z (zri Q))
    exact z_retb (by rfl) (by rfl) (by decide) v
  · have v := v2 h2; clear v1 v2
    show TZ (d + 1) 83 4 [some (.inr 0), some (.inl x1), some (.inl x2), some (.inl x3)] [] Z (zri Q)
    refine z0 (op := 3) (a := 1) (b := 0) (by rfl) (by rfl) (?_ : TZ (d + 1) 83 5 [some (.inr 0), some (.inl x1), some (.inl x2), some (.inl x3)] [.inl x1] Z (zri Q))
    refine z0 (op := 0) (a := 0) (b := 5) (by rfl) (by rfl) (?_ : TZ (d + 1) 83 6 [some (.inr 0), some (.inl x1), some (.inl x2), some (.inl x3)] [.inl 5, .inl x1] Z (zri Q))
    obtain ⟨c3, v1, v2⟩ := v
    refine z_if2 (a := 4) (t := 32) (by rfl) (by rfl) c3 (by decide) (fun h4 => ?_) (fun h4 => ?_)
    · have v := v1 h4; clear v1 v2
      show TZ (d + 1) 83 32 [some (.inr 0), some (.inl x1), some (.inl x2), some (.inl x3)] [] Z (zri Q)
      refine z0 (op := 0) (a := 0) (b := 0) (by rfl) (by rfl) (?_ : TZ (d + 1) 83 33 [some (.inr 0), some (.inl x1), some (.inl x2), some (.inl x3)] [.inl 0] Z (zri Q))
      exact z_retb (by rfl) (by rfl) (by decide) v
    · have v := v2 h4; clear v1 v2
      show TZ (d + 1) 83 9 [some (.inr 0), some (.inl x1), some (.inl x2), some (.inl x3)] [] Z (zri Q)
      refine z0 (op := 5) (a := 0) (b := 0) (by rfl) (by rfl) (?_ : TZ (d + 1) 83 10 [some (.inr 0), some (.inl x1), some (.inl x2), some (.inl x3)] [.inr 0] Z (zri Q))
      refine z_fr (by rfl) fr52_0 (?_ : TZ (d + 1) 83 13 [some (.inr 0), some (.inl x1), some (.inl x2), some (.inl x3)] [.inr 13] Z (zri Q))
      refine z_fi (by rfl) fi70_13 (?_ : TZ (d + 1) 83 16 [some (.inr 0), some (.inl x1), some (.inl x2), some (.inl x3)] [.inl (Z 13 5)] Z (zri Q))
      refine z0 (op := 1) (a := 0) (b := 8) (by rfl) (by rfl) (?_ : TZ (d + 1) 83 18 [some (.inr 0), some (.inl x1), some (.inl x2), some (.inl x3)] [.inl 8, .inl (Z 13 5)] Z (zri Q))
      obtain ⟨c5, v1, v2⟩ := v
      refine z_if2 (a := 3) (t := 32) (by rfl) (by rfl) c5 (by decide) (fun h6 => ?_) (fun h6 => ?_)
      · have v := v1 h6; clear v1 v2
        show TZ (d + 1) 83 32 [some (.inr 0), some (.inl x1), some (.inl x2), some (.inl x3)] [] Z (zri Q)
        refine z0 (op := 0) (a := 0) (b := 0) (by rfl) (by rfl) (?_ : TZ (d + 1) 83 33 [some (.inr 0), some (.inl x1), some (.inl x2), some (.inl x3)] [.inl 0] Z (zri Q))
        exact z_retb (by rfl) (by rfl) (by decide) v
      · have v := v2 h6; clear v1 v2
        show TZ (d + 1) 83 21 [some (.inr 0), some (.inl x1), some (.inl x2), some (.inl x3)] [] Z (zri Q)
        refine z0 (op := 5) (a := 0) (b := 0) (by rfl) (by rfl) (?_ : TZ (d + 1) 83 22 [some (.inr 0), some (.inl x1), some (.inl x2), some (.inl x3)] [.inr 0] Z (zri Q))
        refine z_fr (by rfl) fr52_0 (?_ : TZ (d + 1) 83 25 [some (.inr 0), some (.inl x1), some (.inl x2), some (.inl x3)] [.inr 13] Z (zri Q))
        refine z0 (op := 3) (a := 3) (b := 0) (by rfl) (by rfl) (?_ : TZ (d + 1) 83 26 [some (.inr 0), some (.inl x1), some (.inl x2), some (.inl x3)] [.inl x3, .inr 13] Z (zri Q))
        refine z_vi (by rfl) (by rfl) cl_13 (TI.mono v fun r8 Z7 v => ?_)
        show TZ (d + 1) 83 29 [some (.inr 0), some (.inl x1), some (.inl x2), some (.inl x3)] [.inl r8] Z7 (zri Q)
        obtain ⟨c9, v1, v2⟩ := v
        refine z_if0 (a := 1) (t := 34) (by rfl) (by rfl) c9 (fun h10 => ?_) (fun h10 => ?_)
        · have v := v1 h10; clear v1 v2
          show TZ (d + 1) 83 34 [some (.inr 0), some (.inl x1), some (.inl x2), some (.inl x3)] [] Z7 (zri Q)
          refine z0 (op := 5) (a := 0) (b := 0) (by rfl) (by rfl) (?_ : TZ (d + 1) 83 35 [some (.inr 0), some (.inl x1), some (.inl x2), some (.inl x3)] [.inr 0] Z7 (zri Q))
          refine z_fr (by rfl) fr52_0 (?_ : TZ (d + 1) 83 38 [some (.inr 0), some (.inl x1), some (.inl x2), some (.inl x3)] [.inr 13] Z7 (zri Q))
          refine z0 (op := 3) (a := 1) (b := 0) (by rfl) (by rfl) (?_ : TZ (d + 1) 83 39 [some (.inr 0), some (.inl x1), some (.inl x2), some (.inl x3)] [.inl x1, .inr 13] Z7 (zri Q))
          refine z0 (op := 3) (a := 2) (b := 0) (by rfl) (by rfl) (?_ : TZ (d + 1) 83 40 [some (.inr 0), some (.inl x1), some (.inl x2), some (.inl x3)] [.inl x2, .inl x1, .inr 13] Z7 (zri Q))
          refine z0 (op := 3) (a := 3) (b := 0) (by rfl) (by rfl) (?_ : TZ (d + 1) 83 41 [some (.inr 0), some (.inl x1), some (.inl x2), some (.inl x3)] [.inl x3, .inl x2, .inl x1, .inr 13] Z7 (zri Q))
          refine z_vi (by rfl) (by rfl) cl_13 (TI.mono v fun r12 Z11 v => ?_)
          show TZ (d + 1) 83 44 [some (.inr 0), some (.inl x1), some (.inl x2), some (.inl x3)] [.inl r12] Z11 (zri Q)
          refine z0 (op := 14) (a := 0) (b := 0) (by rfl) (by rfl) (?_ : TZ (d + 1) 83 45 [some (.inr 0), some (.inl x1), some (.inl x2), some (.inl x3)] [] Z11 (zri Q))
          refine z0 (op := 0) (a := 0) (b := 1) (by rfl) (by rfl) (?_ : TZ (d + 1) 83 46 [some (.inr 0), some (.inl x1), some (.inl x2), some (.inl x3)] [.inl 1] Z11 (zri Q))
          exact z_retb (by rfl) (by rfl) (by decide) v
        · have v := v2 h10; clear v1 v2
          show TZ (d + 1) 83 32 [some (.inr 0), some (.inl x1), some (.inl x2), some (.inl x3)] [] Z7 (zri Q)
          refine z0 (op := 0) (a := 0) (b := 0) (by rfl) (by rfl) (?_ : TZ (d + 1) 83 33 [some (.inr 0), some (.inl x1), some (.inl x2), some (.inl x3)] [.inl 0] Z7 (zri Q))
          exact z_retb (by rfl) (by rfl) (by decide) v
theorem w84_0 {d : Nat} {x1 x2 : Int} {Z : zM} {Q : Int → zM → Prop}
    (v : TI d 15 [.inr 13, .inl x1] Z (fun r2 Z1 =>
      zR r2 ∧
        (r2 = 0 → Q 0 Z1) ∧
        (¬ r2 = 0 → (zR x2 ∧
            (x2 < 0 → Q 0 Z1) ∧
            (¬ x2 < 0 → (zR x2 ∧
                (x2 ≤ 11 → ((0 ≤ x1 ∧ x1 < 6) ∧
                    ∀ Z10, Z10 = zup Z1 18 x1 x2 →
                    Q 1 Z10)) ∧
                (¬ x2 ≤ 11 → Q 0 Z1))))))) :
    TZ (d + 1) 84 0 [some (.inr 0), some (.inl x1), some (.inl x2)] [] Z (zri Q) := by
  refine z0 (op := 5) (a := 0) (b := 0) (by rfl) (by rfl) (?_ : TZ (d + 1) 84 1 [some (.inr 0), some (.inl x1), some (.inl x2)] [.inr 0] Z (zri Q))
  refine z_fr (by rfl) fr52_0 (?_ : TZ (d + 1) 84 4 [some (.inr 0), some (.inl x1), some (.inl x2)] [.inr 13] Z (zri Q))
  refine z0 (op := 3) (a := 1) (b := 0) (by rfl) (by rfl) (?_ : TZ (d + 1) 84 5 [some (.inr 0), some (.inl x1), some (.inl x2)] [.inl x1, .inr 13] Z (zri Q))
  refine z_vi (by rfl) (by rfl) cl_13 (TI.mono v fun r2 Z1 v => ?_)
  show TZ (d + 1) 84 8 [some (.inr 0), some (.inl x1), some (.inl x2)] [.inl r2] Z1 (zri Q)
  obtain ⟨c3, v1, v2⟩ := v
  refine z_if0 (a := 0) (t := 21) (by rfl) (by rfl) c3 (fun h4 => ?_) (fun h4 => ?_)
  · have v := v1 h4; clear v1 v2
    show TZ (d + 1) 84 21 [some (.inr 0), some (.inl x1), some (.inl x2)] [] Z1 (zri Q)
    refine z0 (op := 0) (a := 0) (b := 0) (by rfl) (by rfl) (?_ : TZ (d + 1) 84 22 [some (.inr 0), some (.inl x1), some (.inl x2)] [.inl 0] Z1 (zri Q))
    exact z_retb (by rfl) (by rfl) (by decide) v
  · have v := v2 h4; clear v1 v2
    show TZ (d + 1) 84 11 [some (.inr 0), some (.inl x1), some (.inl x2)] [] Z1 (zri Q)
    refine z0 (op := 3) (a := 2) (b := 0) (by rfl) (by rfl) (?_ : TZ (d + 1) 84 12 [some (.inr 0), some (.inl x1), some (.inl x2)] [.inl x2] Z1 (zri Q))
    obtain ⟨c5, v1, v2⟩ := v
    refine z_if0 (a := 2) (t := 21) (by rfl) (by rfl) c5 (fun h6 => ?_) (fun h6 => ?_)
    · have v := v1 h6; clear v1 v2
      show TZ (d + 1) 84 21 [some (.inr 0), some (.inl x1), some (.inl x2)] [] Z1 (zri Q)
      refine z0 (op := 0) (a := 0) (b := 0) (by rfl) (by rfl) (?_ : TZ (d + 1) 84 22 [some (.inr 0), some (.inl x1), some (.inl x2)] [.inl 0] Z1 (zri Q))
      exact z_retb (by rfl) (by rfl) (by decide) v
    · have v := v2 h6; clear v1 v2
      show TZ (d + 1) 84 15 [some (.inr 0), some (.inl x1), some (.inl x2)] [] Z1 (zri Q)
      refine z0 (op := 3) (a := 2) (b := 0) (by rfl) (by rfl) (?_ : TZ (d + 1) 84 16 [some (.inr 0), some (.inl x1), some (.inl x2)] [.inl x2] Z1 (zri Q))
      refine z0 (op := 1) (a := 0) (b := 11) (by rfl) (by rfl) (?_ : TZ (d + 1) 84 18 [some (.inr 0), some (.inl x1), some (.inl x2)] [.inl 11, .inl x2] Z1 (zri Q))
      obtain ⟨c7, v1, v2⟩ := v
      refine z_if2 (a := 5) (t := 23) (by rfl) (by rfl) c7 (by decide) (fun h8 => ?_) (fun h8 => ?_)
      · have v := v1 h8; clear v1 v2
        show TZ (d + 1) 84 23 [some (.inr 0), some (.inl x1), some (.inl x2)] [] Z1 (zri Q)
        refine z0 (op := 5) (a := 0) (b := 0) (by rfl) (by rfl) (?_ : TZ (d + 1) 84 24 [some (.inr 0), some (.inl x1), some (.inl x2)] [.inr 0] Z1 (zri Q))
        refine z_fr (by rfl) fr52_0 (?_ : TZ (d + 1) 84 27 [some (.inr 0), some (.inl x1), some (.inl x2)] [.inr 13] Z1 (zri Q))
        refine z_fr (by rfl) fr71_13 (?_ : TZ (d + 1) 84 30 [some (.inr 0), some (.inl x1), some (.inl x2)] [.inr 18] Z1 (zri Q))
        refine z0 (op := 3) (a := 1) (b := 0) (by rfl) (by rfl) (?_ : TZ (d + 1) 84 31 [some (.inr 0), some (.inl x1), some (.inl x2)] [.inl x1, .inr 18] Z1 (zri Q))
        refine z0 (op := 3) (a := 2) (b := 0) (by rfl) (by rfl) (?_ : TZ (d + 1) 84 32 [some (.inr 0), some (.inl x1), some (.inl x2)] [.inl x2, .inl x1, .inr 18] Z1 (zri Q))
        obtain ⟨c9, v⟩ := v
        obtain ⟨Z10, eZ10⟩ : ∃ q, q = zup Z1 18 x1 x2 := ⟨_, rfl⟩
        have v := v Z10 eZ10
        refine z_as (by rfl) ln_18 c9 ?_
        show TZ (d + 1) 84 33 [some (.inr 0), some (.inl x1), some (.inl x2)] [] (zup Z1 18 x1 x2) _
        rw [← eZ10]
        refine z0 (op := 0) (a := 0) (b := 1) (by rfl) (by rfl) (?_ : TZ (d + 1) 84 34 [some (.inr 0), some (.inl x1), some (.inl x2)] [.inl 1] Z10 (zri Q))
        exact z_retb (by rfl) (by rfl) (by decide) v
      · have v := v2 h8; clear v1 v2
        show TZ (d + 1) 84 21 [some (.inr 0), some (.inl x1), some (.inl x2)] [] Z1 (zri Q)
        refine z0 (op := 0) (a := 0) (b := 0) (by rfl) (by rfl) (?_ : TZ (d + 1) 84 22 [some (.inr 0), some (.inl x1), some (.inl x2)] [.inl 0] Z1 (zri Q))
        exact z_retb (by rfl) (by rfl) (by decide) v
theorem w85_0 {d : Nat} {x1 x2 : Int} {Z : zM} {Q : Int → zM → Prop}
    (v : zR ((Z 13 7) + x1) ∧
      (((Z 13 7) + x1) ≤ 999 → TZ d 85 19 [some (.inr 0), some (.inl x1), some (.inl x2), some (.inl 0)] [] Z (zri Q)) ∧
      (¬ ((Z 13 7) + x1) ≤ 999 → Q 0 Z)) :
    TZ d 85 0 [some (.inr 0), some (.inl x1), some (.inl x2), none] [] Z (zri Q) := by
  refine z0 (op := 5) (a := 0) (b := 0) (by rfl) (by rfl) (?_ : TZ d 85 1 [some (.inr 0), some (.inl x1), some (.inl x2), none] [.inr 0] Z (zri Q))
  refine z_fr (by rfl) fr52_0 (?_ : TZ d 85 4 [some (.inr 0), some (.inl x1), some (.inl x2), none] [.inr 13] Z (zri Q))
  refine z_fi (by rfl) fi72_13 (?_ : TZ d 85 7 [some (.inr 0), some (.inl x1), some (.inl x2), none] [.inl (Z 13 7)] Z (zri Q))
  refine z0 (op := 3) (a := 1) (b := 0) (by rfl) (by rfl) (?_ : TZ d 85 8 [some (.inr 0), some (.inl x1), some (.inl x2), none] [.inl x1, .inl (Z 13 7)] Z (zri Q))
  refine z0 (op := 12) (a := 0) (b := 0) (by rfl) (by rfl) (?_ : TZ d 85 9 [some (.inr 0), some (.inl x1), some (.inl x2), none] [.inl ((Z 13 7) + x1)] Z (zri Q))
  refine z0 (op := 2) (a := 0) (b := 999) (by rfl) (by rfl) (?_ : TZ d 85 12 [some (.inr 0), some (.inl x1), some (.inl x2), none] [.inl 999, .inl ((Z 13 7) + x1)] Z (zri Q))
  obtain ⟨c1, v1, v2⟩ := v
  refine z_if2 (a := 5) (t := 17) (by rfl) (by rfl) c1 (by decide) (fun h2 => ?_) (fun h2 => ?_)
  · have v := v1 h2; clear v1 v2
    show TZ d 85 17 [some (.inr 0), some (.inl x1), some (.inl x2), none] [] Z (zri Q)
    refine z0 (op := 0) (a := 0) (b := 0) (by rfl) (by rfl) (?_ : TZ d 85 18 [some (.inr 0), some (.inl x1), some (.inl x2), none] [.inl 0] Z (zri Q))
    refine z0 (op := 7) (a := 3) (b := 0) (by rfl) (by rfl) (?_ : TZ d 85 19 [some (.inr 0), some (.inl x1), some (.inl x2), some (.inl 0)] [] Z (zri Q))
    exact v
  · have v := v2 h2; clear v1 v2
    show TZ d 85 15 [some (.inr 0), some (.inl x1), some (.inl x2), none] [] Z (zri Q)
    refine z0 (op := 0) (a := 0) (b := 0) (by rfl) (by rfl) (?_ : TZ d 85 16 [some (.inr 0), some (.inl x1), some (.inl x2), none] [.inl 0] Z (zri Q))
    exact z_retb (by rfl) (by rfl) (by decide) v
theorem w85_19 {d : Nat} {x1 x2 x3 : Int} {Z : zM} {Q : Int → zM → Prop}
    (v : zR x3 ∧
      zR x1 ∧
      (x1 ≤ x3 → Q 1 Z) ∧
      (¬ x1 ≤ x3 → TI d 25 [.inr 13, .inl x2] Z (fun r5 Z4 =>
          TZ (d + 1) 85 19 [some (.inr 0), some (.inl x1), some (.inl x2), some (.inl (x3 + 1))] [] Z4 (zri Q)))) :
    TZ (d + 1) 85 19 [some (.inr 0), some (.inl x1), some (.inl x2), some (.inl x3)] [] Z (zri Q) := by
  refine z0 (op := 3) (a := 3) (b := 0) (by rfl) (by rfl) (?_ : TZ (d + 1) 85 20 [some (.inr 0), some (.inl x1), some (.inl x2), some (.inl x3)] [.inl x3] Z (zri Q))
  refine z0 (op := 3) (a := 1) (b := 0) (by rfl) (by rfl) (?_ : TZ (d + 1) 85 21 [some (.inr 0), some (.inl x1), some (.inl x2), some (.inl x3)] [.inl x1, .inl x3] Z (zri Q))
  obtain ⟨c1, c2, v1, v2⟩ := v
  refine z_if2 (a := 3) (t := 39) (by rfl) (by rfl) c1 c2 (fun h3 => ?_) (fun h3 => ?_)
  · have v := v1 h3; clear v1 v2
    show TZ (d + 1) 85 39 [some (.inr 0), some (.inl x1), some (.inl x2), some (.inl x3)] [] Z (zri Q)
    refine z0 (op := 0) (a := 0) (b := 1) (by rfl) (by rfl) (?_ : TZ (d + 1) 85 40 [some (.inr 0), some (.inl x1), some (.inl x2), some (.inl x3)] [.inl 1] Z (zri Q))
    exact z_retb (by rfl) (by rfl) (by decide) v
  · have v := v2 h3; clear v1 v2
    show TZ (d + 1) 85 24 [some (.inr 0), some (.inl x1), some (.inl x2), some (.inl x3)] [] Z (zri Q)
    refine z0 (op := 5) (a := 0) (b := 0) (by rfl) (by rfl) (?_ : TZ (d + 1) 85 25 [some (.inr 0), some (.inl x1), some (.inl x2), some (.inl x3)] [.inr 0] Z (zri Q))
    refine z_fr (by rfl) fr52_0 (?_ : TZ (d + 1) 85 28 [some (.inr 0), some (.inl x1), some (.inl x2), some (.inl x3)] [.inr 13] Z (zri Q))
    refine z0 (op := 3) (a := 2) (b := 0) (by rfl) (by rfl) (?_ : TZ (d + 1) 85 29 [some (.inr 0), some (.inl x1), some (.inl x2), some (.inl x3)] [.inl x2, .inr 13] Z (zri Q))
    refine z_vi (by rfl) (by rfl) cl_13 (TI.mono v fun r5 Z4 v => ?_)
    show TZ (d + 1) 85 32 [some (.inr 0), some (.inl x1), some (.inl x2), some (.inl x3)] [.inl r5] Z4 (zri Q)
    refine z0 (op := 14) (a := 0) (b := 0) (by rfl) (by rfl) (?_ : TZ (d + 1) 85 33 [some (.inr 0), some (.inl x1), some (.inl x2), some (.inl x3)] [] Z4 (zri Q))
    refine z0 (op := 11) (a := 3) (b := 1) (by rfl) (by rfl) (?_ : TZ (d + 1) 85 36 [some (.inr 0), some (.inl x1), some (.inl x2), some (.inl (x3 + 1))] [] Z4 (zri Q))
    refine z_goto (t := 19) (by rfl) (by rfl) (?_ : TZ (d + 1) 85 19 [some (.inr 0), some (.inl x1), some (.inl x2), some (.inl (x3 + 1))] [] Z4 (zri Q))
    exact v
theorem w86_0 {d : Nat} {x1 : Int} {Z : zM} {Q : Int → zM → Prop}
    (v : TI d 15 [.inr 13, .inl x1] Z (fun r2 Z1 =>
      zR r2 ∧
        (r2 ≠ 0 → TI d 32 [.inr 13, .inl x1] Z1 (fun r6 Z5 =>
            Q 1 Z5)) ∧
        (¬ r2 ≠ 0 → Q 0 Z1))) :
    TZ (d + 1) 86 0 [some (.inr 0), some (.inl x1)] [] Z (zri Q) := by
  refine z0 (op := 5) (a := 0) (b := 0) (by rfl) (by rfl) (?_ : TZ (d + 1) 86 1 [some (.inr 0), some (.inl x1)] [.inr 0] Z (zri Q))
  refine z_fr (by rfl) fr52_0 (?_ : TZ (d + 1) 86 4 [some (.inr 0), some (.inl x1)] [.inr 13] Z (zri Q))
  refine z0 (op := 3) (a := 1) (b := 0) (by rfl) (by rfl) (?_ : TZ (d + 1) 86 5 [some (.inr 0), some (.inl x1)] [.inl x1, .inr 13] Z (zri Q))
  refine z_vi (by rfl) (by rfl) cl_13 (TI.mono v fun r2 Z1 v => ?_)
  show TZ (d + 1) 86 8 [some (.inr 0), some (.inl x1)] [.inl r2] Z1 (zri Q)
  obtain ⟨c3, v1, v2⟩ := v
  refine z_if0 (a := 1) (t := 13) (by rfl) (by rfl) c3 (fun h4 => ?_) (fun h4 => ?_)
  · have v := v1 h4; clear v1 v2
    show TZ (d + 1) 86 13 [some (.inr 0), some (.inl x1)] [] Z1 (zri Q)
    refine z0 (op := 5) (a := 0) (b := 0) (by rfl) (by rfl) (?_ : TZ (d + 1) 86 14 [some (.inr 0), some (.inl x1)] [.inr 0] Z1 (zri Q))
    refine z_fr (by rfl) fr52_0 (?_ : TZ (d + 1) 86 17 [some (.inr 0), some (.inl x1)] [.inr 13] Z1 (zri Q))
    refine z0 (op := 3) (a := 1) (b := 0) (by rfl) (by rfl) (?_ : TZ (d + 1) 86 18 [some (.inr 0), some (.inl x1)] [.inl x1, .inr 13] Z1 (zri Q))
    refine z_vi (by rfl) (by rfl) cl_13 (TI.mono v fun r6 Z5 v => ?_)
    show TZ (d + 1) 86 21 [some (.inr 0), some (.inl x1)] [.inl r6] Z5 (zri Q)
    refine z0 (op := 14) (a := 0) (b := 0) (by rfl) (by rfl) (?_ : TZ (d + 1) 86 22 [some (.inr 0), some (.inl x1)] [] Z5 (zri Q))
    refine z0 (op := 0) (a := 0) (b := 1) (by rfl) (by rfl) (?_ : TZ (d + 1) 86 23 [some (.inr 0), some (.inl x1)] [.inl 1] Z5 (zri Q))
    exact z_retb (by rfl) (by rfl) (by decide) v
  · have v := v2 h4; clear v1 v2
    show TZ (d + 1) 86 11 [some (.inr 0), some (.inl x1)] [] Z1 (zri Q)
    refine z0 (op := 0) (a := 0) (b := 0) (by rfl) (by rfl) (?_ : TZ (d + 1) 86 12 [some (.inr 0), some (.inl x1)] [.inl 0] Z1 (zri Q))
    exact z_retb (by rfl) (by rfl) (by decide) v
theorem w87_0 {d : Nat} {x1 x2 : Int} {Z : zM} {Q : Int → zM → Prop}
    (v : TI d 77 [.inr 0, .inl x1] Z (fun r2 Z1 =>
      TI d 75 [.inl x2, .inl 2] Z1 (fun r4 Z3 =>
        TI d 72 [.inl r2, .inl r4] Z3 (fun r6 Z5 =>
          zR r6 ∧
            (r6 = 0 → (zR x2 ∧
                (x2 ≠ 0 → (zR x2 ∧
                    (x2 ≠ 1 → ((0 ≤ x1 ∧ x1 < 8) ∧ Q (Z5 4 x1) Z5)) ∧
                    (¬ x2 ≠ 1 → ((0 ≤ x1 ∧ x1 < 8) ∧ Q (Z5 3 x1) Z5)))) ∧
                (¬ x2 ≠ 0 → ((0 ≤ x1 ∧ x1 < 8) ∧ Q (Z5 2 x1) Z5)))) ∧
            (¬ r6 = 0 → TI d 71 [.inr 0, .inl r6] Z5 (fun r17 Z16 =>
                Q r17 Z16)))))) :
    TZ (d + 1) 87 0 [some (.inr 0), some (.inl x1), some (.inl x2), none] [] Z (zri Q) := by
  refine z0 (op := 5) (a := 0) (b := 0) (by rfl) (by rfl) (?_ : TZ (d + 1) 87 1 [some (.inr 0), some (.inl x1), some (.inl x2), none] [.inr 0] Z (zri Q))
  refine z0 (op := 3) (a := 1) (b := 0) (by rfl) (by rfl) (?_ : TZ (d + 1) 87 2 [some (.inr 0), some (.inl x1), some (.inl x2), none] [.inl x1, .inr 0] Z (zri Q))
  refine z_vi (by rfl) (by rfl) cl_0 (TI.mono v fun r2 Z1 v => ?_)
  show TZ (d + 1) 87 5 [some (.inr 0), some (.inl x1), some (.inl x2), none] [.inl r2] Z1 (zri Q)
  refine z0 (op := 3) (a := 2) (b := 0) (by rfl) (by rfl) (?_ : TZ (d + 1) 87 6 [some (.inr 0), some (.inl x1), some (.inl x2), none] [.inl x2, .inl r2] Z1 (zri Q))
  refine z0 (op := 0) (a := 0) (b := 2) (by rfl) (by rfl) (?_ : TZ (d + 1) 87 7 [some (.inr 0), some (.inl x1), some (.inl x2), none] [.inl 2, .inl x2, .inl r2] Z1 (zri Q))
  refine z_si (by rfl) (by rfl) (TI.mono v fun r4 Z3 v => ?_)
  show TZ (d + 1) 87 10 [some (.inr 0), some (.inl x1), some (.inl x2), none] [.inl r4, .inl r2] Z3 (zri Q)
  refine z_si (by rfl) (by rfl) (TI.mono v fun r6 Z5 v => ?_)
  show TZ (d + 1) 87 13 [some (.inr 0), some (.inl x1), some (.inl x2), none] [.inl r6] Z5 (zri Q)
  refine z0 (op := 7) (a := 3) (b := 0) (by rfl) (by rfl) (?_ : TZ (d + 1) 87 14 [some (.inr 0), some (.inl x1), some (.inl x2), some (.inl r6)] [] Z5 (zri Q))
  refine z0 (op := 3) (a := 3) (b := 0) (by rfl) (by rfl) (?_ : TZ (d + 1) 87 15 [some (.inr 0), some (.inl x1), some (.inl x2), some (.inl r6)] [.inl r6] Z5 (zri Q))
  obtain ⟨c7, v1, v2⟩ := v
  refine z_if0 (a := 0) (t := 24) (by rfl) (by rfl) c7 (fun h8 => ?_) (fun h8 => ?_)
  · have v := v1 h8; clear v1 v2
    show TZ (d + 1) 87 24 [some (.inr 0), some (.inl x1), some (.inl x2), some (.inl r6)] [] Z5 (zri Q)
    refine z0 (op := 3) (a := 2) (b := 0) (by rfl) (by rfl) (?_ : TZ (d + 1) 87 25 [some (.inr 0), some (.inl x1), some (.inl x2), some (.inl r6)] [.inl x2] Z5 (zri Q))
    obtain ⟨c9, v1, v2⟩ := v
    refine z_if0 (a := 1) (t := 38) (by rfl) (by rfl) c9 (fun h10 => ?_) (fun h10 => ?_)
    · have v := v1 h10; clear v1 v2
      show TZ (d + 1) 87 38 [some (.inr 0), some (.inl x1), some (.inl x2), some (.inl r6)] [] Z5 (zri Q)
      refine z0 (op := 3) (a := 2) (b := 0) (by rfl) (by rfl) (?_ : TZ (d + 1) 87 39 [some (.inr 0), some (.inl x1), some (.inl x2), some (.inl r6)] [.inl x2] Z5 (zri Q))
      refine z0 (op := 0) (a := 0) (b := 1) (by rfl) (by rfl) (?_ : TZ (d + 1) 87 40 [some (.inr 0), some (.inl x1), some (.inl x2), some (.inl r6)] [.inl 1, .inl x2] Z5 (zri Q))
      obtain ⟨c11, v1, v2⟩ := v
      refine z_if2 (a := 1) (t := 55) (by rfl) (by rfl) c11 (by decide) (fun h12 => ?_) (fun h12 => ?_)
      · have v := v1 h12; clear v1 v2
        show TZ (d + 1) 87 55 [some (.inr 0), some (.inl x1), some (.inl x2), some (.inl r6)] [] Z5 (zri Q)
        refine z0 (op := 5) (a := 0) (b := 0) (by rfl) (by rfl) (?_ : TZ (d + 1) 87 56 [some (.inr 0), some (.inl x1), some (.inl x2), some (.inl r6)] [.inr 0] Z5 (zri Q))
        refine z_fr (by rfl) fr50_0 (?_ : TZ (d + 1) 87 59 [some (.inr 0), some (.inl x1), some (.inl x2), some (.inl r6)] [.inr 1] Z5 (zri Q))
        refine z_fr (by rfl) fr75_1 (?_ : TZ (d + 1) 87 62 [some (.inr 0), some (.inl x1), some (.inl x2), some (.inl r6)] [.inr 4] Z5 (zri Q))
        refine z0 (op := 3) (a := 1) (b := 0) (by rfl) (by rfl) (?_ : TZ (d + 1) 87 63 [some (.inr 0), some (.inl x1), some (.inl x2), some (.inl r6)] [.inl x1, .inr 4] Z5 (zri Q))
        obtain ⟨c13, v⟩ := v
        refine z_al (by rfl) ln_4 c13 (?_ : TZ (d + 1) 87 64 [some (.inr 0), some (.inl x1), some (.inl x2), some (.inl r6)] [.inl (Z5 4 x1)] Z5 (zri Q))
        exact z_reti (by rfl) (by rfl) v
      · have v := v2 h12; clear v1 v2
        show TZ (d + 1) 87 43 [some (.inr 0), some (.inl x1), some (.inl x2), some (.inl r6)] [] Z5 (zri Q)
        refine z0 (op := 5) (a := 0) (b := 0) (by rfl) (by rfl) (?_ : TZ (d + 1) 87 44 [some (.inr 0), some (.inl x1), some (.inl x2), some (.inl r6)] [.inr 0] Z5 (zri Q))
        refine z_fr (by rfl) fr50_0 (?_ : TZ (d + 1) 87 47 [some (.inr 0), some (.inl x1), some (.inl x2), some (.inl r6)] [.inr 1] Z5 (zri Q))
        refine z_fr (by rfl) fr74_1 (?_ : TZ (d + 1) 87 50 [some (.inr 0), some (.inl x1), some (.inl x2), some (.inl r6)] [.inr 3] Z5 (zri Q))
        refine z0 (op := 3) (a := 1) (b := 0) (by rfl) (by rfl) (?_ : TZ (d + 1) 87 51 [some (.inr 0), some (.inl x1), some (.inl x2), some (.inl r6)] [.inl x1, .inr 3] Z5 (zri Q))
        obtain ⟨c14, v⟩ := v
        refine z_al (by rfl) ln_3 c14 (?_ : TZ (d + 1) 87 52 [some (.inr 0), some (.inl x1), some (.inl x2), some (.inl r6)] [.inl (Z5 3 x1)] Z5 (zri Q))
        refine z_goto (t := 64) (by rfl) (by rfl) (?_ : TZ (d + 1) 87 64 [some (.inr 0), some (.inl x1), some (.inl x2), some (.inl r6)] [.inl (Z5 3 x1)] Z5 (zri Q))
        exact z_reti (by rfl) (by rfl) v
    · have v := v2 h10; clear v1 v2
      show TZ (d + 1) 87 28 [some (.inr 0), some (.inl x1), some (.inl x2), some (.inl r6)] [] Z5 (zri Q)
      refine z0 (op := 5) (a := 0) (b := 0) (by rfl) (by rfl) (?_ : TZ (d + 1) 87 29 [some (.inr 0), some (.inl x1), some (.inl x2), some (.inl r6)] [.inr 0] Z5 (zri Q))
      refine z_fr (by rfl) fr50_0 (?_ : TZ (d + 1) 87 32 [some (.inr 0), some (.inl x1), some (.inl x2), some (.inl r6)] [.inr 1] Z5 (zri Q))
      refine z_fr (by rfl) fr73_1 (?_ : TZ (d + 1) 87 35 [some (.inr 0), some (.inl x1), some (.inl x2), some (.inl r6)] [.inr 2] Z5 (zri Q))
      refine z0 (op := 3) (a := 1) (b := 0) (by rfl) (by rfl) (?_ : TZ (d + 1) 87 36 [some (.inr 0), some (.inl x1), some (.inl x2), some (.inl r6)] [.inl x1, .inr 2] Z5 (zri Q))
      obtain ⟨c15, v⟩ := v
      refine z_al (by rfl) ln_2 c15 (?_ : TZ (d + 1) 87 37 [some (.inr 0), some (.inl x1), some (.inl x2), some (.inl r6)] [.inl (Z5 2 x1)] Z5 (zri Q))
      exact z_reti (by rfl) (by rfl) v
  · have v := v2 h8; clear v1 v2
    show TZ (d + 1) 87 18 [some (.inr 0), some (.inl x1), some (.inl x2), some (.inl r6)] [] Z5 (zri Q)
    refine z0 (op := 5) (a := 0) (b := 0) (by rfl) (by rfl) (?_ : TZ (d + 1) 87 19 [some (.inr 0), some (.inl x1), some (.inl x2), some (.inl r6)] [.inr 0] Z5 (zri Q))
    refine z0 (op := 3) (a := 3) (b := 0) (by rfl) (by rfl) (?_ : TZ (d + 1) 87 20 [some (.inr 0), some (.inl x1), some (.inl x2), some (.inl r6)] [.inl r6, .inr 0] Z5 (zri Q))
    refine z_vi (by rfl) (by rfl) cl_0 (TI.mono v fun r17 Z16 v => ?_)
    show TZ (d + 1) 87 23 [some (.inr 0), some (.inl x1), some (.inl x2), some (.inl r6)] [.inl r17] Z16 (zri Q)
    exact z_reti (by rfl) (by rfl) v
theorem w88_0 {d : Nat} {x1 x2 x3 : Int} {Z : zM} {Q : Int → zM → Prop}
    (v : TI d 76 [.inr 0, .inl x3] Z (fun r2 Z1 =>
      TI d 75 [.inl x1, .inl 5] Z1 (fun r4 Z3 =>
        TI d 73 [.inl x2, .inl 0, .inl 9] Z3 (fun r6 Z5 =>
          TI d 72 [.inl r4, .inl r6] Z5 (fun r8 Z7 =>
            TI d 72 [.inl r2, .inl r8] Z7 (fun r10 Z9 =>
              zR r10 ∧
                (r10 ≠ 0 → (zR r10 ∧
                    (r10 ≠ 0 → (zR r10 ∧
                        (r10 = 0 → TV d 46 [.inr 26] Z9 (fun Z17 =>
                            TI d 18 [.inr 1, .inl x1, .inl x2, .inl x3] Z17 (fun r19 Z18 =>
                              Q r19 Z18))) ∧
                        (¬ r10 = 0 → TI d 71 [.inr 0, .inl r10] Z9 (fun r21 Z20 =>
                            Q r21 Z20)))) ∧
                    (¬ r10 ≠ 0 → TI d 17 [.inr 1, .inl x3] Z9 (fun r23 Z22 =>
                        zR r23 ∧
                          (r23 ≠ 0 → (zR r10 ∧
                              (r10 = 0 → TV d 46 [.inr 26] Z22 (fun Z28 =>
                                  TI d 18 [.inr 1, .inl x1, .inl x2, .inl x3] Z28 (fun r30 Z29 =>
                                    Q r30 Z29))) ∧
                              (¬ r10 = 0 → TI d 71 [.inr 0, .inl r10] Z22 (fun r32 Z31 =>
                                  Q r32 Z31)))) ∧
                          (¬ r23 ≠ 0 → TI d 71 [.inr 0, .inl (-3)] Z22 (fun r34 Z33 =>
                              Q r34 Z33)))))) ∧
                (¬ r10 ≠ 0 → (zR (Z9 1 5) ∧
                    ((Z9 1 5) < 8 → (zR r10 ∧
                        (r10 ≠ 0 → (zR r10 ∧
                            (r10 = 0 → TV d 46 [.inr 26] Z9 (fun Z41 =>
                                TI d 18 [.inr 1, .inl x1, .inl x2, .inl x3] Z41 (fun r43 Z42 =>
                                  Q r43 Z42))) ∧
                            (¬ r10 = 0 → TI d 71 [.inr 0, .inl r10] Z9 (fun r45 Z44 =>
                                Q r45 Z44)))) ∧
                        (¬ r10 ≠ 0 → TI d 17 [.inr 1, .inl x3] Z9 (fun r47 Z46 =>
                            zR r47 ∧
                              (r47 ≠ 0 → (zR r10 ∧
                                  (r10 = 0 → TV d 46 [.inr 26] Z46 (fun Z52 =>
                                      TI d 18 [.inr 1, .inl x1, .inl x2, .inl x3] Z52 (fun r54 Z53 =>
                                        Q r54 Z53))) ∧
                                  (¬ r10 = 0 → TI d 71 [.inr 0, .inl r10] Z46 (fun r56 Z55 =>
                                      Q r56 Z55)))) ∧
                              (¬ r47 ≠ 0 → TI d 71 [.inr 0, .inl (-3)] Z46 (fun r58 Z57 =>
                                  Q r58 Z57)))))) ∧
                    (¬ (Z9 1 5) < 8 → TI d 71 [.inr 0, .inl (-6)] Z9 (fun r60 Z59 =>
                        Q r60 Z59)))))))))) :
    TZ (d + 1) 88 0 [some (.inr 0), some (.inl x1), some (.inl x2), some (.inl x3), none] [] Z (zri Q) := by
  refine z0 (op := 5) (a := 0) (b := 0) (by rfl) (by rfl) (?_ : TZ (d + 1) 88 1 [some (.inr 0), some (.inl x1), some (.inl x2), some (.inl x3), none] [.inr 0] Z (zri Q))
  refine z0 (op := 3) (a := 3) (b := 0) (by rfl) (by rfl) (?_ : TZ (d + 1) 88 2 [some (.inr 0), some (.inl x1), some (.inl x2), some (.inl x3), none] [.inl x3, .inr 0] Z (zri Q))
  refine z_vi (by rfl) (by rfl) cl_0 (TI.mono v fun r2 Z1 v => ?_)
  show TZ (d + 1) 88 5 [some (.inr 0), some (.inl x1), some (.inl x2), some (.inl x3), none] [.inl r2] Z1 (zri Q)
  refine z0 (op := 3) (a := 1) (b := 0) (by rfl) (by rfl) (?_ : TZ (d + 1) 88 6 [some (.inr 0), some (.inl x1), some (.inl x2), some (.inl x3), none] [.inl x1, .inl r2] Z1 (zri Q))
  refine z0 (op := 0) (a := 0) (b := 5) (by rfl) (by rfl) (?_ : TZ (d + 1) 88 7 [some (.inr 0), some (.inl x1), some (.inl x2), some (.inl x3), none] [.inl 5, .inl x1, .inl r2] Z1 (zri Q))
  refine z_si (by rfl) (by rfl) (TI.mono v fun r4 Z3 v => ?_)
  show TZ (d + 1) 88 10 [some (.inr 0), some (.inl x1), some (.inl x2), some (.inl x3), none] [.inl r4, .inl r2] Z3 (zri Q)
  refine z0 (op := 3) (a := 2) (b := 0) (by rfl) (by rfl) (?_ : TZ (d + 1) 88 11 [some (.inr 0), some (.inl x1), some (.inl x2), some (.inl x3), none] [.inl x2, .inl r4, .inl r2] Z3 (zri Q))
  refine z0 (op := 0) (a := 0) (b := 0) (by rfl) (by rfl) (?_ : TZ (d + 1) 88 12 [some (.inr 0), some (.inl x1), some (.inl x2), some (.inl x3), none] [.inl 0, .inl x2, .inl r4, .inl r2] Z3 (zri Q))
  refine z0 (op := 1) (a := 0) (b := 9) (by rfl) (by rfl) (?_ : TZ (d + 1) 88 14 [some (.inr 0), some (.inl x1), some (.inl x2), some (.inl x3), none] [.inl 9, .inl 0, .inl x2, .inl r4, .inl r2] Z3 (zri Q))
  refine z_si (by rfl) (by rfl) (TI.mono v fun r6 Z5 v => ?_)
  show TZ (d + 1) 88 17 [some (.inr 0), some (.inl x1), some (.inl x2), some (.inl x3), none] [.inl r6, .inl r4, .inl r2] Z5 (zri Q)
  refine z_si (by rfl) (by rfl) (TI.mono v fun r8 Z7 v => ?_)
  show TZ (d + 1) 88 20 [some (.inr 0), some (.inl x1), some (.inl x2), some (.inl x3), none] [.inl r8, .inl r2] Z7 (zri Q)
  refine z_si (by rfl) (by rfl) (TI.mono v fun r10 Z9 v => ?_)
  show TZ (d + 1) 88 23 [some (.inr 0), some (.inl x1), some (.inl x2), some (.inl x3), none] [.inl r10] Z9 (zri Q)
  refine z0 (op := 8) (a := 4) (b := 0) (by rfl) (by rfl) (?_ : TZ (d + 1) 88 25 [some (.inr 0), some (.inl x1), some (.inl x2), some (.inl x3), some (.inl r10)] [] Z9 (zri Q))
  refine z0 (op := 4) (a := 4) (b := 0) (by rfl) (by rfl) (?_ : TZ (d + 1) 88 27 [some (.inr 0), some (.inl x1), some (.inl x2), some (.inl x3), some (.inl r10)] [.inl r10] Z9 (zri Q))
  obtain ⟨c11, v1, v2⟩ := v
  refine z_if0 (a := 1) (t := 46) (by rfl) (by rfl) c11 (fun h12 => ?_) (fun h12 => ?_)
  · have v := v1 h12; clear v1 v2
    show TZ (d + 1) 88 46 [some (.inr 0), some (.inl x1), some (.inl x2), some (.inl x3), some (.inl r10)] [] Z9 (zri Q)
    refine z0 (op := 4) (a := 4) (b := 0) (by rfl) (by rfl) (?_ : TZ (d + 1) 88 48 [some (.inr 0), some (.inl x1), some (.inl x2), some (.inl x3), some (.inl r10)] [.inl r10] Z9 (zri Q))
    obtain ⟨c13, v1, v2⟩ := v
    refine z_if0 (a := 1) (t := 66) (by rfl) (by rfl) c13 (fun h14 => ?_) (fun h14 => ?_)
    · have v := v1 h14; clear v1 v2
      show TZ (d + 1) 88 66 [some (.inr 0), some (.inl x1), some (.inl x2), some (.inl x3), some (.inl r10)] [] Z9 (zri Q)
      refine z0 (op := 4) (a := 4) (b := 0) (by rfl) (by rfl) (?_ : TZ (d + 1) 88 68 [some (.inr 0), some (.inl x1), some (.inl x2), some (.inl x3), some (.inl r10)] [.inl r10] Z9 (zri Q))
      obtain ⟨c15, v1, v2⟩ := v
      refine z_if0 (a := 0) (t := 78) (by rfl) (by rfl) c15 (fun h16 => ?_) (fun h16 => ?_)
      · have v := v1 h16; clear v1 v2
        show TZ (d + 1) 88 78 [some (.inr 0), some (.inl x1), some (.inl x2), some (.inl x3), some (.inl r10)] [] Z9 (zri Q)
        refine z0 (op := 5) (a := 0) (b := 0) (by rfl) (by rfl) (?_ : TZ (d + 1) 88 79 [some (.inr 0), some (.inl x1), some (.inl x2), some (.inl x3), some (.inl r10)] [.inr 0] Z9 (zri Q))
        refine z_fr (by rfl) fr55_0 (?_ : TZ (d + 1) 88 82 [some (.inr 0), some (.inl x1), some (.inl x2), some (.inl x3), some (.inl r10)] [.inr 26] Z9 (zri Q))
        refine z_vv (by rfl) (by rfl) cl_26 (TV.mono v fun Z17 v => ?_)
        show TZ (d + 1) 88 85 [some (.inr 0), some (.inl x1), some (.inl x2), some (.inl x3), some (.inl r10)] [] Z17 (zri Q)
        refine z0 (op := 5) (a := 0) (b := 0) (by rfl) (by rfl) (?_ : TZ (d + 1) 88 86 [some (.inr 0), some (.inl x1), some (.inl x2), some (.inl x3), some (.inl r10)] [.inr 0] Z17 (zri Q))
        refine z_fr (by rfl) fr50_0 (?_ : TZ (d + 1) 88 89 [some (.inr 0), some (.inl x1), some (.inl x2), some (.inl x3), some (.inl r10)] [.inr 1] Z17 (zri Q))
        refine z0 (op := 3) (a := 1) (b := 0) (by rfl) (by rfl) (?_ : TZ (d + 1) 88 90 [some (.inr 0), some (.inl x1), some (.inl x2), some (.inl x3), some (.inl r10)] [.inl x1, .inr 1] Z17 (zri Q))
        refine z0 (op := 3) (a := 2) (b := 0) (by rfl) (by rfl) (?_ : TZ (d + 1) 88 91 [some (.inr 0), some (.inl x1), some (.inl x2), some (.inl x3), some (.inl r10)] [.inl x2, .inl x1, .inr 1] Z17 (zri Q))
        refine z0 (op := 3) (a := 3) (b := 0) (by rfl) (by rfl) (?_ : TZ (d + 1) 88 92 [some (.inr 0), some (.inl x1), some (.inl x2), some (.inl x3), some (.inl r10)] [.inl x3, .inl x2, .inl x1, .inr 1] Z17 (zri Q))
        refine z_vi (by rfl) (by rfl) cl_1 (TI.mono v fun r19 Z18 v => ?_)
        show TZ (d + 1) 88 95 [some (.inr 0), some (.inl x1), some (.inl x2), some (.inl x3), some (.inl r10)] [.inl r19] Z18 (zri Q)
        exact z_reti (by rfl) (by rfl) v
      · have v := v2 h16; clear v1 v2
        show TZ (d + 1) 88 71 [some (.inr 0), some (.inl x1), some (.inl x2), some (.inl x3), some (.inl r10)] [] Z9 (zri Q)
        refine z0 (op := 5) (a := 0) (b := 0) (by rfl) (by rfl) (?_ : TZ (d + 1) 88 72 [some (.inr 0), some (.inl x1), some (.inl x2), some (.inl x3), some (.inl r10)] [.inr 0] Z9 (zri Q))
        refine z0 (op := 4) (a := 4) (b := 0) (by rfl) (by rfl) (?_ : TZ (d + 1) 88 74 [some (.inr 0), some (.inl x1), some (.inl x2), some (.inl x3), some (.inl r10)] [.inl r10, .inr 0] Z9 (zri Q))
        refine z_vi (by rfl) (by rfl) cl_0 (TI.mono v fun r21 Z20 v => ?_)
        show TZ (d + 1) 88 77 [some (.inr 0), some (.inl x1), some (.inl x2), some (.inl x3), some (.inl r10)] [.inl r21] Z20 (zri Q)
        exact z_reti (by rfl) (by rfl) v
    · have v := v2 h14; clear v1 v2
      show TZ (d + 1) 88 51 [some (.inr 0), some (.inl x1), some (.inl x2), some (.inl x3), some (.inl r10)] [] Z9 (zri Q)
      refine z0 (op := 5) (a := 0) (b := 0) (by rfl) (by rfl) (?_ : TZ (d + 1) 88 52 [some (.inr 0), some (.inl x1), some (.inl x2), some (.inl x3), some (.inl r10)] [.inr 0] Z9 (zri Q))
      refine z_fr (by rfl) fr50_0 (?_ : TZ (d + 1) 88 55 [some (.inr 0), some (.inl x1), some (.inl x2), some (.inl x3), some (.inl r10)] [.inr 1] Z9 (zri Q))
      refine z0 (op := 3) (a := 3) (b := 0) (by rfl) (by rfl) (?_ : TZ (d + 1) 88 56 [some (.inr 0), some (.inl x1), some (.inl x2), some (.inl x3), some (.inl r10)] [.inl x3, .inr 1] Z9 (zri Q))
      refine z_vi (by rfl) (by rfl) cl_1 (TI.mono v fun r23 Z22 v => ?_)
      show TZ (d + 1) 88 59 [some (.inr 0), some (.inl x1), some (.inl x2), some (.inl x3), some (.inl r10)] [.inl r23] Z22 (zri Q)
      obtain ⟨c24, v1, v2⟩ := v
      refine z_if0 (a := 1) (t := 66) (by rfl) (by rfl) c24 (fun h25 => ?_) (fun h25 => ?_)
      · have v := v1 h25; clear v1 v2
        show TZ (d + 1) 88 66 [some (.inr 0), some (.inl x1), some (.inl x2), some (.inl x3), some (.inl r10)] [] Z22 (zri Q)
        refine z0 (op := 4) (a := 4) (b := 0) (by rfl) (by rfl) (?_ : TZ (d + 1) 88 68 [some (.inr 0), some (.inl x1), some (.inl x2), some (.inl x3), some (.inl r10)] [.inl r10] Z22 (zri Q))
        obtain ⟨c26, v1, v2⟩ := v
        refine z_if0 (a := 0) (t := 78) (by rfl) (by rfl) c26 (fun h27 => ?_) (fun h27 => ?_)
        · have v := v1 h27; clear v1 v2
          show TZ (d + 1) 88 78 [some (.inr 0), some (.inl x1), some (.inl x2), some (.inl x3), some (.inl r10)] [] Z22 (zri Q)
          refine z0 (op := 5) (a := 0) (b := 0) (by rfl) (by rfl) (?_ : TZ (d + 1) 88 79 [some (.inr 0), some (.inl x1), some (.inl x2), some (.inl x3), some (.inl r10)] [.inr 0] Z22 (zri Q))
          refine z_fr (by rfl) fr55_0 (?_ : TZ (d + 1) 88 82 [some (.inr 0), some (.inl x1), some (.inl x2), some (.inl x3), some (.inl r10)] [.inr 26] Z22 (zri Q))
          refine z_vv (by rfl) (by rfl) cl_26 (TV.mono v fun Z28 v => ?_)
          show TZ (d + 1) 88 85 [some (.inr 0), some (.inl x1), some (.inl x2), some (.inl x3), some (.inl r10)] [] Z28 (zri Q)
          refine z0 (op := 5) (a := 0) (b := 0) (by rfl) (by rfl) (?_ : TZ (d + 1) 88 86 [some (.inr 0), some (.inl x1), some (.inl x2), some (.inl x3), some (.inl r10)] [.inr 0] Z28 (zri Q))
          refine z_fr (by rfl) fr50_0 (?_ : TZ (d + 1) 88 89 [some (.inr 0), some (.inl x1), some (.inl x2), some (.inl x3), some (.inl r10)] [.inr 1] Z28 (zri Q))
          refine z0 (op := 3) (a := 1) (b := 0) (by rfl) (by rfl) (?_ : TZ (d + 1) 88 90 [some (.inr 0), some (.inl x1), some (.inl x2), some (.inl x3), some (.inl r10)] [.inl x1, .inr 1] Z28 (zri Q))
          refine z0 (op := 3) (a := 2) (b := 0) (by rfl) (by rfl) (?_ : TZ (d + 1) 88 91 [some (.inr 0), some (.inl x1), some (.inl x2), some (.inl x3), some (.inl r10)] [.inl x2, .inl x1, .inr 1] Z28 (zri Q))
          refine z0 (op := 3) (a := 3) (b := 0) (by rfl) (by rfl) (?_ : TZ (d + 1) 88 92 [some (.inr 0), some (.inl x1), some (.inl x2), some (.inl x3), some (.inl r10)] [.inl x3, .inl x2, .inl x1, .inr 1] Z28 (zri Q))
          refine z_vi (by rfl) (by rfl) cl_1 (TI.mono v fun r30 Z29 v => ?_)
          show TZ (d + 1) 88 95 [some (.inr 0), some (.inl x1), some (.inl x2), some (.inl x3), some (.inl r10)] [.inl r30] Z29 (zri Q)
          exact z_reti (by rfl) (by rfl) v
        · have v := v2 h27; clear v1 v2
          show TZ (d + 1) 88 71 [some (.inr 0), some (.inl x1), some (.inl x2), some (.inl x3), some (.inl r10)] [] Z22 (zri Q)
          refine z0 (op := 5) (a := 0) (b := 0) (by rfl) (by rfl) (?_ : TZ (d + 1) 88 72 [some (.inr 0), some (.inl x1), some (.inl x2), some (.inl x3), some (.inl r10)] [.inr 0] Z22 (zri Q))
          refine z0 (op := 4) (a := 4) (b := 0) (by rfl) (by rfl) (?_ : TZ (d + 1) 88 74 [some (.inr 0), some (.inl x1), some (.inl x2), some (.inl x3), some (.inl r10)] [.inl r10, .inr 0] Z22 (zri Q))
          refine z_vi (by rfl) (by rfl) cl_0 (TI.mono v fun r32 Z31 v => ?_)
          show TZ (d + 1) 88 77 [some (.inr 0), some (.inl x1), some (.inl x2), some (.inl x3), some (.inl r10)] [.inl r32] Z31 (zri Q)
          exact z_reti (by rfl) (by rfl) v
      · have v := v2 h25; clear v1 v2
        show TZ (d + 1) 88 62 [some (.inr 0), some (.inl x1), some (.inl x2), some (.inl x3), some (.inl r10)] [] Z22 (zri Q)
        refine z0 (op := 1) (a := 0) (b := (-3)) (by rfl) (by rfl) (?_ : TZ (d + 1) 88 64 [some (.inr 0), some (.inl x1), some (.inl x2), some (.inl x3), some (.inl r10)] [.inl (-3)] Z22 (zri Q))
        refine z0 (op := 8) (a := 4) (b := 0) (by rfl) (by rfl) (?_ : TZ (d + 1) 88 66 [some (.inr 0), some (.inl x1), some (.inl x2), some (.inl x3), some (.inl (-3))] [] Z22 (zri Q))
        refine z0 (op := 4) (a := 4) (b := 0) (by rfl) (by rfl) (?_ : TZ (d + 1) 88 68 [some (.inr 0), some (.inl x1), some (.inl x2), some (.inl x3), some (.inl (-3))] [.inl (-3)] Z22 (zri Q))
        refine z_if0 (a := 0) (t := 78) (by rfl) (by rfl) (by decide) (fun h => absurd (show ((-3) : Int) = (0 : Int) from h) (by decide)) (fun _ => ?_)
        show TZ (d + 1) 88 71 [some (.inr 0), some (.inl x1), some (.inl x2), some (.inl x3), some (.inl (-3))] [] Z22 (zri Q)
        refine z0 (op := 5) (a := 0) (b := 0) (by rfl) (by rfl) (?_ : TZ (d + 1) 88 72 [some (.inr 0), some (.inl x1), some (.inl x2), some (.inl x3), some (.inl (-3))] [.inr 0] Z22 (zri Q))
        refine z0 (op := 4) (a := 4) (b := 0) (by rfl) (by rfl) (?_ : TZ (d + 1) 88 74 [some (.inr 0), some (.inl x1), some (.inl x2), some (.inl x3), some (.inl (-3))] [.inl (-3), .inr 0] Z22 (zri Q))
        refine z_vi (by rfl) (by rfl) cl_0 (TI.mono v fun r34 Z33 v => ?_)
        show TZ (d + 1) 88 77 [some (.inr 0), some (.inl x1), some (.inl x2), some (.inl x3), some (.inl (-3))] [.inl r34] Z33 (zri Q)
        exact z_reti (by rfl) (by rfl) v
  · have v := v2 h12; clear v1 v2
    show TZ (d + 1) 88 30 [some (.inr 0), some (.inl x1), some (.inl x2), some (.inl x3), some (.inl r10)] [] Z9 (zri Q)
    refine z0 (op := 5) (a := 0) (b := 0) (by rfl) (by rfl) (?_ : TZ (d + 1) 88 31 [some (.inr 0), some (.inl x1), some (.inl x2), some (.inl x3), some (.inl r10)] [.inr 0] Z9 (zri Q))
    refine z_fr (by rfl) fr50_0 (?_ : TZ (d + 1) 88 34 [some (.inr 0), some (.inl x1), some (.inl x2), some (.inl x3), some (.inl r10)] [.inr 1] Z9 (zri Q))
    refine z_fi (by rfl) fi70_1 (?_ : TZ (d + 1) 88 37 [some (.inr 0), some (.inl x1), some (.inl x2), some (.inl x3), some (.inl r10)] [.inl (Z9 1 5)] Z9 (zri Q))
    refine z0 (op := 1) (a := 0) (b := 8) (by rfl) (by rfl) (?_ : TZ (d + 1) 88 39 [some (.inr 0), some (.inl x1), some (.inl x2), some (.inl x3), some (.inl r10)] [.inl 8, .inl (Z9 1 5)] Z9 (zri Q))
    obtain ⟨c35, v1, v2⟩ := v
    refine z_if2 (a := 2) (t := 46) (by rfl) (by rfl) c35 (by decide) (fun h36 => ?_) (fun h36 => ?_)
    · have v := v1 h36; clear v1 v2
      show TZ (d + 1) 88 46 [some (.inr 0), some (.inl x1), some (.inl x2), some (.inl x3), some (.inl r10)] [] Z9 (zri Q)
      refine z0 (op := 4) (a := 4) (b := 0) (by rfl) (by rfl) (?_ : TZ (d + 1) 88 48 [some (.inr 0), some (.inl x1), some (.inl x2), some (.inl x3), some (.inl r10)] [.inl r10] Z9 (zri Q))
      obtain ⟨c37, v1, v2⟩ := v
      refine z_if0 (a := 1) (t := 66) (by rfl) (by rfl) c37 (fun h38 => ?_) (fun h38 => ?_)
      · have v := v1 h38; clear v1 v2
        show TZ (d + 1) 88 66 [some (.inr 0), some (.inl x1), some (.inl x2), some (.inl x3), some (.inl r10)] [] Z9 (zri Q)
        refine z0 (op := 4) (a := 4) (b := 0) (by rfl) (by rfl) (?_ : TZ (d + 1) 88 68 [some (.inr 0), some (.inl x1), some (.inl x2), some (.inl x3), some (.inl r10)] [.inl r10] Z9 (zri Q))
        obtain ⟨c39, v1, v2⟩ := v
        refine z_if0 (a := 0) (t := 78) (by rfl) (by rfl) c39 (fun h40 => ?_) (fun h40 => ?_)
        · have v := v1 h40; clear v1 v2
          show TZ (d + 1) 88 78 [some (.inr 0), some (.inl x1), some (.inl x2), some (.inl x3), some (.inl r10)] [] Z9 (zri Q)
          refine z0 (op := 5) (a := 0) (b := 0) (by rfl) (by rfl) (?_ : TZ (d + 1) 88 79 [some (.inr 0), some (.inl x1), some (.inl x2), some (.inl x3), some (.inl r10)] [.inr 0] Z9 (zri Q))
          refine z_fr (by rfl) fr55_0 (?_ : TZ (d + 1) 88 82 [some (.inr 0), some (.inl x1), some (.inl x2), some (.inl x3), some (.inl r10)] [.inr 26] Z9 (zri Q))
          refine z_vv (by rfl) (by rfl) cl_26 (TV.mono v fun Z41 v => ?_)
          show TZ (d + 1) 88 85 [some (.inr 0), some (.inl x1), some (.inl x2), some (.inl x3), some (.inl r10)] [] Z41 (zri Q)
          refine z0 (op := 5) (a := 0) (b := 0) (by rfl) (by rfl) (?_ : TZ (d + 1) 88 86 [some (.inr 0), some (.inl x1), some (.inl x2), some (.inl x3), some (.inl r10)] [.inr 0] Z41 (zri Q))
          refine z_fr (by rfl) fr50_0 (?_ : TZ (d + 1) 88 89 [some (.inr 0), some (.inl x1), some (.inl x2), some (.inl x3), some (.inl r10)] [.inr 1] Z41 (zri Q))
          refine z0 (op := 3) (a := 1) (b := 0) (by rfl) (by rfl) (?_ : TZ (d + 1) 88 90 [some (.inr 0), some (.inl x1), some (.inl x2), some (.inl x3), some (.inl r10)] [.inl x1, .inr 1] Z41 (zri Q))
          refine z0 (op := 3) (a := 2) (b := 0) (by rfl) (by rfl) (?_ : TZ (d + 1) 88 91 [some (.inr 0), some (.inl x1), some (.inl x2), some (.inl x3), some (.inl r10)] [.inl x2, .inl x1, .inr 1] Z41 (zri Q))
          refine z0 (op := 3) (a := 3) (b := 0) (by rfl) (by rfl) (?_ : TZ (d + 1) 88 92 [some (.inr 0), some (.inl x1), some (.inl x2), some (.inl x3), some (.inl r10)] [.inl x3, .inl x2, .inl x1, .inr 1] Z41 (zri Q))
          refine z_vi (by rfl) (by rfl) cl_1 (TI.mono v fun r43 Z42 v => ?_)
          show TZ (d + 1) 88 95 [some (.inr 0), some (.inl x1), some (.inl x2), some (.inl x3), some (.inl r10)] [.inl r43] Z42 (zri Q)
          exact z_reti (by rfl) (by rfl) v
        · have v := v2 h40; clear v1 v2
          show TZ (d + 1) 88 71 [some (.inr 0), some (.inl x1), some (.inl x2), some (.inl x3), some (.inl r10)] [] Z9 (zri Q)
          refine z0 (op := 5) (a := 0) (b := 0) (by rfl) (by rfl) (?_ : TZ (d + 1) 88 72 [some (.inr 0), some (.inl x1), some (.inl x2), some (.inl x3), some (.inl r10)] [.inr 0] Z9 (zri Q))
          refine z0 (op := 4) (a := 4) (b := 0) (by rfl) (by rfl) (?_ : TZ (d + 1) 88 74 [some (.inr 0), some (.inl x1), some (.inl x2), some (.inl x3), some (.inl r10)] [.inl r10, .inr 0] Z9 (zri Q))
          refine z_vi (by rfl) (by rfl) cl_0 (TI.mono v fun r45 Z44 v => ?_)
          show TZ (d + 1) 88 77 [some (.inr 0), some (.inl x1), some (.inl x2), some (.inl x3), some (.inl r10)] [.inl r45] Z44 (zri Q)
          exact z_reti (by rfl) (by rfl) v
      · have v := v2 h38; clear v1 v2
        show TZ (d + 1) 88 51 [some (.inr 0), some (.inl x1), some (.inl x2), some (.inl x3), some (.inl r10)] [] Z9 (zri Q)
        refine z0 (op := 5) (a := 0) (b := 0) (by rfl) (by rfl) (?_ : TZ (d + 1) 88 52 [some (.inr 0), some (.inl x1), some (.inl x2), some (.inl x3), some (.inl r10)] [.inr 0] Z9 (zri Q))
        refine z_fr (by rfl) fr50_0 (?_ : TZ (d + 1) 88 55 [some (.inr 0), some (.inl x1), some (.inl x2), some (.inl x3), some (.inl r10)] [.inr 1] Z9 (zri Q))
        refine z0 (op := 3) (a := 3) (b := 0) (by rfl) (by rfl) (?_ : TZ (d + 1) 88 56 [some (.inr 0), some (.inl x1), some (.inl x2), some (.inl x3), some (.inl r10)] [.inl x3, .inr 1] Z9 (zri Q))
        refine z_vi (by rfl) (by rfl) cl_1 (TI.mono v fun r47 Z46 v => ?_)
        show TZ (d + 1) 88 59 [some (.inr 0), some (.inl x1), some (.inl x2), some (.inl x3), some (.inl r10)] [.inl r47] Z46 (zri Q)
        obtain ⟨c48, v1, v2⟩ := v
        refine z_if0 (a := 1) (t := 66) (by rfl) (by rfl) c48 (fun h49 => ?_) (fun h49 => ?_)
        · have v := v1 h49; clear v1 v2
          show TZ (d + 1) 88 66 [some (.inr 0), some (.inl x1), some (.inl x2), some (.inl x3), some (.inl r10)] [] Z46 (zri Q)
          refine z0 (op := 4) (a := 4) (b := 0) (by rfl) (by rfl) (?_ : TZ (d + 1) 88 68 [some (.inr 0), some (.inl x1), some (.inl x2), some (.inl x3), some (.inl r10)] [.inl r10] Z46 (zri Q))
          obtain ⟨c50, v1, v2⟩ := v
          refine z_if0 (a := 0) (t := 78) (by rfl) (by rfl) c50 (fun h51 => ?_) (fun h51 => ?_)
          · have v := v1 h51; clear v1 v2
            show TZ (d + 1) 88 78 [some (.inr 0), some (.inl x1), some (.inl x2), some (.inl x3), some (.inl r10)] [] Z46 (zri Q)
            refine z0 (op := 5) (a := 0) (b := 0) (by rfl) (by rfl) (?_ : TZ (d + 1) 88 79 [some (.inr 0), some (.inl x1), some (.inl x2), some (.inl x3), some (.inl r10)] [.inr 0] Z46 (zri Q))
            refine z_fr (by rfl) fr55_0 (?_ : TZ (d + 1) 88 82 [some (.inr 0), some (.inl x1), some (.inl x2), some (.inl x3), some (.inl r10)] [.inr 26] Z46 (zri Q))
            refine z_vv (by rfl) (by rfl) cl_26 (TV.mono v fun Z52 v => ?_)
            show TZ (d + 1) 88 85 [some (.inr 0), some (.inl x1), some (.inl x2), some (.inl x3), some (.inl r10)] [] Z52 (zri Q)
            refine z0 (op := 5) (a := 0) (b := 0) (by rfl) (by rfl) (?_ : TZ (d + 1) 88 86 [some (.inr 0), some (.inl x1), some (.inl x2), some (.inl x3), some (.inl r10)] [.inr 0] Z52 (zri Q))
            refine z_fr (by rfl) fr50_0 (?_ : TZ (d + 1) 88 89 [some (.inr 0), some (.inl x1), some (.inl x2), some (.inl x3), some (.inl r10)] [.inr 1] Z52 (zri Q))
            refine z0 (op := 3) (a := 1) (b := 0) (by rfl) (by rfl) (?_ : TZ (d + 1) 88 90 [some (.inr 0), some (.inl x1), some (.inl x2), some (.inl x3), some (.inl r10)] [.inl x1, .inr 1] Z52 (zri Q))
            refine z0 (op := 3) (a := 2) (b := 0) (by rfl) (by rfl) (?_ : TZ (d + 1) 88 91 [some (.inr 0), some (.inl x1), some (.inl x2), some (.inl x3), some (.inl r10)] [.inl x2, .inl x1, .inr 1] Z52 (zri Q))
            refine z0 (op := 3) (a := 3) (b := 0) (by rfl) (by rfl) (?_ : TZ (d + 1) 88 92 [some (.inr 0), some (.inl x1), some (.inl x2), some (.inl x3), some (.inl r10)] [.inl x3, .inl x2, .inl x1, .inr 1] Z52 (zri Q))
            refine z_vi (by rfl) (by rfl) cl_1 (TI.mono v fun r54 Z53 v => ?_)
            show TZ (d + 1) 88 95 [some (.inr 0), some (.inl x1), some (.inl x2), some (.inl x3), some (.inl r10)] [.inl r54] Z53 (zri Q)
            exact z_reti (by rfl) (by rfl) v
          · have v := v2 h51; clear v1 v2
            show TZ (d + 1) 88 71 [some (.inr 0), some (.inl x1), some (.inl x2), some (.inl x3), some (.inl r10)] [] Z46 (zri Q)
            refine z0 (op := 5) (a := 0) (b := 0) (by rfl) (by rfl) (?_ : TZ (d + 1) 88 72 [some (.inr 0), some (.inl x1), some (.inl x2), some (.inl x3), some (.inl r10)] [.inr 0] Z46 (zri Q))
            refine z0 (op := 4) (a := 4) (b := 0) (by rfl) (by rfl) (?_ : TZ (d + 1) 88 74 [some (.inr 0), some (.inl x1), some (.inl x2), some (.inl x3), some (.inl r10)] [.inl r10, .inr 0] Z46 (zri Q))
            refine z_vi (by rfl) (by rfl) cl_0 (TI.mono v fun r56 Z55 v => ?_)
            show TZ (d + 1) 88 77 [some (.inr 0), some (.inl x1), some (.inl x2), some (.inl x3), some (.inl r10)] [.inl r56] Z55 (zri Q)
            exact z_reti (by rfl) (by rfl) v
        · have v := v2 h49; clear v1 v2
          show TZ (d + 1) 88 62 [some (.inr 0), some (.inl x1), some (.inl x2), some (.inl x3), some (.inl r10)] [] Z46 (zri Q)
          refine z0 (op := 1) (a := 0) (b := (-3)) (by rfl) (by rfl) (?_ : TZ (d + 1) 88 64 [some (.inr 0), some (.inl x1), some (.inl x2), some (.inl x3), some (.inl r10)] [.inl (-3)] Z46 (zri Q))
          refine z0 (op := 8) (a := 4) (b := 0) (by rfl) (by rfl) (?_ : TZ (d + 1) 88 66 [some (.inr 0), some (.inl x1), some (.inl x2), some (.inl x3), some (.inl (-3))] [] Z46 (zri Q))
          refine z0 (op := 4) (a := 4) (b := 0) (by rfl) (by rfl) (?_ : TZ (d + 1) 88 68 [some (.inr 0), some (.inl x1), some (.inl x2), some (.inl x3), some (.inl (-3))] [.inl (-3)] Z46 (zri Q))
          refine z_if0 (a := 0) (t := 78) (by rfl) (by rfl) (by decide) (fun h => absurd (show ((-3) : Int) = (0 : Int) from h) (by decide)) (fun _ => ?_)
          show TZ (d + 1) 88 71 [some (.inr 0), some (.inl x1), some (.inl x2), some (.inl x3), some (.inl (-3))] [] Z46 (zri Q)
          refine z0 (op := 5) (a := 0) (b := 0) (by rfl) (by rfl) (?_ : TZ (d + 1) 88 72 [some (.inr 0), some (.inl x1), some (.inl x2), some (.inl x3), some (.inl (-3))] [.inr 0] Z46 (zri Q))
          refine z0 (op := 4) (a := 4) (b := 0) (by rfl) (by rfl) (?_ : TZ (d + 1) 88 74 [some (.inr 0), some (.inl x1), some (.inl x2), some (.inl x3), some (.inl (-3))] [.inl (-3), .inr 0] Z46 (zri Q))
          refine z_vi (by rfl) (by rfl) cl_0 (TI.mono v fun r58 Z57 v => ?_)
          show TZ (d + 1) 88 77 [some (.inr 0), some (.inl x1), some (.inl x2), some (.inl x3), some (.inl (-3))] [.inl r58] Z57 (zri Q)
          exact z_reti (by rfl) (by rfl) v
    · have v := v2 h36; clear v1 v2
      show TZ (d + 1) 88 42 [some (.inr 0), some (.inl x1), some (.inl x2), some (.inl x3), some (.inl r10)] [] Z9 (zri Q)
      refine z0 (op := 1) (a := 0) (b := (-6)) (by rfl) (by rfl) (?_ : TZ (d + 1) 88 44 [some (.inr 0), some (.inl x1), some (.inl x2), some (.inl x3), some (.inl r10)] [.inl (-6)] Z9 (zri Q))
      refine z0 (op := 8) (a := 4) (b := 0) (by rfl) (by rfl) (?_ : TZ (d + 1) 88 46 [some (.inr 0), some (.inl x1), some (.inl x2), some (.inl x3), some (.inl (-6))] [] Z9 (zri Q))
      refine z0 (op := 4) (a := 4) (b := 0) (by rfl) (by rfl) (?_ : TZ (d + 1) 88 48 [some (.inr 0), some (.inl x1), some (.inl x2), some (.inl x3), some (.inl (-6))] [.inl (-6)] Z9 (zri Q))
      refine z_if0 (a := 1) (t := 66) (by rfl) (by rfl) (by decide) (fun _ => ?_) (fun h => absurd (show ((-6) : Int) ≠ (0 : Int) by decide) h)
      show TZ (d + 1) 88 66 [some (.inr 0), some (.inl x1), some (.inl x2), some (.inl x3), some (.inl (-6))] [] Z9 (zri Q)
      refine z0 (op := 4) (a := 4) (b := 0) (by rfl) (by rfl) (?_ : TZ (d + 1) 88 68 [some (.inr 0), some (.inl x1), some (.inl x2), some (.inl x3), some (.inl (-6))] [.inl (-6)] Z9 (zri Q))
      refine z_if0 (a := 0) (t := 78) (by rfl) (by rfl) (by decide) (fun h => absurd (show ((-6) : Int) = (0 : Int) from h) (by decide)) (fun _ => ?_)
      show TZ (d + 1) 88 71 [some (.inr 0), some (.inl x1), some (.inl x2), some (.inl x3), some (.inl (-6))] [] Z9 (zri Q)
      refine z0 (op := 5) (a := 0) (b := 0) (by rfl) (by rfl) (?_ : TZ (d + 1) 88 72 [some (.inr 0), some (.inl x1), some (.inl x2), some (.inl x3), some (.inl (-6))] [.inr 0] Z9 (zri Q))
      refine z0 (op := 4) (a := 4) (b := 0) (by rfl) (by rfl) (?_ : TZ (d + 1) 88 74 [some (.inr 0), some (.inl x1), some (.inl x2), some (.inl x3), some (.inl (-6))] [.inl (-6), .inr 0] Z9 (zri Q))
      refine z_vi (by rfl) (by rfl) cl_0 (TI.mono v fun r60 Z59 v => ?_)
      show TZ (d + 1) 88 77 [some (.inr 0), some (.inl x1), some (.inl x2), some (.inl x3), some (.inl (-6))] [.inl r60] Z59 (zri Q)
      exact z_reti (by rfl) (by rfl) v
theorem w89_0 {d : Nat} {x1 x2 : Int} {Z : zM} {Q : Int → zM → Prop}
    (v : TI d 76 [.inr 0, .inl x1] Z (fun r2 Z1 =>
      TI d 75 [.inl x2, .inl 1] Z1 (fun r4 Z3 =>
        TI d 72 [.inl r2, .inl r4] Z3 (fun r6 Z5 =>
          zR r6 ∧
            (r6 = 0 → (zR x2 ∧
                (x2 ≠ 0 → ((0 ≤ x1 ∧ x1 < 6) ∧ Q (Z5 5 x1) Z5)) ∧
                (¬ x2 ≠ 0 → ((0 ≤ x1 ∧ x1 < 6) ∧ Q (Z5 6 x1) Z5)))) ∧
            (¬ r6 = 0 → TI d 71 [.inr 0, .inl r6] Z5 (fun r14 Z13 =>
                Q r14 Z13)))))) :
    TZ (d + 1) 89 0 [some (.inr 0), some (.inl x1), some (.inl x2), none] [] Z (zri Q) := by
  refine z0 (op := 5) (a := 0) (b := 0) (by rfl) (by rfl) (?_ : TZ (d + 1) 89 1 [some (.inr 0), some (.inl x1), some (.inl x2), none] [.inr 0] Z (zri Q))
  refine z0 (op := 3) (a := 1) (b := 0) (by rfl) (by rfl) (?_ : TZ (d + 1) 89 2 [some (.inr 0), some (.inl x1), some (.inl x2), none] [.inl x1, .inr 0] Z (zri Q))
  refine z_vi (by rfl) (by rfl) cl_0 (TI.mono v fun r2 Z1 v => ?_)
  show TZ (d + 1) 89 5 [some (.inr 0), some (.inl x1), some (.inl x2), none] [.inl r2] Z1 (zri Q)
  refine z0 (op := 3) (a := 2) (b := 0) (by rfl) (by rfl) (?_ : TZ (d + 1) 89 6 [some (.inr 0), some (.inl x1), some (.inl x2), none] [.inl x2, .inl r2] Z1 (zri Q))
  refine z0 (op := 0) (a := 0) (b := 1) (by rfl) (by rfl) (?_ : TZ (d + 1) 89 7 [some (.inr 0), some (.inl x1), some (.inl x2), none] [.inl 1, .inl x2, .inl r2] Z1 (zri Q))
  refine z_si (by rfl) (by rfl) (TI.mono v fun r4 Z3 v => ?_)
  show TZ (d + 1) 89 10 [some (.inr 0), some (.inl x1), some (.inl x2), none] [.inl r4, .inl r2] Z3 (zri Q)
  refine z_si (by rfl) (by rfl) (TI.mono v fun r6 Z5 v => ?_)
  show TZ (d + 1) 89 13 [some (.inr 0), some (.inl x1), some (.inl x2), none] [.inl r6] Z5 (zri Q)
  refine z0 (op := 7) (a := 3) (b := 0) (by rfl) (by rfl) (?_ : TZ (d + 1) 89 14 [some (.inr 0), some (.inl x1), some (.inl x2), some (.inl r6)] [] Z5 (zri Q))
  refine z0 (op := 3) (a := 3) (b := 0) (by rfl) (by rfl) (?_ : TZ (d + 1) 89 15 [some (.inr 0), some (.inl x1), some (.inl x2), some (.inl r6)] [.inl r6] Z5 (zri Q))
  obtain ⟨c7, v1, v2⟩ := v
  refine z_if0 (a := 0) (t := 24) (by rfl) (by rfl) c7 (fun h8 => ?_) (fun h8 => ?_)
  · have v := v1 h8; clear v1 v2
    show TZ (d + 1) 89 24 [some (.inr 0), some (.inl x1), some (.inl x2), some (.inl r6)] [] Z5 (zri Q)
    refine z0 (op := 3) (a := 2) (b := 0) (by rfl) (by rfl) (?_ : TZ (d + 1) 89 25 [some (.inr 0), some (.inl x1), some (.inl x2), some (.inl r6)] [.inl x2] Z5 (zri Q))
    obtain ⟨c9, v1, v2⟩ := v
    refine z_if0 (a := 1) (t := 40) (by rfl) (by rfl) c9 (fun h10 => ?_) (fun h10 => ?_)
    · have v := v1 h10; clear v1 v2
      show TZ (d + 1) 89 40 [some (.inr 0), some (.inl x1), some (.inl x2), some (.inl r6)] [] Z5 (zri Q)
      refine z0 (op := 5) (a := 0) (b := 0) (by rfl) (by rfl) (?_ : TZ (d + 1) 89 41 [some (.inr 0), some (.inl x1), some (.inl x2), some (.inl r6)] [.inr 0] Z5 (zri Q))
      refine z_fr (by rfl) fr50_0 (?_ : TZ (d + 1) 89 44 [some (.inr 0), some (.inl x1), some (.inl x2), some (.inl r6)] [.inr 1] Z5 (zri Q))
      refine z_fr (by rfl) fr76_1 (?_ : TZ (d + 1) 89 47 [some (.inr 0), some (.inl x1), some (.inl x2), some (.inl r6)] [.inr 5] Z5 (zri Q))
      refine z0 (op := 3) (a := 1) (b := 0) (by rfl) (by rfl) (?_ : TZ (d + 1) 89 48 [some (.inr 0), some (.inl x1), some (.inl x2), some (.inl r6)] [.inl x1, .inr 5] Z5 (zri Q))
      obtain ⟨c11, v⟩ := v
      refine z_al (by rfl) ln_5 c11 (?_ : TZ (d + 1) 89 49 [some (.inr 0), some (.inl x1), some (.inl x2), some (.inl r6)] [.inl (Z5 5 x1)] Z5 (zri Q))
      exact z_reti (by rfl) (by rfl) v
    · have v := v2 h10; clear v1 v2
      show TZ (d + 1) 89 28 [some (.inr 0), some (.inl x1), some (.inl x2), some (.inl r6)] [] Z5 (zri Q)
      refine z0 (op := 5) (a := 0) (b := 0) (by rfl) (by rfl) (?_ : TZ (d + 1) 89 29 [some (.inr 0), some (.inl x1), some (.inl x2), some (.inl r6)] [.inr 0] Z5 (zri Q))
      refine z_fr (by rfl) fr50_0 (?_ : TZ (d + 1) 89 32 [some (.inr 0), some (.inl x1), some (.inl x2), some (.inl r6)] [.inr 1] Z5 (zri Q))
      refine z_fr (by rfl) fr71_1 (?_ : TZ (d + 1) 89 35 [some (.inr 0), some (.inl x1), some (.inl x2), some (.inl r6)] [.inr 6] Z5 (zri Q))
      refine z0 (op := 3) (a := 1) (b := 0) (by rfl) (by rfl) (?_ : TZ (d + 1) 89 36 [some (.inr 0), some (.inl x1), some (.inl x2), some (.inl r6)] [.inl x1, .inr 6] Z5 (zri Q))
      obtain ⟨c12, v⟩ := v
      refine z_al (by rfl) ln_6 c12 (?_ : TZ (d + 1) 89 37 [some (.inr 0), some (.inl x1), some (.inl x2), some (.inl r6)] [.inl (Z5 6 x1)] Z5 (zri Q))
      refine z_goto (t := 49) (by rfl) (by rfl) (?_ : TZ (d + 1) 89 49 [some (.inr 0), some (.inl x1), some (.inl x2), some (.inl r6)] [.inl (Z5 6 x1)] Z5 (zri Q))
      exact z_reti (by rfl) (by rfl) v
  · have v := v2 h8; clear v1 v2
    show TZ (d + 1) 89 18 [some (.inr 0), some (.inl x1), some (.inl x2), some (.inl r6)] [] Z5 (zri Q)
    refine z0 (op := 5) (a := 0) (b := 0) (by rfl) (by rfl) (?_ : TZ (d + 1) 89 19 [some (.inr 0), some (.inl x1), some (.inl x2), some (.inl r6)] [.inr 0] Z5 (zri Q))
    refine z0 (op := 3) (a := 3) (b := 0) (by rfl) (by rfl) (?_ : TZ (d + 1) 89 20 [some (.inr 0), some (.inl x1), some (.inl x2), some (.inl r6)] [.inl r6, .inr 0] Z5 (zri Q))
    refine z_vi (by rfl) (by rfl) cl_0 (TI.mono v fun r14 Z13 v => ?_)
    show TZ (d + 1) 89 23 [some (.inr 0), some (.inl x1), some (.inl x2), some (.inl r6)] [.inl r14] Z13 (zri Q)
    exact z_reti (by rfl) (by rfl) v
theorem w90_0 {d : Nat} {x1 x2 : Int} {Z : zM} {Q : Int → zM → Prop}
    (v : TI d 76 [.inr 0, .inl x1] Z (fun r2 Z1 =>
      TI d 73 [.inl x2, .inl 0, .inl 11] Z1 (fun r4 Z3 =>
        TI d 72 [.inl r2, .inl r4] Z3 (fun r6 Z5 =>
          zR r6 ∧
            (r6 = 0 → ((0 ≤ x1 ∧ x1 < 6) ∧
                (0 ≤ x1 ∧ x1 < 6) ∧
                ∀ Z11, Z11 = zup Z5 6 x1 x2 →
                TV d 46 [.inr 26] Z11 (fun Z12 =>
                Q (Z5 6 x1) Z12))) ∧
            (¬ r6 = 0 → TI d 71 [.inr 0, .inl r6] Z5 (fun r14 Z13 =>
                Q r14 Z13)))))) :
    TZ (d + 1) 90 0 [some (.inr 0), some (.inl x1), some (.inl x2), none, none] [] Z (zri Q) := by
  refine z0 (op := 5) (a := 0) (b := 0) (by rfl) (by rfl) (?_ : TZ (d + 1) 90 1 [some (.inr 0), some (.inl x1), some (.inl x2), none, none] [.inr 0] Z (zri Q))
  refine z0 (op := 3) (a := 1) (b := 0) (by rfl) (by rfl) (?_ : TZ (d + 1) 90 2 [some (.inr 0), some (.inl x1), some (.inl x2), none, none] [.inl x1, .inr 0] Z (zri Q))
  refine z_vi (by rfl) (by rfl) cl_0 (TI.mono v fun r2 Z1 v => ?_)
  show TZ (d + 1) 90 5 [some (.inr 0), some (.inl x1), some (.inl x2), none, none] [.inl r2] Z1 (zri Q)
  refine z0 (op := 3) (a := 2) (b := 0) (by rfl) (by rfl) (?_ : TZ (d + 1) 90 6 [some (.inr 0), some (.inl x1), some (.inl x2), none, none] [.inl x2, .inl r2] Z1 (zri Q))
  refine z0 (op := 0) (a := 0) (b := 0) (by rfl) (by rfl) (?_ : TZ (d + 1) 90 7 [some (.inr 0), some (.inl x1), some (.inl x2), none, none] [.inl 0, .inl x2, .inl r2] Z1 (zri Q))
  refine z0 (op := 1) (a := 0) (b := 11) (by rfl) (by rfl) (?_ : TZ (d + 1) 90 9 [some (.inr 0), some (.inl x1), some (.inl x2), none, none] [.inl 11, .inl 0, .inl x2, .inl r2] Z1 (zri Q))
  refine z_si (by rfl) (by rfl) (TI.mono v fun r4 Z3 v => ?_)
  show TZ (d + 1) 90 12 [some (.inr 0), some (.inl x1), some (.inl x2), none, none] [.inl r4, .inl r2] Z3 (zri Q)
  refine z_si (by rfl) (by rfl) (TI.mono v fun r6 Z5 v => ?_)
  show TZ (d + 1) 90 15 [some (.inr 0), some (.inl x1), some (.inl x2), none, none] [.inl r6] Z5 (zri Q)
  refine z0 (op := 7) (a := 3) (b := 0) (by rfl) (by rfl) (?_ : TZ (d + 1) 90 16 [some (.inr 0), some (.inl x1), some (.inl x2), some (.inl r6), none] [] Z5 (zri Q))
  refine z0 (op := 3) (a := 3) (b := 0) (by rfl) (by rfl) (?_ : TZ (d + 1) 90 17 [some (.inr 0), some (.inl x1), some (.inl x2), some (.inl r6), none] [.inl r6] Z5 (zri Q))
  obtain ⟨c7, v1, v2⟩ := v
  refine z_if0 (a := 0) (t := 26) (by rfl) (by rfl) c7 (fun h8 => ?_) (fun h8 => ?_)
  · have v := v1 h8; clear v1 v2
    show TZ (d + 1) 90 26 [some (.inr 0), some (.inl x1), some (.inl x2), some (.inl r6), none] [] Z5 (zri Q)
    refine z0 (op := 5) (a := 0) (b := 0) (by rfl) (by rfl) (?_ : TZ (d + 1) 90 27 [some (.inr 0), some (.inl x1), some (.inl x2), some (.inl r6), none] [.inr 0] Z5 (zri Q))
    refine z_fr (by rfl) fr50_0 (?_ : TZ (d + 1) 90 30 [some (.inr 0), some (.inl x1), some (.inl x2), some (.inl r6), none] [.inr 1] Z5 (zri Q))
    refine z_fr (by rfl) fr71_1 (?_ : TZ (d + 1) 90 33 [some (.inr 0), some (.inl x1), some (.inl x2), some (.inl r6), none] [.inr 6] Z5 (zri Q))
    refine z0 (op := 3) (a := 1) (b := 0) (by rfl) (by rfl) (?_ : TZ (d + 1) 90 34 [some (.inr 0), some (.inl x1), some (.inl x2), some (.inl r6), none] [.inl x1, .inr 6] Z5 (zri Q))
    obtain ⟨c9, v⟩ := v
    refine z_al (by rfl) ln_6 c9 (?_ : TZ (d + 1) 90 35 [some (.inr 0), some (.inl x1), some (.inl x2), some (.inl r6), none] [.inl (Z5 6 x1)] Z5 (zri Q))
    refine z0 (op := 8) (a := 4) (b := 0) (by rfl) (by rfl) (?_ : TZ (d + 1) 90 37 [some (.inr 0), some (.inl x1), some (.inl x2), some (.inl r6), some (.inl (Z5 6 x1))] [] Z5 (zri Q))
    refine z0 (op := 5) (a := 0) (b := 0) (by rfl) (by rfl) (?_ : TZ (d + 1) 90 38 [some (.inr 0), some (.inl x1), some (.inl x2), some (.inl r6), some (.inl (Z5 6 x1))] [.inr 0] Z5 (zri Q))
    refine z_fr (by rfl) fr50_0 (?_ : TZ (d + 1) 90 41 [some (.inr 0), some (.inl x1), some (.inl x2), some (.inl r6), some (.inl (Z5 6 x1))] [.inr 1] Z5 (zri Q))
    refine z_fr (by rfl) fr71_1 (?_ : TZ (d + 1) 90 44 [some (.inr 0), some (.inl x1), some (.inl x2), some (.inl r6), some (.inl (Z5 6 x1))] [.inr 6] Z5 (zri Q))
    refine z0 (op := 3) (a := 1) (b := 0) (by rfl) (by rfl) (?_ : TZ (d + 1) 90 45 [some (.inr 0), some (.inl x1), some (.inl x2), some (.inl r6), some (.inl (Z5 6 x1))] [.inl x1, .inr 6] Z5 (zri Q))
    refine z0 (op := 3) (a := 2) (b := 0) (by rfl) (by rfl) (?_ : TZ (d + 1) 90 46 [some (.inr 0), some (.inl x1), some (.inl x2), some (.inl r6), some (.inl (Z5 6 x1))] [.inl x2, .inl x1, .inr 6] Z5 (zri Q))
    obtain ⟨c10, v⟩ := v
    obtain ⟨Z11, eZ11⟩ : ∃ q, q = zup Z5 6 x1 x2 := ⟨_, rfl⟩
    have v := v Z11 eZ11
    refine z_as (by rfl) ln_6 c10 ?_
    show TZ (d + 1) 90 47 [some (.inr 0), some (.inl x1), some (.inl x2), some (.inl r6), some (.inl (Z5 6 x1))] [] (zup Z5 6 x1 x2) _
    rw [← eZ11]
    refine z0 (op := 5) (a := 0) (b := 0) (by rfl) (by rfl) (?_ : TZ (d + 1) 90 48 [some (.inr 0), some (.inl x1), some (.inl x2), some (.inl r6), some (.inl (Z5 6 x1))] [.inr 0] Z11 (zri Q))
    refine z_fr (by rfl) fr55_0 (?_ : TZ (d + 1) 90 51 [some (.inr 0), some (.inl x1), some (.inl x2), some (.inl r6), some (.inl (Z5 6 x1))] [.inr 26] Z11 (zri Q))
    refine z_vv (by rfl) (by rfl) cl_26 (TV.mono v fun Z12 v => ?_)
    show TZ (d + 1) 90 54 [some (.inr 0), some (.inl x1), some (.inl x2), some (.inl r6), some (.inl (Z5 6 x1))] [] Z12 (zri Q)
    refine z0 (op := 4) (a := 4) (b := 0) (by rfl) (by rfl) (?_ : TZ (d + 1) 90 56 [some (.inr 0), some (.inl x1), some (.inl x2), some (.inl r6), some (.inl (Z5 6 x1))] [.inl (Z5 6 x1)] Z12 (zri Q))
    exact z_reti (by rfl) (by rfl) v
  · have v := v2 h8; clear v1 v2
    show TZ (d + 1) 90 20 [some (.inr 0), some (.inl x1), some (.inl x2), some (.inl r6), none] [] Z5 (zri Q)
    refine z0 (op := 5) (a := 0) (b := 0) (by rfl) (by rfl) (?_ : TZ (d + 1) 90 21 [some (.inr 0), some (.inl x1), some (.inl x2), some (.inl r6), none] [.inr 0] Z5 (zri Q))
    refine z0 (op := 3) (a := 3) (b := 0) (by rfl) (by rfl) (?_ : TZ (d + 1) 90 22 [some (.inr 0), some (.inl x1), some (.inl x2), some (.inl r6), none] [.inl r6, .inr 0] Z5 (zri Q))
    refine z_vi (by rfl) (by rfl) cl_0 (TI.mono v fun r14 Z13 v => ?_)
    show TZ (d + 1) 90 25 [some (.inr 0), some (.inl x1), some (.inl x2), some (.inl r6), none] [.inl r14] Z13 (zri Q)
    exact z_reti (by rfl) (by rfl) v
theorem w91_0 {d : Nat} {x1 : Int} {Z : zM} {Q : Int → zM → Prop}
    (v : TI d 75 [.inl x1, .inl 1] Z (fun r2 Z1 =>
      zR r2 ∧
        (r2 = 0 → (zR (Z1 1 6) ∧
            ((Z1 1 6) ≠ 6 → (zR x1 ∧
                (x1 ≠ 1 → TV d 21 [.inr 1, .inl 0] Z1 (fun Z9 =>
                    TV d 46 [.inr 26] Z9 (fun Z10 =>
                      Q 0 Z10))) ∧
                (¬ x1 ≠ 1 → TV d 21 [.inr 1, .inl 1] Z1 (fun Z11 =>
                    TV d 46 [.inr 26] Z11 (fun Z12 =>
                      Q 0 Z12))))) ∧
            (¬ (Z1 1 6) ≠ 6 → (zR x1 ∧
                (x1 ≠ 1 → TV d 21 [.inr 1, .inl 0] Z1 (fun Z15 =>
                    TV d 46 [.inr 26] Z15 (fun Z16 =>
                      Q 1 Z16))) ∧
                (¬ x1 ≠ 1 → TV d 21 [.inr 1, .inl 1] Z1 (fun Z17 =>
                    TV d 46 [.inr 26] Z17 (fun Z18 =>
                      Q 1 Z18))))))) ∧
        (¬ r2 = 0 → TI d 71 [.inr 0, .inl r2] Z1 (fun r20 Z19 =>
            Q r20 Z19)))) :
    TZ (d + 1) 91 0 [some (.inr 0), some (.inl x1), none, none] [] Z (zri Q) := by
  refine z0 (op := 3) (a := 1) (b := 0) (by rfl) (by rfl) (?_ : TZ (d + 1) 91 1 [some (.inr 0), some (.inl x1), none, none] [.inl x1] Z (zri Q))
  refine z0 (op := 0) (a := 0) (b := 1) (by rfl) (by rfl) (?_ : TZ (d + 1) 91 2 [some (.inr 0), some (.inl x1), none, none] [.inl 1, .inl x1] Z (zri Q))
  refine z_si (by rfl) (by rfl) (TI.mono v fun r2 Z1 v => ?_)
  show TZ (d + 1) 91 5 [some (.inr 0), some (.inl x1), none, none] [.inl r2] Z1 (zri Q)
  refine z0 (op := 7) (a := 2) (b := 0) (by rfl) (by rfl) (?_ : TZ (d + 1) 91 6 [some (.inr 0), some (.inl x1), some (.inl r2), none] [] Z1 (zri Q))
  refine z0 (op := 3) (a := 2) (b := 0) (by rfl) (by rfl) (?_ : TZ (d + 1) 91 7 [some (.inr 0), some (.inl x1), some (.inl r2), none] [.inl r2] Z1 (zri Q))
  obtain ⟨c3, v1, v2⟩ := v
  refine z_if0 (a := 0) (t := 16) (by rfl) (by rfl) c3 (fun h4 => ?_) (fun h4 => ?_)
  · have v := v1 h4; clear v1 v2
    show TZ (d + 1) 91 16 [some (.inr 0), some (.inl x1), some (.inl r2), none] [] Z1 (zri Q)
    refine z0 (op := 5) (a := 0) (b := 0) (by rfl) (by rfl) (?_ : TZ (d + 1) 91 17 [some (.inr 0), some (.inl x1), some (.inl r2), none] [.inr 0] Z1 (zri Q))
    refine z_fr (by rfl) fr50_0 (?_ : TZ (d + 1) 91 20 [some (.inr 0), some (.inl x1), some (.inl r2), none] [.inr 1] Z1 (zri Q))
    refine z_fi (by rfl) fi69_1 (?_ : TZ (d + 1) 91 23 [some (.inr 0), some (.inl x1), some (.inl r2), none] [.inl (Z1 1 6)] Z1 (zri Q))
    refine z0 (op := 1) (a := 0) (b := 6) (by rfl) (by rfl) (?_ : TZ (d + 1) 91 25 [some (.inr 0), some (.inl x1), some (.inl r2), none] [.inl 6, .inl (Z1 1 6)] Z1 (zri Q))
    obtain ⟨c5, v1, v2⟩ := v
    refine z_if2 (a := 1) (t := 32) (by rfl) (by rfl) c5 (by decide) (fun h6 => ?_) (fun h6 => ?_)
    · have v := v1 h6; clear v1 v2
      show TZ (d + 1) 91 32 [some (.inr 0), some (.inl x1), some (.inl r2), none] [] Z1 (zri Q)
      refine z0 (op := 0) (a := 0) (b := 0) (by rfl) (by rfl) (?_ : TZ (d + 1) 91 33 [some (.inr 0), some (.inl x1), some (.inl r2), none] [.inl 0] Z1 (zri Q))
      refine z0 (op := 7) (a := 3) (b := 0) (by rfl) (by rfl) (?_ : TZ (d + 1) 91 34 [some (.inr 0), some (.inl x1), some (.inl r2), some (.inl 0)] [] Z1 (zri Q))
      refine z0 (op := 5) (a := 0) (b := 0) (by rfl) (by rfl) (?_ : TZ (d + 1) 91 35 [some (.inr 0), some (.inl x1), some (.inl r2), some (.inl 0)] [.inr 0] Z1 (zri Q))
      refine z_fr (by rfl) fr50_0 (?_ : TZ (d + 1) 91 38 [some (.inr 0), some (.inl x1), some (.inl r2), some (.inl 0)] [.inr 1] Z1 (zri Q))
      refine z0 (op := 3) (a := 1) (b := 0) (by rfl) (by rfl) (?_ : TZ (d + 1) 91 39 [some (.inr 0), some (.inl x1), some (.inl r2), some (.inl 0)] [.inl x1, .inr 1] Z1 (zri Q))
      refine z0 (op := 0) (a := 0) (b := 1) (by rfl) (by rfl) (?_ : TZ (d + 1) 91 40 [some (.inr 0), some (.inl x1), some (.inl r2), some (.inl 0)] [.inl 1, .inl x1, .inr 1] Z1 (zri Q))
      obtain ⟨c7, v1, v2⟩ := v
      refine z_if2 (a := 1) (t := 47) (by rfl) (by rfl) c7 (by decide) (fun h8 => ?_) (fun h8 => ?_)
      · have v := v1 h8; clear v1 v2
        show TZ (d + 1) 91 47 [some (.inr 0), some (.inl x1), some (.inl r2), some (.inl 0)] [.inr 1] Z1 (zri Q)
        refine z0 (op := 0) (a := 0) (b := 0) (by rfl) (by rfl) (?_ : TZ (d + 1) 91 48 [some (.inr 0), some (.inl x1), some (.inl r2), some (.inl 0)] [.inl 0, .inr 1] Z1 (zri Q))
        refine z_vv (by rfl) (by rfl) cl_1 (TV.mono v fun Z9 v => ?_)
        show TZ (d + 1) 91 51 [some (.inr 0), some (.inl x1), some (.inl r2), some (.inl 0)] [] Z9 (zri Q)
        refine z0 (op := 5) (a := 0) (b := 0) (by rfl) (by rfl) (?_ : TZ (d + 1) 91 52 [some (.inr 0), some (.inl x1), some (.inl r2), some (.inl 0)] [.inr 0] Z9 (zri Q))
        refine z_fr (by rfl) fr55_0 (?_ : TZ (d + 1) 91 55 [some (.inr 0), some (.inl x1), some (.inl r2), some (.inl 0)] [.inr 26] Z9 (zri Q))
        refine z_vv (by rfl) (by rfl) cl_26 (TV.mono v fun Z10 v => ?_)
        show TZ (d + 1) 91 58 [some (.inr 0), some (.inl x1), some (.inl r2), some (.inl 0)] [] Z10 (zri Q)
        refine z0 (op := 3) (a := 3) (b := 0) (by rfl) (by rfl) (?_ : TZ (d + 1) 91 59 [some (.inr 0), some (.inl x1), some (.inl r2), some (.inl 0)] [.inl 0] Z10 (zri Q))
        exact z_reti (by rfl) (by rfl) v
      · have v := v2 h8; clear v1 v2
        show TZ (d + 1) 91 43 [some (.inr 0), some (.inl x1), some (.inl r2), some (.inl 0)] [.inr 1] Z1 (zri Q)
        refine z0 (op := 0) (a := 0) (b := 1) (by rfl) (by rfl) (?_ : TZ (d + 1) 91 44 [some (.inr 0), some (.inl x1), some (.inl r2), some (.inl 0)] [.inl 1, .inr 1] Z1 (zri Q))
        refine z_goto (t := 48) (by rfl) (by rfl) (?_ : TZ (d + 1) 91 48 [some (.inr 0), some (.inl x1), some (.inl r2), some (.inl 0)] [.inl 1, .inr 1] Z1 (zri Q))
        refine z_vv (by rfl) (by rfl) cl_1 (TV.mono v fun Z11 v => ?_)
        show TZ (d + 1) 91 51 [some (.inr 0), some (.inl x1), some (.inl r2), some (.inl 0)] [] Z11 (zri Q)
        refine z0 (op := 5) (a := 0) (b := 0) (by rfl) (by rfl) (?_ : TZ (d + 1) 91 52 [some (.inr 0), some (.inl x1), some (.inl r2), some (.inl 0)] [.inr 0] Z11 (zri Q))
        refine z_fr (by rfl) fr55_0 (?_ : TZ (d + 1) 91 55 [some (.inr 0), some (.inl x1), some (.inl r2), some (.inl 0)] [.inr 26] Z11 (zri Q))
        refine z_vv (by rfl) (by rfl) cl_26 (TV.mono v fun Z12 v => ?_)
        show TZ (d + 1) 91 58 [some (.inr 0), some (.inl x1), some (.inl r2), some (.inl 0)] [] Z12 (zri Q)
        refine z0 (op := 3) (a := 3) (b := 0) (by rfl) (by rfl) (?_ : TZ (d + 1) 91 59 [some (.inr 0), some (.inl x1), some (.inl r2), some (.inl 0)] [.inl 0] Z12 (zri Q))
        exact z_reti (by rfl) (by rfl) v
    · have v := v2 h6; clear v1 v2
      show TZ (d + 1) 91 28 [some (.inr 0), some (.inl x1), some (.inl r2), none] [] Z1 (zri Q)
      refine z0 (op := 0) (a := 0) (b := 1) (by rfl) (by rfl) (?_ : TZ (d + 1) 91 29 [some (.inr 0), some (.inl x1), some (.inl r2), none] [.inl 1] Z1 (zri Q))
      refine z_goto (t := 33) (by rfl) (by rfl) (?_ : TZ (d + 1) 91 33 [some (.inr 0), some (.inl x1), some (.inl r2), none] [.inl 1] Z1 (zri Q))
      refine z0 (op := 7) (a := 3) (b := 0) (by rfl) (by rfl) (?_ : TZ (d + 1) 91 34 [some (.inr 0), some (.inl x1), some (.inl r2), some (.inl 1)] [] Z1 (zri Q))
      refine z0 (op := 5) (a := 0) (b := 0) (by rfl) (by rfl) (?_ : TZ (d + 1) 91 35 [some (.inr 0), some (.inl x1), some (.inl r2), some (.inl 1)] [.inr 0] Z1 (zri Q))
      refine z_fr (by rfl) fr50_0 (?_ : TZ (d + 1) 91 38 [some (.inr 0), some (.inl x1), some (.inl r2), some (.inl 1)] [.inr 1] Z1 (zri Q))
      refine z0 (op := 3) (a := 1) (b := 0) (by rfl) (by rfl) (?_ : TZ (d + 1) 91 39 [some (.inr 0), some (.inl x1), some (.inl r2), some (.inl 1)] [.inl x1, .inr 1] Z1 (zri Q))
      refine z0 (op := 0) (a := 0) (b := 1) (by rfl) (by rfl) (?_ : TZ (d + 1) 91 40 [some (.inr 0), some (.inl x1), some (.inl r2), some (.inl 1)] [.inl 1, .inl x1, .inr 1] Z1 (zri Q))
      obtain ⟨c13, v1, v2⟩ := v
      refine z_if2 (a := 1) (t := 47) (by rfl) (by rfl) c13 (by decide) (fun h14 => ?_) (fun h14 => ?_)
      · have v := v1 h14; clear v1 v2
        show TZ (d + 1) 91 47 [some (.inr 0), some (.inl x1), some (.inl r2), some (.inl 1)] [.inr 1] Z1 (zri Q)
        refine z0 (op := 0) (a := 0) (b := 0) (by rfl) (by rfl) (?_ : TZ (d + 1) 91 48 [some (.inr 0), some (.inl x1), some (.inl r2), some (.inl 1)] [.inl 0, .inr 1] Z1 (zri Q))
        refine z_vv (by rfl) (by rfl) cl_1 (TV.mono v fun Z15 v => ?_)
        show TZ (d + 1) 91 51 [some (.inr 0), some (.inl x1), some (.inl r2), some (.inl 1)] [] Z15 (zri Q)
        refine z0 (op := 5) (a := 0) (b := 0) (by rfl) (by rfl) (?_ : TZ (d + 1) 91 52 [some (.inr 0), some (.inl x1), some (.inl r2), some (.inl 1)] [.inr 0] Z15 (zri Q))
        refine z_fr (by rfl) fr55_0 (?_ : TZ (d + 1) 91 55 [some (.inr 0), some (.inl x1), some (.inl r2), some (.inl 1)] [.inr 26] Z15 (zri Q))
        refine z_vv (by rfl) (by rfl) cl_26 (TV.mono v fun Z16 v => ?_)
        show TZ (d + 1) 91 58 [some (.inr 0), some (.inl x1), some (.inl r2), some (.inl 1)] [] Z16 (zri Q)
        refine z0 (op := 3) (a := 3) (b := 0) (by rfl) (by rfl) (?_ : TZ (d + 1) 91 59 [some (.inr 0), some (.inl x1), some (.inl r2), some (.inl 1)] [.inl 1] Z16 (zri Q))
        exact z_reti (by rfl) (by rfl) v
      · have v := v2 h14; clear v1 v2
        show TZ (d + 1) 91 43 [some (.inr 0), some (.inl x1), some (.inl r2), some (.inl 1)] [.inr 1] Z1 (zri Q)
        refine z0 (op := 0) (a := 0) (b := 1) (by rfl) (by rfl) (?_ : TZ (d + 1) 91 44 [some (.inr 0), some (.inl x1), some (.inl r2), some (.inl 1)] [.inl 1, .inr 1] Z1 (zri Q))
        refine z_goto (t := 48) (by rfl) (by rfl) (?_ : TZ (d + 1) 91 48 [some (.inr 0), some (.inl x1), some (.inl r2), some (.inl 1)] [.inl 1, .inr 1] Z1 (zri Q))
        refine z_vv (by rfl) (by rfl) cl_1 (TV.mono v fun Z17 v => ?_)
        show TZ (d + 1) 91 51 [some (.inr 0), some (.inl x1), some (.inl r2), some (.inl 1)] [] Z17 (zri Q)
        refine z0 (op := 5) (a := 0) (b := 0) (by rfl) (by rfl) (?_ : TZ (d + 1) 91 52 [some (.inr 0), some (.inl x1), some (.inl r2), some (.inl 1)] [.inr 0] Z17 (zri Q))
        refine z_fr (by rfl) fr55_0 (?_ : TZ (d + 1) 91 55 [some (.inr 0), some (.inl x1), some (.inl r2), some (.inl 1)] [.inr 26] Z17 (zri Q))
        refine z_vv (by rfl) (by rfl) cl_26 (TV.mono v fun Z18 v => ?_)
        show TZ (d + 1) 91 58 [some (.inr 0), some (.inl x1), some (.inl r2), some (.inl 1)] [] Z18 (zri Q)
        refine z0 (op := 3) (a := 3) (b := 0) (by rfl) (by rfl) (?_ : TZ (d + 1) 91 59 [some (.inr 0), some (.inl x1), some (.inl r2), some (.inl 1)] [.inl 1] Z18 (zri Q))
        exact z_reti (by rfl) (by rfl) v
  · have v := v2 h4; clear v1 v2
    show TZ (d + 1) 91 10 [some (.inr 0), some (.inl x1), some (.inl r2), none] [] Z1 (zri Q)
    refine z0 (op := 5) (a := 0) (b := 0) (by rfl) (by rfl) (?_ : TZ (d + 1) 91 11 [some (.inr 0), some (.inl x1), some (.inl r2), none] [.inr 0] Z1 (zri Q))
    refine z0 (op := 3) (a := 2) (b := 0) (by rfl) (by rfl) (?_ : TZ (d + 1) 91 12 [some (.inr 0), some (.inl x1), some (.inl r2), none] [.inl r2, .inr 0] Z1 (zri Q))
    refine z_vi (by rfl) (by rfl) cl_0 (TI.mono v fun r20 Z19 v => ?_)
    show TZ (d + 1) 91 15 [some (.inr 0), some (.inl x1), some (.inl r2), none] [.inl r20] Z19 (zri Q)
    exact z_reti (by rfl) (by rfl) v
theorem w92_0 {d : Nat} {x1 : Int} {Z : zM} {Q : Int → zM → Prop}
    (v : zR x1 ∧
      (x1 ≠ (-1) → TI d 76 [.inr 0, .inl x1] Z (fun r4 Z3 =>
          zR r4 ∧
            (r4 ≠ 0 → (zR r4 ∧
                (r4 = 0 → TV d 47 [.inr 26, .inr 1] Z3 (fun Z9 =>
                    TI d 25 [.inr 1, .inl x1] Z9 (fun r11 Z10 =>
                      TI d 22 [.inr 1] Z10 (fun r13 Z12 =>
                        Q r13 Z12)))) ∧
                (¬ r4 = 0 → TI d 71 [.inr 0, .inl r4] Z3 (fun r15 Z14 =>
                    Q r15 Z14)))) ∧
            (¬ r4 ≠ 0 → (zR (Z3 1 7) ∧
                ((Z3 1 7) < 999 → (zR r4 ∧
                    (r4 = 0 → TV d 47 [.inr 26, .inr 1] Z3 (fun Z20 =>
                        TI d 25 [.inr 1, .inl x1] Z20 (fun r22 Z21 =>
                          TI d 22 [.inr 1] Z21 (fun r24 Z23 =>
                            Q r24 Z23)))) ∧
                    (¬ r4 = 0 → TI d 71 [.inr 0, .inl r4] Z3 (fun r26 Z25 =>
                        Q r26 Z25)))) ∧
                (¬ (Z3 1 7) < 999 → TI d 71 [.inr 0, .inl (-6)] Z3 (fun r28 Z27 =>
                    Q r28 Z27)))))) ∧
      (¬ x1 ≠ (-1) → (zR (Z 1 7) ∧
          ((Z 1 7) < 999 → TV d 47 [.inr 26, .inr 1] Z (fun Z31 =>
              TI d 25 [.inr 1, .inl x1] Z31 (fun r33 Z32 =>
                TI d 22 [.inr 1] Z32 (fun r35 Z34 =>
                  Q r35 Z34)))) ∧
          (¬ (Z 1 7) < 999 → TI d 71 [.inr 0, .inl (-6)] Z (fun r37 Z36 =>
              Q r37 Z36))))) :
    TZ (d + 1) 92 0 [some (.inr 0), some (.inl x1), none] [] Z (zri Q) := by
  refine z0 (op := 3) (a := 1) (b := 0) (by rfl) (by rfl) (?_ : TZ (d + 1) 92 1 [some (.inr 0), some (.inl x1), none] [.inl x1] Z (zri Q))
  refine z0 (op := 0) (a := 0) (b := (-1)) (by rfl) (by rfl) (?_ : TZ (d + 1) 92 2 [some (.inr 0), some (.inl x1), none] [.inl (-1), .inl x1] Z (zri Q))
  obtain ⟨c1, v1, v2⟩ := v
  refine z_if2 (a := 1) (t := 9) (by rfl) (by rfl) c1 (by decide) (fun h2 => ?_) (fun h2 => ?_)
  · have v := v1 h2; clear v1 v2
    show TZ (d + 1) 92 9 [some (.inr 0), some (.inl x1), none] [] Z (zri Q)
    refine z0 (op := 5) (a := 0) (b := 0) (by rfl) (by rfl) (?_ : TZ (d + 1) 92 10 [some (.inr 0), some (.inl x1), none] [.inr 0] Z (zri Q))
    refine z0 (op := 3) (a := 1) (b := 0) (by rfl) (by rfl) (?_ : TZ (d + 1) 92 11 [some (.inr 0), some (.inl x1), none] [.inl x1, .inr 0] Z (zri Q))
    refine z_vi (by rfl) (by rfl) cl_0 (TI.mono v fun r4 Z3 v => ?_)
    show TZ (d + 1) 92 14 [some (.inr 0), some (.inl x1), none] [.inl r4] Z3 (zri Q)
    refine z0 (op := 7) (a := 2) (b := 0) (by rfl) (by rfl) (?_ : TZ (d + 1) 92 15 [some (.inr 0), some (.inl x1), some (.inl r4)] [] Z3 (zri Q))
    refine z0 (op := 3) (a := 2) (b := 0) (by rfl) (by rfl) (?_ : TZ (d + 1) 92 16 [some (.inr 0), some (.inl x1), some (.inl r4)] [.inl r4] Z3 (zri Q))
    obtain ⟨c5, v1, v2⟩ := v
    refine z_if0 (a := 1) (t := 35) (by rfl) (by rfl) c5 (fun h6 => ?_) (fun h6 => ?_)
    · have v := v1 h6; clear v1 v2
      show TZ (d + 1) 92 35 [some (.inr 0), some (.inl x1), some (.inl r4)] [] Z3 (zri Q)
      refine z0 (op := 3) (a := 2) (b := 0) (by rfl) (by rfl) (?_ : TZ (d + 1) 92 36 [some (.inr 0), some (.inl x1), some (.inl r4)] [.inl r4] Z3 (zri Q))
      obtain ⟨c7, v1, v2⟩ := v
      refine z_if0 (a := 0) (t := 45) (by rfl) (by rfl) c7 (fun h8 => ?_) (fun h8 => ?_)
      · have v := v1 h8; clear v1 v2
        show TZ (d + 1) 92 45 [some (.inr 0), some (.inl x1), some (.inl r4)] [] Z3 (zri Q)
        refine z0 (op := 5) (a := 0) (b := 0) (by rfl) (by rfl) (?_ : TZ (d + 1) 92 46 [some (.inr 0), some (.inl x1), some (.inl r4)] [.inr 0] Z3 (zri Q))
        refine z_fr (by rfl) fr55_0 (?_ : TZ (d + 1) 92 49 [some (.inr 0), some (.inl x1), some (.inl r4)] [.inr 26] Z3 (zri Q))
        refine z0 (op := 5) (a := 0) (b := 0) (by rfl) (by rfl) (?_ : TZ (d + 1) 92 50 [some (.inr 0), some (.inl x1), some (.inl r4)] [.inr 0, .inr 26] Z3 (zri Q))
        refine z_fr (by rfl) fr50_0 (?_ : TZ (d + 1) 92 53 [some (.inr 0), some (.inl x1), some (.inl r4)] [.inr 1, .inr 26] Z3 (zri Q))
        refine z_vv (by rfl) (by rfl) cl_26 (TV.mono v fun Z9 v => ?_)
        show TZ (d + 1) 92 56 [some (.inr 0), some (.inl x1), some (.inl r4)] [] Z9 (zri Q)
        refine z0 (op := 5) (a := 0) (b := 0) (by rfl) (by rfl) (?_ : TZ (d + 1) 92 57 [some (.inr 0), some (.inl x1), some (.inl r4)] [.inr 0] Z9 (zri Q))
        refine z_fr (by rfl) fr50_0 (?_ : TZ (d + 1) 92 60 [some (.inr 0), some (.inl x1), some (.inl r4)] [.inr 1] Z9 (zri Q))
        refine z0 (op := 3) (a := 1) (b := 0) (by rfl) (by rfl) (?_ : TZ (d + 1) 92 61 [some (.inr 0), some (.inl x1), some (.inl r4)] [.inl x1, .inr 1] Z9 (zri Q))
        refine z_vi (by rfl) (by rfl) cl_1 (TI.mono v fun r11 Z10 v => ?_)
        show TZ (d + 1) 92 64 [some (.inr 0), some (.inl x1), some (.inl r4)] [.inl r11] Z10 (zri Q)
        refine z0 (op := 14) (a := 0) (b := 0) (by rfl) (by rfl) (?_ : TZ (d + 1) 92 65 [some (.inr 0), some (.inl x1), some (.inl r4)] [] Z10 (zri Q))
        refine z0 (op := 5) (a := 0) (b := 0) (by rfl) (by rfl) (?_ : TZ (d + 1) 92 66 [some (.inr 0), some (.inl x1), some (.inl r4)] [.inr 0] Z10 (zri Q))
        refine z_fr (by rfl) fr50_0 (?_ : TZ (d + 1) 92 69 [some (.inr 0), some (.inl x1), some (.inl r4)] [.inr 1] Z10 (zri Q))
        refine z_vi (by rfl) (by rfl) cl_1 (TI.mono v fun r13 Z12 v => ?_)
        show TZ (d + 1) 92 72 [some (.inr 0), some (.inl x1), some (.inl r4)] [.inl r13] Z12 (zri Q)
        exact z_reti (by rfl) (by rfl) v
      · have v := v2 h8; clear v1 v2
        show TZ (d + 1) 92 39 [some (.inr 0), some (.inl x1), some (.inl r4)] [] Z3 (zri Q)
        refine z0 (op := 5) (a := 0) (b := 0) (by rfl) (by rfl) (?_ : TZ (d + 1) 92 40 [some (.inr 0), some (.inl x1), some (.inl r4)] [.inr 0] Z3 (zri Q))
        refine z0 (op := 3) (a := 2) (b := 0) (by rfl) (by rfl) (?_ : TZ (d + 1) 92 41 [some (.inr 0), some (.inl x1), some (.inl r4)] [.inl r4, .inr 0] Z3 (zri Q))
        refine z_vi (by rfl) (by rfl) cl_0 (TI.mono v fun r15 Z14 v => ?_)
        show TZ (d + 1) 92 44 [some (.inr 0), some (.inl x1), some (.inl r4)] [.inl r15] Z14 (zri Q)
        exact z_reti (by rfl) (by rfl) v
    · have v := v2 h6; clear v1 v2
      show TZ (d + 1) 92 19 [some (.inr 0), some (.inl x1), some (.inl r4)] [] Z3 (zri Q)
      refine z0 (op := 5) (a := 0) (b := 0) (by rfl) (by rfl) (?_ : TZ (d + 1) 92 20 [some (.inr 0), some (.inl x1), some (.inl r4)] [.inr 0] Z3 (zri Q))
      refine z_fr (by rfl) fr50_0 (?_ : TZ (d + 1) 92 23 [some (.inr 0), some (.inl x1), some (.inl r4)] [.inr 1] Z3 (zri Q))
      refine z_fi (by rfl) fi72_1 (?_ : TZ (d + 1) 92 26 [some (.inr 0), some (.inl x1), some (.inl r4)] [.inl (Z3 1 7)] Z3 (zri Q))
      refine z0 (op := 2) (a := 0) (b := 999) (by rfl) (by rfl) (?_ : TZ (d + 1) 92 29 [some (.inr 0), some (.inl x1), some (.inl r4)] [.inl 999, .inl (Z3 1 7)] Z3 (zri Q))
      obtain ⟨c16, v1, v2⟩ := v
      refine z_if2 (a := 2) (t := 35) (by rfl) (by rfl) c16 (by decide) (fun h17 => ?_) (fun h17 => ?_)
      · have v := v1 h17; clear v1 v2
        show TZ (d + 1) 92 35 [some (.inr 0), some (.inl x1), some (.inl r4)] [] Z3 (zri Q)
        refine z0 (op := 3) (a := 2) (b := 0) (by rfl) (by rfl) (?_ : TZ (d + 1) 92 36 [some (.inr 0), some (.inl x1), some (.inl r4)] [.inl r4] Z3 (zri Q))
        obtain ⟨c18, v1, v2⟩ := v
        refine z_if0 (a := 0) (t := 45) (by rfl) (by rfl) c18 (fun h19 => ?_) (fun h19 => ?_)
        · have v := v1 h19; clear v1 v2
          show TZ (d + 1) 92 45 [some (.inr 0), some (.inl x1), some (.inl r4)] [] Z3 (zri Q)
          refine z0 (op := 5) (a := 0) (b := 0) (by rfl) (by rfl) (?_ : TZ (d + 1) 92 46 [some (.inr 0), some (.inl x1), some (.inl r4)] [.inr 0] Z3 (zri Q))
          refine z_fr (by rfl) fr55_0 (?_ : TZ (d + 1) 92 49 [some (.inr 0), some (.inl x1), some (.inl r4)] [.inr 26] Z3 (zri Q))
          refine z0 (op := 5) (a := 0) (b := 0) (by rfl) (by rfl) (?_ : TZ (d + 1) 92 50 [some (.inr 0), some (.inl x1), some (.inl r4)] [.inr 0, .inr 26] Z3 (zri Q))
          refine z_fr (by rfl) fr50_0 (?_ : TZ (d + 1) 92 53 [some (.inr 0), some (.inl x1), some (.inl r4)] [.inr 1, .inr 26] Z3 (zri Q))
          refine z_vv (by rfl) (by rfl) cl_26 (TV.mono v fun Z20 v => ?_)
          show TZ (d + 1) 92 56 [some (.inr 0), some (.inl x1), some (.inl r4)] [] Z20 (zri Q)
          refine z0 (op := 5) (a := 0) (b := 0) (by rfl) (by rfl) (?_ : TZ (d + 1) 92 57 [some (.inr 0), some (.inl x1), some (.inl r4)] [.inr 0] Z20 (zri Q))
          refine z_fr (by rfl) fr50_0 (?_ : TZ (d + 1) 92 60 [some (.inr 0), some (.inl x1), some (.inl r4)] [.inr 1] Z20 (zri Q))
          refine z0 (op := 3) (a := 1) (b := 0) (by rfl) (by rfl) (?_ : TZ (d + 1) 92 61 [some (.inr 0), some (.inl x1), some (.inl r4)] [.inl x1, .inr 1] Z20 (zri Q))
          refine z_vi (by rfl) (by rfl) cl_1 (TI.mono v fun r22 Z21 v => ?_)
          show TZ (d + 1) 92 64 [some (.inr 0), some (.inl x1), some (.inl r4)] [.inl r22] Z21 (zri Q)
          refine z0 (op := 14) (a := 0) (b := 0) (by rfl) (by rfl) (?_ : TZ (d + 1) 92 65 [some (.inr 0), some (.inl x1), some (.inl r4)] [] Z21 (zri Q))
          refine z0 (op := 5) (a := 0) (b := 0) (by rfl) (by rfl) (?_ : TZ (d + 1) 92 66 [some (.inr 0), some (.inl x1), some (.inl r4)] [.inr 0] Z21 (zri Q))
          refine z_fr (by rfl) fr50_0 (?_ : TZ (d + 1) 92 69 [some (.inr 0), some (.inl x1), some (.inl r4)] [.inr 1] Z21 (zri Q))
          refine z_vi (by rfl) (by rfl) cl_1 (TI.mono v fun r24 Z23 v => ?_)
          show TZ (d + 1) 92 72 [some (.inr 0), some (.inl x1), some (.inl r4)] [.inl r24] Z23 (zri Q)
          exact z_reti (by rfl) (by rfl) v
        · have v := v2 h19; clear v1 v2
          show TZ (d + 1) 92 39 [some (.inr 0), some (.inl x1), some (.inl r4)] [] Z3 (zri Q)
          refine z0 (op := 5) (a := 0) (b := 0) (by rfl) (by rfl) (?_ : TZ (d + 1) 92 40 [some (.inr 0), some (.inl x1), some (.inl r4)] [.inr 0] Z3 (zri Q))
          refine z0 (op := 3) (a := 2) (b := 0) (by rfl) (by rfl) (?_ : TZ (d + 1) 92 41 [some (.inr 0), some (.inl x1), some (.inl r4)] [.inl r4, .inr 0] Z3 (zri Q))
          refine z_vi (by rfl) (by rfl) cl_0 (TI.mono v fun r26 Z25 v => ?_)
          show TZ (d + 1) 92 44 [some (.inr 0), some (.inl x1), some (.inl r4)] [.inl r26] Z25 (zri Q)
          exact z_reti (by rfl) (by rfl) v
      · have v := v2 h17; clear v1 v2
        show TZ (d + 1) 92 32 [some (.inr 0), some (.inl x1), some (.inl r4)] [] Z3 (zri Q)
        refine z0 (op := 1) (a := 0) (b := (-6)) (by rfl) (by rfl) (?_ : TZ (d + 1) 92 34 [some (.inr 0), some (.inl x1), some (.inl r4)] [.inl (-6)] Z3 (zri Q))
        refine z0 (op := 7) (a := 2) (b := 0) (by rfl) (by rfl) (?_ : TZ (d + 1) 92 35 [some (.inr 0), some (.inl x1), some (.inl (-6))] [] Z3 (zri Q))
        refine z0 (op := 3) (a := 2) (b := 0) (by rfl) (by rfl) (?_ : TZ (d + 1) 92 36 [some (.inr 0), some (.inl x1), some (.inl (-6))] [.inl (-6)] Z3 (zri Q))
        refine z_if0 (a := 0) (t := 45) (by rfl) (by rfl) (by decide) (fun h => absurd (show ((-6) : Int) = (0 : Int) from h) (by decide)) (fun _ => ?_)
        show TZ (d + 1) 92 39 [some (.inr 0), some (.inl x1), some (.inl (-6))] [] Z3 (zri Q)
        refine z0 (op := 5) (a := 0) (b := 0) (by rfl) (by rfl) (?_ : TZ (d + 1) 92 40 [some (.inr 0), some (.inl x1), some (.inl (-6))] [.inr 0] Z3 (zri Q))
        refine z0 (op := 3) (a := 2) (b := 0) (by rfl) (by rfl) (?_ : TZ (d + 1) 92 41 [some (.inr 0), some (.inl x1), some (.inl (-6))] [.inl (-6), .inr 0] Z3 (zri Q))
        refine z_vi (by rfl) (by rfl) cl_0 (TI.mono v fun r28 Z27 v => ?_)
        show TZ (d + 1) 92 44 [some (.inr 0), some (.inl x1), some (.inl (-6))] [.inl r28] Z27 (zri Q)
        exact z_reti (by rfl) (by rfl) v
  · have v := v2 h2; clear v1 v2
    show TZ (d + 1) 92 5 [some (.inr 0), some (.inl x1), none] [] Z (zri Q)
    refine z0 (op := 0) (a := 0) (b := 0) (by rfl) (by rfl) (?_ : TZ (d + 1) 92 6 [some (.inr 0), some (.inl x1), none] [.inl 0] Z (zri Q))
    refine z_goto (t := 14) (by rfl) (by rfl) (?_ : TZ (d + 1) 92 14 [some (.inr 0), some (.inl x1), none] [.inl 0] Z (zri Q))
    refine z0 (op := 7) (a := 2) (b := 0) (by rfl) (by rfl) (?_ : TZ (d + 1) 92 15 [some (.inr 0), some (.inl x1), some (.inl 0)] [] Z (zri Q))
    refine z0 (op := 3) (a := 2) (b := 0) (by rfl) (by rfl) (?_ : TZ (d + 1) 92 16 [some (.inr 0), some (.inl x1), some (.inl 0)] [.inl 0] Z (zri Q))
    refine z_if0 (a := 1) (t := 35) (by rfl) (by rfl) (by decide) (fun h => absurd (show (0 : Int) ≠ (0 : Int) from h) (by decide)) (fun _ => ?_)
    show TZ (d + 1) 92 19 [some (.inr 0), some (.inl x1), some (.inl 0)] [] Z (zri Q)
    refine z0 (op := 5) (a := 0) (b := 0) (by rfl) (by rfl) (?_ : TZ (d + 1) 92 20 [some (.inr 0), some (.inl x1), some (.inl 0)] [.inr 0] Z (zri Q))
    refine z_fr (by rfl) fr50_0 (?_ : TZ (d + 1) 92 23 [some (.inr 0), some (.inl x1), some (.inl 0)] [.inr 1] Z (zri Q))
    refine z_fi (by rfl) fi72_1 (?_ : TZ (d + 1) 92 26 [some (.inr 0), some (.inl x1), some (.inl 0)] [.inl (Z 1 7)] Z (zri Q))
    refine z0 (op := 2) (a := 0) (b := 999) (by rfl) (by rfl) (?_ : TZ (d + 1) 92 29 [some (.inr 0), some (.inl x1), some (.inl 0)] [.inl 999, .inl (Z 1 7)] Z (zri Q))
    obtain ⟨c29, v1, v2⟩ := v
    refine z_if2 (a := 2) (t := 35) (by rfl) (by rfl) c29 (by decide) (fun h30 => ?_) (fun h30 => ?_)
    · have v := v1 h30; clear v1 v2
      show TZ (d + 1) 92 35 [some (.inr 0), some (.inl x1), some (.inl 0)] [] Z (zri Q)
      refine z0 (op := 3) (a := 2) (b := 0) (by rfl) (by rfl) (?_ : TZ (d + 1) 92 36 [some (.inr 0), some (.inl x1), some (.inl 0)] [.inl 0] Z (zri Q))
      refine z_if0 (a := 0) (t := 45) (by rfl) (by rfl) (by decide) (fun _ => ?_) (fun h => absurd (show (0 : Int) = (0 : Int) by decide) h)
      show TZ (d + 1) 92 45 [some (.inr 0), some (.inl x1), some (.inl 0)] [] Z (zri Q)
      refine z0 (op := 5) (a := 0) (b := 0) (by rfl) (by rfl) (?_ : TZ (d + 1) 92 46 [some (.inr 0), some (.inl x1), some (.inl 0)] [.inr 0] Z (zri Q))
      refine z_fr (by rfl) fr55_0 (?_ : TZ (d + 1) 92 49 [some (.inr 0), some (.inl x1), some (.inl 0)] [.inr 26] Z (zri Q))
      refine z0 (op := 5) (a := 0) (b := 0) (by rfl) (by rfl) (?_ : TZ (d + 1) 92 50 [some (.inr 0), some (.inl x1), some (.inl 0)] [.inr 0, .inr 26] Z (zri Q))
      refine z_fr (by rfl) fr50_0 (?_ : TZ (d + 1) 92 53 [some (.inr 0), some (.inl x1), some (.inl 0)] [.inr 1, .inr 26] Z (zri Q))
      refine z_vv (by rfl) (by rfl) cl_26 (TV.mono v fun Z31 v => ?_)
      show TZ (d + 1) 92 56 [some (.inr 0), some (.inl x1), some (.inl 0)] [] Z31 (zri Q)
      refine z0 (op := 5) (a := 0) (b := 0) (by rfl) (by rfl) (?_ : TZ (d + 1) 92 57 [some (.inr 0), some (.inl x1), some (.inl 0)] [.inr 0] Z31 (zri Q))
      refine z_fr (by rfl) fr50_0 (?_ : TZ (d + 1) 92 60 [some (.inr 0), some (.inl x1), some (.inl 0)] [.inr 1] Z31 (zri Q))
      refine z0 (op := 3) (a := 1) (b := 0) (by rfl) (by rfl) (?_ : TZ (d + 1) 92 61 [some (.inr 0), some (.inl x1), some (.inl 0)] [.inl x1, .inr 1] Z31 (zri Q))
      refine z_vi (by rfl) (by rfl) cl_1 (TI.mono v fun r33 Z32 v => ?_)
      show TZ (d + 1) 92 64 [some (.inr 0), some (.inl x1), some (.inl 0)] [.inl r33] Z32 (zri Q)
      refine z0 (op := 14) (a := 0) (b := 0) (by rfl) (by rfl) (?_ : TZ (d + 1) 92 65 [some (.inr 0), some (.inl x1), some (.inl 0)] [] Z32 (zri Q))
      refine z0 (op := 5) (a := 0) (b := 0) (by rfl) (by rfl) (?_ : TZ (d + 1) 92 66 [some (.inr 0), some (.inl x1), some (.inl 0)] [.inr 0] Z32 (zri Q))
      refine z_fr (by rfl) fr50_0 (?_ : TZ (d + 1) 92 69 [some (.inr 0), some (.inl x1), some (.inl 0)] [.inr 1] Z32 (zri Q))
      refine z_vi (by rfl) (by rfl) cl_1 (TI.mono v fun r35 Z34 v => ?_)
      show TZ (d + 1) 92 72 [some (.inr 0), some (.inl x1), some (.inl 0)] [.inl r35] Z34 (zri Q)
      exact z_reti (by rfl) (by rfl) v
    · have v := v2 h30; clear v1 v2
      show TZ (d + 1) 92 32 [some (.inr 0), some (.inl x1), some (.inl 0)] [] Z (zri Q)
      refine z0 (op := 1) (a := 0) (b := (-6)) (by rfl) (by rfl) (?_ : TZ (d + 1) 92 34 [some (.inr 0), some (.inl x1), some (.inl 0)] [.inl (-6)] Z (zri Q))
      refine z0 (op := 7) (a := 2) (b := 0) (by rfl) (by rfl) (?_ : TZ (d + 1) 92 35 [some (.inr 0), some (.inl x1), some (.inl (-6))] [] Z (zri Q))
      refine z0 (op := 3) (a := 2) (b := 0) (by rfl) (by rfl) (?_ : TZ (d + 1) 92 36 [some (.inr 0), some (.inl x1), some (.inl (-6))] [.inl (-6)] Z (zri Q))
      refine z_if0 (a := 0) (t := 45) (by rfl) (by rfl) (by decide) (fun h => absurd (show ((-6) : Int) = (0 : Int) from h) (by decide)) (fun _ => ?_)
      show TZ (d + 1) 92 39 [some (.inr 0), some (.inl x1), some (.inl (-6))] [] Z (zri Q)
      refine z0 (op := 5) (a := 0) (b := 0) (by rfl) (by rfl) (?_ : TZ (d + 1) 92 40 [some (.inr 0), some (.inl x1), some (.inl (-6))] [.inr 0] Z (zri Q))
      refine z0 (op := 3) (a := 2) (b := 0) (by rfl) (by rfl) (?_ : TZ (d + 1) 92 41 [some (.inr 0), some (.inl x1), some (.inl (-6))] [.inl (-6), .inr 0] Z (zri Q))
      refine z_vi (by rfl) (by rfl) cl_0 (TI.mono v fun r37 Z36 v => ?_)
      show TZ (d + 1) 92 44 [some (.inr 0), some (.inl x1), some (.inl (-6))] [.inl r37] Z36 (zri Q)
      exact z_reti (by rfl) (by rfl) v
theorem w93_0 {d : Nat} {x1 : Int} {Z : zM} {Q : Int → zM → Prop}
    (v : TI d 76 [.inr 0, .inl x1] Z (fun r2 Z1 =>
      zR r2 ∧
        (r2 = 0 → TV d 47 [.inr 26, .inr 1] Z1 (fun Z5 =>
            TI d 32 [.inr 1, .inl x1] Z5 (fun r7 Z6 =>
              Q r7 Z6))) ∧
        (¬ r2 = 0 → TI d 71 [.inr 0, .inl r2] Z1 (fun r9 Z8 =>
            Q r9 Z8)))) :
    TZ (d + 1) 93 0 [some (.inr 0), some (.inl x1), none] [] Z (zri Q) := by
  refine z0 (op := 5) (a := 0) (b := 0) (by rfl) (by rfl) (?_ : TZ (d + 1) 93 1 [some (.inr 0), some (.inl x1), none] [.inr 0] Z (zri Q))
  refine z0 (op := 3) (a := 1) (b := 0) (by rfl) (by rfl) (?_ : TZ (d + 1) 93 2 [some (.inr 0), some (.inl x1), none] [.inl x1, .inr 0] Z (zri Q))
  refine z_vi (by rfl) (by rfl) cl_0 (TI.mono v fun r2 Z1 v => ?_)
  show TZ (d + 1) 93 5 [some (.inr 0), some (.inl x1), none] [.inl r2] Z1 (zri Q)
  refine z0 (op := 7) (a := 2) (b := 0) (by rfl) (by rfl) (?_ : TZ (d + 1) 93 6 [some (.inr 0), some (.inl x1), some (.inl r2)] [] Z1 (zri Q))
  refine z0 (op := 3) (a := 2) (b := 0) (by rfl) (by rfl) (?_ : TZ (d + 1) 93 7 [some (.inr 0), some (.inl x1), some (.inl r2)] [.inl r2] Z1 (zri Q))
  obtain ⟨c3, v1, v2⟩ := v
  refine z_if0 (a := 0) (t := 16) (by rfl) (by rfl) c3 (fun h4 => ?_) (fun h4 => ?_)
  · have v := v1 h4; clear v1 v2
    show TZ (d + 1) 93 16 [some (.inr 0), some (.inl x1), some (.inl r2)] [] Z1 (zri Q)
    refine z0 (op := 5) (a := 0) (b := 0) (by rfl) (by rfl) (?_ : TZ (d + 1) 93 17 [some (.inr 0), some (.inl x1), some (.inl r2)] [.inr 0] Z1 (zri Q))
    refine z_fr (by rfl) fr55_0 (?_ : TZ (d + 1) 93 20 [some (.inr 0), some (.inl x1), some (.inl r2)] [.inr 26] Z1 (zri Q))
    refine z0 (op := 5) (a := 0) (b := 0) (by rfl) (by rfl) (?_ : TZ (d + 1) 93 21 [some (.inr 0), some (.inl x1), some (.inl r2)] [.inr 0, .inr 26] Z1 (zri Q))
    refine z_fr (by rfl) fr50_0 (?_ : TZ (d + 1) 93 24 [some (.inr 0), some (.inl x1), some (.inl r2)] [.inr 1, .inr 26] Z1 (zri Q))
    refine z_vv (by rfl) (by rfl) cl_26 (TV.mono v fun Z5 v => ?_)
    show TZ (d + 1) 93 27 [some (.inr 0), some (.inl x1), some (.inl r2)] [] Z5 (zri Q)
    refine z0 (op := 5) (a := 0) (b := 0) (by rfl) (by rfl) (?_ : TZ (d + 1) 93 28 [some (.inr 0), some (.inl x1), some (.inl r2)] [.inr 0] Z5 (zri Q))
    refine z_fr (by rfl) fr50_0 (?_ : TZ (d + 1) 93 31 [some (.inr 0), some (.inl x1), some (.inl r2)] [.inr 1] Z5 (zri Q))
    refine z0 (op := 3) (a := 1) (b := 0) (by rfl) (by rfl) (?_ : TZ (d + 1) 93 32 [some (.inr 0), some (.inl x1), some (.inl r2)] [.inl x1, .inr 1] Z5 (zri Q))
    refine z_vi (by rfl) (by rfl) cl_1 (TI.mono v fun r7 Z6 v => ?_)
    show TZ (d + 1) 93 35 [some (.inr 0), some (.inl x1), some (.inl r2)] [.inl r7] Z6 (zri Q)
    exact z_reti (by rfl) (by rfl) v
  · have v := v2 h4; clear v1 v2
    show TZ (d + 1) 93 10 [some (.inr 0), some (.inl x1), some (.inl r2)] [] Z1 (zri Q)
    refine z0 (op := 5) (a := 0) (b := 0) (by rfl) (by rfl) (?_ : TZ (d + 1) 93 11 [some (.inr 0), some (.inl x1), some (.inl r2)] [.inr 0] Z1 (zri Q))
    refine z0 (op := 3) (a := 2) (b := 0) (by rfl) (by rfl) (?_ : TZ (d + 1) 93 12 [some (.inr 0), some (.inl x1), some (.inl r2)] [.inl r2, .inr 0] Z1 (zri Q))
    refine z_vi (by rfl) (by rfl) cl_0 (TI.mono v fun r9 Z8 v => ?_)
    show TZ (d + 1) 93 15 [some (.inr 0), some (.inl x1), some (.inl r2)] [.inl r9] Z8 (zri Q)
    exact z_reti (by rfl) (by rfl) v
theorem w94_0 {d : Nat} {Z : zM} {Q : Int → zM → Prop}
    (v : TV d 47 [.inr 26, .inr 1] Z (fun Z1 =>
      TI d 34 [.inr 1] Z1 (fun r3 Z2 =>
        Q r3 Z2))) :
    TZ (d + 1) 94 0 [some (.inr 0)] [] Z (zri Q) := by
  refine z0 (op := 5) (a := 0) (b := 0) (by rfl) (by rfl) (?_ : TZ (d + 1) 94 1 [some (.inr 0)] [.inr 0] Z (zri Q))
  refine z_fr (by rfl) fr55_0 (?_ : TZ (d + 1) 94 4 [some (.inr 0)] [.inr 26] Z (zri Q))
  refine z0 (op := 5) (a := 0) (b := 0) (by rfl) (by rfl) (?_ : TZ (d + 1) 94 5 [some (.inr 0)] [.inr 0, .inr 26] Z (zri Q))
  refine z_fr (by rfl) fr50_0 (?_ : TZ (d + 1) 94 8 [some (.inr 0)] [.inr 1, .inr 26] Z (zri Q))
  refine z_vv (by rfl) (by rfl) cl_26 (TV.mono v fun Z1 v => ?_)
  show TZ (d + 1) 94 11 [some (.inr 0)] [] Z1 (zri Q)
  refine z0 (op := 5) (a := 0) (b := 0) (by rfl) (by rfl) (?_ : TZ (d + 1) 94 12 [some (.inr 0)] [.inr 0] Z1 (zri Q))
  refine z_fr (by rfl) fr50_0 (?_ : TZ (d + 1) 94 15 [some (.inr 0)] [.inr 1] Z1 (zri Q))
  refine z_vi (by rfl) (by rfl) cl_1 (TI.mono v fun r3 Z2 v => ?_)
  show TZ (d + 1) 94 18 [some (.inr 0)] [.inl r3] Z2 (zri Q)
  exact z_reti (by rfl) (by rfl) v
theorem w95_0 {d : Nat} {Z : zM} {Q : Int → zM → Prop}
    (v : TV d 47 [.inr 26, .inr 1] Z (fun Z1 =>
      TI d 35 [.inr 1] Z1 (fun r3 Z2 =>
        Q r3 Z2))) :
    TZ (d + 1) 95 0 [some (.inr 0)] [] Z (zri Q) := by
  refine z0 (op := 5) (a := 0) (b := 0) (by rfl) (by rfl) (?_ : TZ (d + 1) 95 1 [some (.inr 0)] [.inr 0] Z (zri Q))
  refine z_fr (by rfl) fr55_0 (?_ : TZ (d + 1) 95 4 [some (.inr 0)] [.inr 26] Z (zri Q))
  refine z0 (op := 5) (a := 0) (b := 0) (by rfl) (by rfl) (?_ : TZ (d + 1) 95 5 [some (.inr 0)] [.inr 0, .inr 26] Z (zri Q))
  refine z_fr (by rfl) fr50_0 (?_ : TZ (d + 1) 95 8 [some (.inr 0)] [.inr 1, .inr 26] Z (zri Q))
  refine z_vv (by rfl) (by rfl) cl_26 (TV.mono v fun Z1 v => ?_)
  show TZ (d + 1) 95 11 [some (.inr 0)] [] Z1 (zri Q)
  refine z0 (op := 5) (a := 0) (b := 0) (by rfl) (by rfl) (?_ : TZ (d + 1) 95 12 [some (.inr 0)] [.inr 0] Z1 (zri Q))
  refine z_fr (by rfl) fr50_0 (?_ : TZ (d + 1) 95 15 [some (.inr 0)] [.inr 1] Z1 (zri Q))
  refine z_vi (by rfl) (by rfl) cl_1 (TI.mono v fun r3 Z2 v => ?_)
  show TZ (d + 1) 95 18 [some (.inr 0)] [.inl r3] Z2 (zri Q)
  exact z_reti (by rfl) (by rfl) v
theorem w96_0 {d : Nat} {Z : zM} {Q : Int → zM → Prop}
    (v : zR (Z 26 3) ∧
      ((Z 26 3) ≠ 0 → TV d 48 [.inr 26, .inr 1] Z (fun Z3 =>
          Q (Z3 1 7) Z3)) ∧
      (¬ (Z 26 3) ≠ 0 → TI d 71 [.inr 0, .inl (-3)] Z (fun r5 Z4 =>
          Q r5 Z4))) :
    TZ (d + 1) 96 0 [some (.inr 0)] [] Z (zri Q) := by
  refine z0 (op := 5) (a := 0) (b := 0) (by rfl) (by rfl) (?_ : TZ (d + 1) 96 1 [some (.inr 0)] [.inr 0] Z (zri Q))
  refine z_fr (by rfl) fr55_0 (?_ : TZ (d + 1) 96 4 [some (.inr 0)] [.inr 26] Z (zri Q))
  refine z_fi (by rfl) fi77_26 (?_ : TZ (d + 1) 96 7 [some (.inr 0)] [.inl (Z 26 3)] Z (zri Q))
  obtain ⟨c1, v1, v2⟩ := v
  refine z_if0 (a := 1) (t := 17) (by rfl) (by rfl) c1 (fun h2 => ?_) (fun h2 => ?_)
  · have v := v1 h2; clear v1 v2
    show TZ (d + 1) 96 17 [some (.inr 0)] [] Z (zri Q)
    refine z0 (op := 5) (a := 0) (b := 0) (by rfl) (by rfl) (?_ : TZ (d + 1) 96 18 [some (.inr 0)] [.inr 0] Z (zri Q))
    refine z_fr (by rfl) fr55_0 (?_ : TZ (d + 1) 96 21 [some (.inr 0)] [.inr 26] Z (zri Q))
    refine z0 (op := 5) (a := 0) (b := 0) (by rfl) (by rfl) (?_ : TZ (d + 1) 96 22 [some (.inr 0)] [.inr 0, .inr 26] Z (zri Q))
    refine z_fr (by rfl) fr50_0 (?_ : TZ (d + 1) 96 25 [some (.inr 0)] [.inr 1, .inr 26] Z (zri Q))
    refine z_vv (by rfl) (by rfl) cl_26 (TV.mono v fun Z3 v => ?_)
    show TZ (d + 1) 96 28 [some (.inr 0)] [] Z3 (zri Q)
    refine z0 (op := 5) (a := 0) (b := 0) (by rfl) (by rfl) (?_ : TZ (d + 1) 96 29 [some (.inr 0)] [.inr 0] Z3 (zri Q))
    refine z_fr (by rfl) fr50_0 (?_ : TZ (d + 1) 96 32 [some (.inr 0)] [.inr 1] Z3 (zri Q))
    refine z_fi (by rfl) fi72_1 (?_ : TZ (d + 1) 96 35 [some (.inr 0)] [.inl (Z3 1 7)] Z3 (zri Q))
    exact z_reti (by rfl) (by rfl) v
  · have v := v2 h2; clear v1 v2
    show TZ (d + 1) 96 10 [some (.inr 0)] [] Z (zri Q)
    refine z0 (op := 5) (a := 0) (b := 0) (by rfl) (by rfl) (?_ : TZ (d + 1) 96 11 [some (.inr 0)] [.inr 0] Z (zri Q))
    refine z0 (op := 1) (a := 0) (b := (-3)) (by rfl) (by rfl) (?_ : TZ (d + 1) 96 13 [some (.inr 0)] [.inl (-3), .inr 0] Z (zri Q))
    refine z_vi (by rfl) (by rfl) cl_0 (TI.mono v fun r5 Z4 v => ?_)
    show TZ (d + 1) 96 16 [some (.inr 0)] [.inl r5] Z4 (zri Q)
    exact z_reti (by rfl) (by rfl) v
theorem w97_0 {d : Nat} {Z : zM} {Q : Nat → zM → Prop}
    (v : TV d 12 [.inr 19, .inr 1] Z (fun Z1 =>
      Q 19 Z1)) :
    TZ (d + 1) 97 0 [some (.inr 0)] [] Z (zrr Q) := by
  refine z0 (op := 5) (a := 0) (b := 0) (by rfl) (by rfl) (?_ : TZ (d + 1) 97 1 [some (.inr 0)] [.inr 0] Z (zrr Q))
  refine z_fr (by rfl) fr53_0 (?_ : TZ (d + 1) 97 4 [some (.inr 0)] [.inr 19] Z (zrr Q))
  refine z0 (op := 5) (a := 0) (b := 0) (by rfl) (by rfl) (?_ : TZ (d + 1) 97 5 [some (.inr 0)] [.inr 0, .inr 19] Z (zrr Q))
  refine z_fr (by rfl) fr50_0 (?_ : TZ (d + 1) 97 8 [some (.inr 0)] [.inr 1, .inr 19] Z (zrr Q))
  refine z_vv (by rfl) (by rfl) cl_19 (TV.mono v fun Z1 v => ?_)
  show TZ (d + 1) 97 11 [some (.inr 0)] [] Z1 (zrr Q)
  refine z0 (op := 5) (a := 0) (b := 0) (by rfl) (by rfl) (?_ : TZ (d + 1) 97 12 [some (.inr 0)] [.inr 0] Z1 (zrr Q))
  refine z_fr (by rfl) fr53_0 (?_ : TZ (d + 1) 97 15 [some (.inr 0)] [.inr 19] Z1 (zrr Q))
  exact z_retr (by rfl) (by rfl) v
theorem w98_0 {d : Nat} {x1 : Int} {Z : zM} {Q : Nat → zM → Prop}
    (v : TR d 97 [.inr 0] Z (fun r2 Z1 =>
      r2 = 19 ∧ TZ (d + 1) 98 7 [some (.inr 0), some (.inl x1), some (.inr 19), some (.inl 0)] [] Z1 (zrr Q))) :
    TZ (d + 1) 98 0 [some (.inr 0), some (.inl x1), none, none] [] Z (zrr Q) := by
  refine z0 (op := 5) (a := 0) (b := 0) (by rfl) (by rfl) (?_ : TZ (d + 1) 98 1 [some (.inr 0), some (.inl x1), none, none] [.inr 0] Z (zrr Q))
  refine z_vr (by rfl) (by rfl) cl_0 (TR.mono v fun r2 Z1 v => ?_)
  obtain ⟨er2, v⟩ := v
  subst er2
  show TZ (d + 1) 98 4 [some (.inr 0), some (.inl x1), none, none] [.inr 19] Z1 (zrr Q)
  refine z0 (op := 9) (a := 2) (b := 0) (by rfl) (by rfl) (?_ : TZ (d + 1) 98 5 [some (.inr 0), some (.inl x1), some (.inr 19), none] [] Z1 (zrr Q))
  refine z0 (op := 0) (a := 0) (b := 0) (by rfl) (by rfl) (?_ : TZ (d + 1) 98 6 [some (.inr 0), some (.inl x1), some (.inr 19), none] [.inl 0] Z1 (zrr Q))
  refine z0 (op := 7) (a := 3) (b := 0) (by rfl) (by rfl) (?_ : TZ (d + 1) 98 7 [some (.inr 0), some (.inl x1), some (.inr 19), some (.inl 0)] [] Z1 (zrr Q))
  exact v
theorem w98_7 {d : Nat} {x1 x3 : Int} {Z : zM} {Q : Nat → zM → Prop}
    (v : zR x3 ∧
      zR x1 ∧
      (x1 ≤ x3 → Q 19 Z) ∧
      (¬ x1 ≤ x3 → TI d 25 [.inr 19, .inl (-1)] Z (fun r5 Z4 =>
          TZ (d + 1) 98 7 [some (.inr 0), some (.inl x1), some (.inr 19), some (.inl (x3 + 1))] [] Z4 (zrr Q)))) :
    TZ (d + 1) 98 7 [some (.inr 0), some (.inl x1), some (.inr 19), some (.inl x3)] [] Z (zrr Q) := by
  refine z0 (op := 3) (a := 3) (b := 0) (by rfl) (by rfl) (?_ : TZ (d + 1) 98 8 [some (.inr 0), some (.inl x1), some (.inr 19), some (.inl x3)] [.inl x3] Z (zrr Q))
  refine z0 (op := 3) (a := 1) (b := 0) (by rfl) (by rfl) (?_ : TZ (d + 1) 98 9 [some (.inr 0), some (.inl x1), some (.inr 19), some (.inl x3)] [.inl x1, .inl x3] Z (zrr Q))
  obtain ⟨c1, c2, v1, v2⟩ := v
  refine z_if2 (a := 3) (t := 24) (by rfl) (by rfl) c1 c2 (fun h3 => ?_) (fun h3 => ?_)
  · have v := v1 h3; clear v1 v2
    show TZ (d + 1) 98 24 [some (.inr 0), some (.inl x1), some (.inr 19), some (.inl x3)] [] Z (zrr Q)
    refine z0 (op := 5) (a := 2) (b := 0) (by rfl) (by rfl) (?_ : TZ (d + 1) 98 25 [some (.inr 0), some (.inl x1), some (.inr 19), some (.inl x3)] [.inr 19] Z (zrr Q))
    exact z_retr (by rfl) (by rfl) v
  · have v := v2 h3; clear v1 v2
    show TZ (d + 1) 98 12 [some (.inr 0), some (.inl x1), some (.inr 19), some (.inl x3)] [] Z (zrr Q)
    refine z0 (op := 5) (a := 2) (b := 0) (by rfl) (by rfl) (?_ : TZ (d + 1) 98 13 [some (.inr 0), some (.inl x1), some (.inr 19), some (.inl x3)] [.inr 19] Z (zrr Q))
    refine z0 (op := 0) (a := 0) (b := (-1)) (by rfl) (by rfl) (?_ : TZ (d + 1) 98 14 [some (.inr 0), some (.inl x1), some (.inr 19), some (.inl x3)] [.inl (-1), .inr 19] Z (zrr Q))
    refine z_vi (by rfl) (by rfl) cl_19 (TI.mono v fun r5 Z4 v => ?_)
    show TZ (d + 1) 98 17 [some (.inr 0), some (.inl x1), some (.inr 19), some (.inl x3)] [.inl r5] Z4 (zrr Q)
    refine z0 (op := 14) (a := 0) (b := 0) (by rfl) (by rfl) (?_ : TZ (d + 1) 98 18 [some (.inr 0), some (.inl x1), some (.inr 19), some (.inl x3)] [] Z4 (zrr Q))
    refine z0 (op := 11) (a := 3) (b := 1) (by rfl) (by rfl) (?_ : TZ (d + 1) 98 21 [some (.inr 0), some (.inl x1), some (.inr 19), some (.inl (x3 + 1))] [] Z4 (zrr Q))
    refine z_goto (t := 7) (by rfl) (by rfl) (?_ : TZ (d + 1) 98 7 [some (.inr 0), some (.inl x1), some (.inr 19), some (.inl (x3 + 1))] [] Z4 (zrr Q))
    exact v
theorem w152_0 {d : Nat} {x0 x1 : Int} {Z : zM} {Q : Int → zM → Prop}
    (v : TI d 2 [.inl (x0 - x1), .inl 12] Z (fun r2 Z1 =>
      zR r2 ∧
        zR (12 - r2) ∧ Q (min r2 (12 - r2)) Z1)) :
    TZ (d + 1) 152 0 [some (.inl x0), some (.inl x1), none] [] Z (zri Q) := by
  refine z0 (op := 3) (a := 0) (b := 0) (by rfl) (by rfl) (?_ : TZ (d + 1) 152 1 [some (.inl x0), some (.inl x1), none] [.inl x0] Z (zri Q))
  refine z0 (op := 3) (a := 1) (b := 0) (by rfl) (by rfl) (?_ : TZ (d + 1) 152 2 [some (.inl x0), some (.inl x1), none] [.inl x1, .inl x0] Z (zri Q))
  refine z0 (op := 12) (a := 1) (b := 0) (by rfl) (by rfl) (?_ : TZ (d + 1) 152 3 [some (.inl x0), some (.inl x1), none] [.inl (x0 - x1)] Z (zri Q))
  refine z0 (op := 1) (a := 0) (b := 12) (by rfl) (by rfl) (?_ : TZ (d + 1) 152 5 [some (.inl x0), some (.inl x1), none] [.inl 12, .inl (x0 - x1)] Z (zri Q))
  refine z_si (by rfl) (by rfl) (TI.mono v fun r2 Z1 v => ?_)
  show TZ (d + 1) 152 8 [some (.inl x0), some (.inl x1), none] [.inl r2] Z1 (zri Q)
  refine z0 (op := 7) (a := 2) (b := 0) (by rfl) (by rfl) (?_ : TZ (d + 1) 152 9 [some (.inl x0), some (.inl x1), some (.inl r2)] [] Z1 (zri Q))
  refine z0 (op := 3) (a := 2) (b := 0) (by rfl) (by rfl) (?_ : TZ (d + 1) 152 10 [some (.inl x0), some (.inl x1), some (.inl r2)] [.inl r2] Z1 (zri Q))
  refine z0 (op := 1) (a := 0) (b := 12) (by rfl) (by rfl) (?_ : TZ (d + 1) 152 12 [some (.inl x0), some (.inl x1), some (.inl r2)] [.inl 12, .inl r2] Z1 (zri Q))
  refine z0 (op := 3) (a := 2) (b := 0) (by rfl) (by rfl) (?_ : TZ (d + 1) 152 13 [some (.inl x0), some (.inl x1), some (.inl r2)] [.inl r2, .inl 12, .inl r2] Z1 (zri Q))
  refine z0 (op := 12) (a := 1) (b := 0) (by rfl) (by rfl) (?_ : TZ (d + 1) 152 14 [some (.inl x0), some (.inl x1), some (.inl r2)] [.inl (12 - r2), .inl r2] Z1 (zri Q))
  obtain ⟨c3, c4, v⟩ := v
  refine z_min (by rfl) (by rfl) (Nat.le_of_ble_eq_true rfl) c3 c4 (?_ : TZ (d + 1) 152 17 [some (.inl x0), some (.inl x1), some (.inl r2)] [.inl (min r2 (12 - r2))] Z1 (zri Q))
  exact z_reti (by rfl) (by rfl) v
theorem w149_0 {d : Nat} {Z : zM} {Q : Int → zM → Prop}
    (v : TV d 12 [.inr 7, .inr 1] Z (fun Z1 =>
      ∀ Z2, Z2 = zup Z1 0 17 1 →
        Q (Z2 1 7) Z2)) :
    TZ (d + 1) 149 0 [some (.inr 0)] [] Z (zri Q) := by
  refine z0 (op := 5) (a := 0) (b := 0) (by rfl) (by rfl) (?_ : TZ (d + 1) 149 1 [some (.inr 0)] [.inr 0] Z (zri Q))
  refine z_fr (by rfl) fr51_0 (?_ : TZ (d + 1) 149 4 [some (.inr 0)] [.inr 7] Z (zri Q))
  refine z0 (op := 5) (a := 0) (b := 0) (by rfl) (by rfl) (?_ : TZ (d + 1) 149 5 [some (.inr 0)] [.inr 0, .inr 7] Z (zri Q))
  refine z_fr (by rfl) fr50_0 (?_ : TZ (d + 1) 149 8 [some (.inr 0)] [.inr 1, .inr 7] Z (zri Q))
  refine z_vv (by rfl) (by rfl) cl_7 (TV.mono v fun Z1 v => ?_)
  show TZ (d + 1) 149 11 [some (.inr 0)] [] Z1 (zri Q)
  refine z0 (op := 5) (a := 0) (b := 0) (by rfl) (by rfl) (?_ : TZ (d + 1) 149 12 [some (.inr 0)] [.inr 0] Z1 (zri Q))
  refine z0 (op := 0) (a := 0) (b := 1) (by rfl) (by rfl) (?_ : TZ (d + 1) 149 13 [some (.inr 0)] [.inl 1, .inr 0] Z1 (zri Q))
  obtain ⟨Z2, eZ2⟩ : ∃ q, q = zup Z1 0 17 1 := ⟨_, rfl⟩
  have v := v Z2 eZ2
  refine z_pf (by rfl) pf87_0 (fun _ => by decide) ?_
  show TZ (d + 1) 149 16 [some (.inr 0)] [] (zup Z1 0 17 1) _
  rw [← eZ2]
  refine z0 (op := 5) (a := 0) (b := 0) (by rfl) (by rfl) (?_ : TZ (d + 1) 149 17 [some (.inr 0)] [.inr 0] Z2 (zri Q))
  refine z_fr (by rfl) fr50_0 (?_ : TZ (d + 1) 149 20 [some (.inr 0)] [.inr 1] Z2 (zri Q))
  refine z_fi (by rfl) fi72_1 (?_ : TZ (d + 1) 149 23 [some (.inr 0)] [.inl (Z2 1 7)] Z2 (zri Q))
  exact z_reti (by rfl) (by rfl) v
theorem w150_0 {d : Nat} {Z : zM} {Q : Int → zM → Prop}
    (v : zR (Z 0 17) ∧
      ((Z 0 17) ≠ 0 → TV d 12 [.inr 1, .inr 7] Z (fun Z3 =>
          TV d 46 [.inr 26] Z3 (fun Z4 =>
            Q (Z4 1 7) Z4))) ∧
      (¬ (Z 0 17) ≠ 0 → TI d 71 [.inr 0, .inl (-3)] Z (fun r6 Z5 =>
          Q r6 Z5))) :
    TZ (d + 1) 150 0 [some (.inr 0)] [] Z (zri Q) := by
  refine z0 (op := 5) (a := 0) (b := 0) (by rfl) (by rfl) (?_ : TZ (d + 1) 150 1 [some (.inr 0)] [.inr 0] Z (zri Q))
  refine z_fi (by rfl) fi87_0 (?_ : TZ (d + 1) 150 4 [some (.inr 0)] [.inl (Z 0 17)] Z (zri Q))
  obtain ⟨c1, v1, v2⟩ := v
  refine z_if0 (a := 1) (t := 14) (by rfl) (by rfl) c1 (fun h2 => ?_) (fun h2 => ?_)
  · have v := v1 h2; clear v1 v2
    show TZ (d + 1) 150 14 [some (.inr 0)] [] Z (zri Q)
    refine z0 (op := 5) (a := 0) (b := 0) (by rfl) (by rfl) (?_ : TZ (d + 1) 150 15 [some (.inr 0)] [.inr 0] Z (zri Q))
    refine z_fr (by rfl) fr50_0 (?_ : TZ (d + 1) 150 18 [some (.inr 0)] [.inr 1] Z (zri Q))
    refine z0 (op := 5) (a := 0) (b := 0) (by rfl) (by rfl) (?_ : TZ (d + 1) 150 19 [some (.inr 0)] [.inr 0, .inr 1] Z (zri Q))
    refine z_fr (by rfl) fr51_0 (?_ : TZ (d + 1) 150 22 [some (.inr 0)] [.inr 7, .inr 1] Z (zri Q))
    refine z_vv (by rfl) (by rfl) cl_1 (TV.mono v fun Z3 v => ?_)
    show TZ (d + 1) 150 25 [some (.inr 0)] [] Z3 (zri Q)
    refine z0 (op := 5) (a := 0) (b := 0) (by rfl) (by rfl) (?_ : TZ (d + 1) 150 26 [some (.inr 0)] [.inr 0] Z3 (zri Q))
    refine z_fr (by rfl) fr55_0 (?_ : TZ (d + 1) 150 29 [some (.inr 0)] [.inr 26] Z3 (zri Q))
    refine z_vv (by rfl) (by rfl) cl_26 (TV.mono v fun Z4 v => ?_)
    show TZ (d + 1) 150 32 [some (.inr 0)] [] Z4 (zri Q)
    refine z0 (op := 5) (a := 0) (b := 0) (by rfl) (by rfl) (?_ : TZ (d + 1) 150 33 [some (.inr 0)] [.inr 0] Z4 (zri Q))
    refine z_fr (by rfl) fr50_0 (?_ : TZ (d + 1) 150 36 [some (.inr 0)] [.inr 1] Z4 (zri Q))
    refine z_fi (by rfl) fi72_1 (?_ : TZ (d + 1) 150 39 [some (.inr 0)] [.inl (Z4 1 7)] Z4 (zri Q))
    exact z_reti (by rfl) (by rfl) v
  · have v := v2 h2; clear v1 v2
    show TZ (d + 1) 150 7 [some (.inr 0)] [] Z (zri Q)
    refine z0 (op := 5) (a := 0) (b := 0) (by rfl) (by rfl) (?_ : TZ (d + 1) 150 8 [some (.inr 0)] [.inr 0] Z (zri Q))
    refine z0 (op := 1) (a := 0) (b := (-3)) (by rfl) (by rfl) (?_ : TZ (d + 1) 150 10 [some (.inr 0)] [.inl (-3), .inr 0] Z (zri Q))
    refine z_vi (by rfl) (by rfl) cl_0 (TI.mono v fun r6 Z5 v => ?_)
    show TZ (d + 1) 150 13 [some (.inr 0)] [.inl r6] Z5 (zri Q)
    exact z_reti (by rfl) (by rfl) v
theorem w154_0 {d : Nat} {x1 : Int} {Z : zM} {Q : Int → zM → Prop}
    (v : (0 ≤ (-x1) ∧ (-x1) < 7) ∧
      (0 ≤ (-x1) ∧ (-x1) < 7) ∧
      ∀ Z3, Z3 = zup Z 101 (-x1) ((Z 101 (-x1)) + 1) →
      Q x1 Z3) :
    TZ d 154 0 [some (.inr 100), some (.inl x1)] [] Z (zri Q) := by
  refine z0 (op := 5) (a := 0) (b := 0) (by rfl) (by rfl) (?_ : TZ d 154 1 [some (.inr 100), some (.inl x1)] [.inr 100] Z (zri Q))
  refine z_fr (by rfl) fr88_100 (?_ : TZ d 154 4 [some (.inr 100), some (.inl x1)] [.inr 101] Z (zri Q))
  refine z0 (op := 3) (a := 1) (b := 0) (by rfl) (by rfl) (?_ : TZ d 154 5 [some (.inr 100), some (.inl x1)] [.inl x1, .inr 101] Z (zri Q))
  refine z0 (op := 13) (a := 0) (b := 0) (by rfl) (by rfl) (?_ : TZ d 154 6 [some (.inr 100), some (.inl x1)] [.inl (-x1), .inr 101] Z (zri Q))
  refine z0 (op := 16) (a := 0) (b := 0) (by rfl) (by rfl) (?_ : TZ d 154 7 [some (.inr 100), some (.inl x1)] [.inl (-x1), .inr 101, .inl (-x1), .inr 101] Z (zri Q))
  obtain ⟨c1, v⟩ := v
  refine z_al (by rfl) ln_101 c1 (?_ : TZ d 154 8 [some (.inr 100), some (.inl x1)] [.inl (Z 101 (-x1)), .inl (-x1), .inr 101] Z (zri Q))
  refine z0 (op := 0) (a := 0) (b := 1) (by rfl) (by rfl) (?_ : TZ d 154 9 [some (.inr 100), some (.inl x1)] [.inl 1, .inl (Z 101 (-x1)), .inl (-x1), .inr 101] Z (zri Q))
  refine z0 (op := 12) (a := 0) (b := 0) (by rfl) (by rfl) (?_ : TZ d 154 10 [some (.inr 100), some (.inl x1)] [.inl ((Z 101 (-x1)) + 1), .inl (-x1), .inr 101] Z (zri Q))
  obtain ⟨c2, v⟩ := v
  obtain ⟨Z3, eZ3⟩ : ∃ q, q = zup Z 101 (-x1) ((Z 101 (-x1)) + 1) := ⟨_, rfl⟩
  have v := v Z3 eZ3
  refine z_as (by rfl) ln_101 c2 ?_
  show TZ d 154 11 [some (.inr 100), some (.inl x1)] [] (zup Z 101 (-x1) ((Z 101 (-x1)) + 1)) _
  rw [← eZ3]
  refine z0 (op := 3) (a := 1) (b := 0) (by rfl) (by rfl) (?_ : TZ d 154 12 [some (.inr 100), some (.inl x1)] [.inl x1] Z3 (zri Q))
  exact z_reti (by rfl) (by rfl) v
theorem w155_0 {d : Nat} {x0 x1 x2 : Int} {Z : zM} {Q : Int → zM → Prop}
    (v : zR x0 ∧
      zR x1 ∧
      (x0 < x1 → Q 0 Z) ∧
      (¬ x0 < x1 → (zR x0 ∧
          zR x2 ∧
          (x2 < x0 → Q 0 Z) ∧
          (¬ x2 < x0 → Q 1 Z)))) :
    TZ d 155 0 [some (.inl x0), some (.inl x1), some (.inl x2)] [] Z (zri Q) := by
  refine z0 (op := 3) (a := 0) (b := 0) (by rfl) (by rfl) (?_ : TZ d 155 1 [some (.inl x0), some (.inl x1), some (.inl x2)] [.inl x0] Z (zri Q))
  refine z0 (op := 3) (a := 1) (b := 0) (by rfl) (by rfl) (?_ : TZ d 155 2 [some (.inl x0), some (.inl x1), some (.inl x2)] [.inl x1, .inl x0] Z (zri Q))
  obtain ⟨c1, c2, v1, v2⟩ := v
  refine z_if2 (a := 2) (t := 14) (by rfl) (by rfl) c1 c2 (fun h3 => ?_) (fun h3 => ?_)
  · have v := v1 h3; clear v1 v2
    show TZ d 155 14 [some (.inl x0), some (.inl x1), some (.inl x2)] [] Z (zri Q)
    refine z0 (op := 0) (a := 0) (b := 0) (by rfl) (by rfl) (?_ : TZ d 155 15 [some (.inl x0), some (.inl x1), some (.inl x2)] [.inl 0] Z (zri Q))
    exact z_retb (by rfl) (by rfl) (by decide) v
  · have v := v2 h3; clear v1 v2
    show TZ d 155 5 [some (.inl x0), some (.inl x1), some (.inl x2)] [] Z (zri Q)
    refine z0 (op := 3) (a := 0) (b := 0) (by rfl) (by rfl) (?_ : TZ d 155 6 [some (.inl x0), some (.inl x1), some (.inl x2)] [.inl x0] Z (zri Q))
    refine z0 (op := 3) (a := 2) (b := 0) (by rfl) (by rfl) (?_ : TZ d 155 7 [some (.inl x0), some (.inl x1), some (.inl x2)] [.inl x2, .inl x0] Z (zri Q))
    obtain ⟨c4, c5, v1, v2⟩ := v
    refine z_if2 (a := 4) (t := 14) (by rfl) (by rfl) c4 c5 (fun h6 => ?_) (fun h6 => ?_)
    · have v := v1 h6; clear v1 v2
      show TZ d 155 14 [some (.inl x0), some (.inl x1), some (.inl x2)] [] Z (zri Q)
      refine z0 (op := 0) (a := 0) (b := 0) (by rfl) (by rfl) (?_ : TZ d 155 15 [some (.inl x0), some (.inl x1), some (.inl x2)] [.inl 0] Z (zri Q))
      exact z_retb (by rfl) (by rfl) (by decide) v
    · have v := v2 h6; clear v1 v2
      show TZ d 155 10 [some (.inl x0), some (.inl x1), some (.inl x2)] [] Z (zri Q)
      refine z0 (op := 0) (a := 0) (b := 1) (by rfl) (by rfl) (?_ : TZ d 155 11 [some (.inl x0), some (.inl x1), some (.inl x2)] [.inl 1] Z (zri Q))
      refine z_goto (t := 15) (by rfl) (by rfl) (?_ : TZ d 155 15 [some (.inl x0), some (.inl x1), some (.inl x2)] [.inl 1] Z (zri Q))
      exact z_retb (by rfl) (by rfl) (by decide) v
theorem w156_0 {d : Nat} {x0 x1 x2 : Int} {Z : zM} {Q : Int → zM → Prop}
    (v : zR x0 ∧
      zR x1 ∧
      (x1 ≤ x0 → (zR x0 ∧
          zR x2 ∧
          (x0 ≤ x2 → Q 0 Z) ∧
          (¬ x0 ≤ x2 → Q (-6) Z))) ∧
      (¬ x1 ≤ x0 → Q (-4) Z)) :
    TZ d 156 0 [some (.inl x0), some (.inl x1), some (.inl x2)] [] Z (zri Q) := by
  refine z0 (op := 3) (a := 0) (b := 0) (by rfl) (by rfl) (?_ : TZ d 156 1 [some (.inl x0), some (.inl x1), some (.inl x2)] [.inl x0] Z (zri Q))
  refine z0 (op := 3) (a := 1) (b := 0) (by rfl) (by rfl) (?_ : TZ d 156 2 [some (.inl x0), some (.inl x1), some (.inl x2)] [.inl x1, .inl x0] Z (zri Q))
  obtain ⟨c1, c2, v1, v2⟩ := v
  refine z_if2 (a := 3) (t := 10) (by rfl) (by rfl) c1 c2 (fun h3 => ?_) (fun h3 => ?_)
  · have v := v1 h3; clear v1 v2
    show TZ d 156 10 [some (.inl x0), some (.inl x1), some (.inl x2)] [] Z (zri Q)
    refine z0 (op := 3) (a := 0) (b := 0) (by rfl) (by rfl) (?_ : TZ d 156 11 [some (.inl x0), some (.inl x1), some (.inl x2)] [.inl x0] Z (zri Q))
    refine z0 (op := 3) (a := 2) (b := 0) (by rfl) (by rfl) (?_ : TZ d 156 12 [some (.inl x0), some (.inl x1), some (.inl x2)] [.inl x2, .inl x0] Z (zri Q))
    obtain ⟨c4, c5, v1, v2⟩ := v
    refine z_if2 (a := 5) (t := 20) (by rfl) (by rfl) c4 c5 (fun h6 => ?_) (fun h6 => ?_)
    · have v := v1 h6; clear v1 v2
      show TZ d 156 20 [some (.inl x0), some (.inl x1), some (.inl x2)] [] Z (zri Q)
      refine z0 (op := 0) (a := 0) (b := 0) (by rfl) (by rfl) (?_ : TZ d 156 21 [some (.inl x0), some (.inl x1), some (.inl x2)] [.inl 0] Z (zri Q))
      exact z_reti (by rfl) (by rfl) v
    · have v := v2 h6; clear v1 v2
      show TZ d 156 15 [some (.inl x0), some (.inl x1), some (.inl x2)] [] Z (zri Q)
      refine z0 (op := 1) (a := 0) (b := (-6)) (by rfl) (by rfl) (?_ : TZ d 156 17 [some (.inl x0), some (.inl x1), some (.inl x2)] [.inl (-6)] Z (zri Q))
      refine z_goto (t := 21) (by rfl) (by rfl) (?_ : TZ d 156 21 [some (.inl x0), some (.inl x1), some (.inl x2)] [.inl (-6)] Z (zri Q))
      exact z_reti (by rfl) (by rfl) v
  · have v := v2 h3; clear v1 v2
    show TZ d 156 5 [some (.inl x0), some (.inl x1), some (.inl x2)] [] Z (zri Q)
    refine z0 (op := 1) (a := 0) (b := (-4)) (by rfl) (by rfl) (?_ : TZ d 156 7 [some (.inl x0), some (.inl x1), some (.inl x2)] [.inl (-4)] Z (zri Q))
    refine z_goto (t := 21) (by rfl) (by rfl) (?_ : TZ d 156 21 [some (.inl x0), some (.inl x1), some (.inl x2)] [.inl (-4)] Z (zri Q))
    exact z_reti (by rfl) (by rfl) v
theorem w157_0 {d : Nat} {x1 : Int} {Z : zM} {Q : Int → zM → Prop}
    (v : zR x1 ∧
      (x1 < 0 → Q 0 Z) ∧
      (¬ x1 < 0 → (zR x1 ∧
          zR (Z 100 6) ∧
          ((Z 100 6) ≤ x1 → Q 0 Z) ∧
          (¬ (Z 100 6) ≤ x1 → Q 1 Z)))) :
    TZ d 157 0 [some (.inr 100), some (.inl x1)] [] Z (zri Q) := by
  refine z0 (op := 3) (a := 1) (b := 0) (by rfl) (by rfl) (?_ : TZ d 157 1 [some (.inr 100), some (.inl x1)] [.inl x1] Z (zri Q))
  obtain ⟨c1, v1, v2⟩ := v
  refine z_if0 (a := 2) (t := 16) (by rfl) (by rfl) c1 (fun h2 => ?_) (fun h2 => ?_)
  · have v := v1 h2; clear v1 v2
    show TZ d 157 16 [some (.inr 100), some (.inl x1)] [] Z (zri Q)
    refine z0 (op := 0) (a := 0) (b := 0) (by rfl) (by rfl) (?_ : TZ d 157 17 [some (.inr 100), some (.inl x1)] [.inl 0] Z (zri Q))
    exact z_retb (by rfl) (by rfl) (by decide) v
  · have v := v2 h2; clear v1 v2
    show TZ d 157 4 [some (.inr 100), some (.inl x1)] [] Z (zri Q)
    refine z0 (op := 3) (a := 1) (b := 0) (by rfl) (by rfl) (?_ : TZ d 157 5 [some (.inr 100), some (.inl x1)] [.inl x1] Z (zri Q))
    refine z0 (op := 5) (a := 0) (b := 0) (by rfl) (by rfl) (?_ : TZ d 157 6 [some (.inr 100), some (.inl x1)] [.inr 100, .inl x1] Z (zri Q))
    refine z_fi (by rfl) fi110_100 (?_ : TZ d 157 9 [some (.inr 100), some (.inl x1)] [.inl (Z 100 6), .inl x1] Z (zri Q))
    obtain ⟨c3, c4, v1, v2⟩ := v
    refine z_if2 (a := 3) (t := 16) (by rfl) (by rfl) c3 c4 (fun h5 => ?_) (fun h5 => ?_)
    · have v := v1 h5; clear v1 v2
      show TZ d 157 16 [some (.inr 100), some (.inl x1)] [] Z (zri Q)
      refine z0 (op := 0) (a := 0) (b := 0) (by rfl) (by rfl) (?_ : TZ d 157 17 [some (.inr 100), some (.inl x1)] [.inl 0] Z (zri Q))
      exact z_retb (by rfl) (by rfl) (by decide) v
    · have v := v2 h5; clear v1 v2
      show TZ d 157 12 [some (.inr 100), some (.inl x1)] [] Z (zri Q)
      refine z0 (op := 0) (a := 0) (b := 1) (by rfl) (by rfl) (?_ : TZ d 157 13 [some (.inr 100), some (.inl x1)] [.inl 1] Z (zri Q))
      refine z_goto (t := 17) (by rfl) (by rfl) (?_ : TZ d 157 17 [some (.inr 100), some (.inl x1)] [.inl 1] Z (zri Q))
      exact z_retb (by rfl) (by rfl) (by decide) v
theorem w158_0 {d : Nat} {x1 : Int} {Z : zM} {Q : Int → zM → Prop}
    (v : zR x1 ∧
      (x1 < 0 → Q 0 Z) ∧
      (¬ x1 < 0 → (zR x1 ∧
          zR (Z 100 5) ∧
          ((Z 100 5) ≤ x1 → Q 0 Z) ∧
          (¬ (Z 100 5) ≤ x1 → Q 1 Z)))) :
    TZ d 158 0 [some (.inr 100), some (.inl x1)] [] Z (zri Q) := by
  refine z0 (op := 3) (a := 1) (b := 0) (by rfl) (by rfl) (?_ : TZ d 158 1 [some (.inr 100), some (.inl x1)] [.inl x1] Z (zri Q))
  obtain ⟨c1, v1, v2⟩ := v
  refine z_if0 (a := 2) (t := 16) (by rfl) (by rfl) c1 (fun h2 => ?_) (fun h2 => ?_)
  · have v := v1 h2; clear v1 v2
    show TZ d 158 16 [some (.inr 100), some (.inl x1)] [] Z (zri Q)
    refine z0 (op := 0) (a := 0) (b := 0) (by rfl) (by rfl) (?_ : TZ d 158 17 [some (.inr 100), some (.inl x1)] [.inl 0] Z (zri Q))
    exact z_retb (by rfl) (by rfl) (by decide) v
  · have v := v2 h2; clear v1 v2
    show TZ d 158 4 [some (.inr 100), some (.inl x1)] [] Z (zri Q)
    refine z0 (op := 3) (a := 1) (b := 0) (by rfl) (by rfl) (?_ : TZ d 158 5 [some (.inr 100), some (.inl x1)] [.inl x1] Z (zri Q))
    refine z0 (op := 5) (a := 0) (b := 0) (by rfl) (by rfl) (?_ : TZ d 158 6 [some (.inr 100), some (.inl x1)] [.inr 100, .inl x1] Z (zri Q))
    refine z_fi (by rfl) fi111_100 (?_ : TZ d 158 9 [some (.inr 100), some (.inl x1)] [.inl (Z 100 5), .inl x1] Z (zri Q))
    obtain ⟨c3, c4, v1, v2⟩ := v
    refine z_if2 (a := 3) (t := 16) (by rfl) (by rfl) c3 c4 (fun h5 => ?_) (fun h5 => ?_)
    · have v := v1 h5; clear v1 v2
      show TZ d 158 16 [some (.inr 100), some (.inl x1)] [] Z (zri Q)
      refine z0 (op := 0) (a := 0) (b := 0) (by rfl) (by rfl) (?_ : TZ d 158 17 [some (.inr 100), some (.inl x1)] [.inl 0] Z (zri Q))
      exact z_retb (by rfl) (by rfl) (by decide) v
    · have v := v2 h5; clear v1 v2
      show TZ d 158 12 [some (.inr 100), some (.inl x1)] [] Z (zri Q)
      refine z0 (op := 0) (a := 0) (b := 1) (by rfl) (by rfl) (?_ : TZ d 158 13 [some (.inr 100), some (.inl x1)] [.inl 1] Z (zri Q))
      refine z_goto (t := 17) (by rfl) (by rfl) (?_ : TZ d 158 17 [some (.inr 100), some (.inl x1)] [.inl 1] Z (zri Q))
      exact z_retb (by rfl) (by rfl) (by decide) v
theorem w159_0 {d : Nat} {x1 : Int} {Z : zM} {Q : Int → zM → Prop}
    (v : TZ d 159 4 [some (.inr 100), some (.inl x1), some (.inl 0), some (.inl 0)] [] Z (zri Q)) :
    TZ d 159 0 [some (.inr 100), some (.inl x1), none, none] [] Z (zri Q) := by
  refine z0 (op := 0) (a := 0) (b := 0) (by rfl) (by rfl) (?_ : TZ d 159 1 [some (.inr 100), some (.inl x1), none, none] [.inl 0] Z (zri Q))
  refine z0 (op := 7) (a := 2) (b := 0) (by rfl) (by rfl) (?_ : TZ d 159 2 [some (.inr 100), some (.inl x1), some (.inl 0), none] [] Z (zri Q))
  refine z0 (op := 0) (a := 0) (b := 0) (by rfl) (by rfl) (?_ : TZ d 159 3 [some (.inr 100), some (.inl x1), some (.inl 0), none] [.inl 0] Z (zri Q))
  refine z0 (op := 7) (a := 3) (b := 0) (by rfl) (by rfl) (?_ : TZ d 159 4 [some (.inr 100), some (.inl x1), some (.inl 0), some (.inl 0)] [] Z (zri Q))
  exact v
theorem w159_4 {d : Nat} {x1 x2 x3 : Int} {Z : zM} {Q : Int → zM → Prop}
    (v : zR x3 ∧
      zR (Z 100 5) ∧
      ((Z 100 5) ≤ x3 → Q x2 Z) ∧
      (¬ (Z 100 5) ≤ x3 → ((0 ≤ x3 ∧ x3 < 8) ∧
          zR (Z 105 x3) ∧
          zR x1 ∧
          ((Z 105 x3) ≠ x1 → TZ d 159 4 [some (.inr 100), some (.inl x1), some (.inl (x2 + 0)), some (.inl (x3 + 1))] [] Z (zri Q)) ∧
          (¬ (Z 105 x3) ≠ x1 → TZ d 159 4 [some (.inr 100), some (.inl x1), some (.inl (x2 + 1)), some (.inl (x3 + 1))] [] Z (zri Q))))) :
    TZ d 159 4 [some (.inr 100), some (.inl x1), some (.inl x2), some (.inl x3)] [] Z (zri Q) := by
  refine z0 (op := 3) (a := 3) (b := 0) (by rfl) (by rfl) (?_ : TZ d 159 5 [some (.inr 100), some (.inl x1), some (.inl x2), some (.inl x3)] [.inl x3] Z (zri Q))
  refine z0 (op := 5) (a := 0) (b := 0) (by rfl) (by rfl) (?_ : TZ d 159 6 [some (.inr 100), some (.inl x1), some (.inl x2), some (.inl x3)] [.inr 100, .inl x3] Z (zri Q))
  refine z_fi (by rfl) fi111_100 (?_ : TZ d 159 9 [some (.inr 100), some (.inl x1), some (.inl x2), some (.inl x3)] [.inl (Z 100 5), .inl x3] Z (zri Q))
  obtain ⟨c1, c2, v1, v2⟩ := v
  refine z_if2 (a := 3) (t := 36) (by rfl) (by rfl) c1 c2 (fun h3 => ?_) (fun h3 => ?_)
  · have v := v1 h3; clear v1 v2
    show TZ d 159 36 [some (.inr 100), some (.inl x1), some (.inl x2), some (.inl x3)] [] Z (zri Q)
    refine z0 (op := 3) (a := 2) (b := 0) (by rfl) (by rfl) (?_ : TZ d 159 37 [some (.inr 100), some (.inl x1), some (.inl x2), some (.inl x3)] [.inl x2] Z (zri Q))
    exact z_reti (by rfl) (by rfl) v
  · have v := v2 h3; clear v1 v2
    show TZ d 159 12 [some (.inr 100), some (.inl x1), some (.inl x2), some (.inl x3)] [] Z (zri Q)
    refine z0 (op := 3) (a := 2) (b := 0) (by rfl) (by rfl) (?_ : TZ d 159 13 [some (.inr 100), some (.inl x1), some (.inl x2), some (.inl x3)] [.inl x2] Z (zri Q))
    refine z0 (op := 5) (a := 0) (b := 0) (by rfl) (by rfl) (?_ : TZ d 159 14 [some (.inr 100), some (.inl x1), some (.inl x2), some (.inl x3)] [.inr 100, .inl x2] Z (zri Q))
    refine z_fr (by rfl) fr92_100 (?_ : TZ d 159 17 [some (.inr 100), some (.inl x1), some (.inl x2), some (.inl x3)] [.inr 105, .inl x2] Z (zri Q))
    refine z0 (op := 3) (a := 3) (b := 0) (by rfl) (by rfl) (?_ : TZ d 159 18 [some (.inr 100), some (.inl x1), some (.inl x2), some (.inl x3)] [.inl x3, .inr 105, .inl x2] Z (zri Q))
    obtain ⟨c4, v⟩ := v
    refine z_al (by rfl) ln_105 c4 (?_ : TZ d 159 19 [some (.inr 100), some (.inl x1), some (.inl x2), some (.inl x3)] [.inl (Z 105 x3), .inl x2] Z (zri Q))
    refine z0 (op := 3) (a := 1) (b := 0) (by rfl) (by rfl) (?_ : TZ d 159 20 [some (.inr 100), some (.inl x1), some (.inl x2), some (.inl x3)] [.inl x1, .inl (Z 105 x3), .inl x2] Z (zri Q))
    obtain ⟨c5, c6, v1, v2⟩ := v
    refine z_if2 (a := 1) (t := 27) (by rfl) (by rfl) c5 c6 (fun h7 => ?_) (fun h7 => ?_)
    · have v := v1 h7; clear v1 v2
      show TZ d 159 27 [some (.inr 100), some (.inl x1), some (.inl x2), some (.inl x3)] [.inl x2] Z (zri Q)
      refine z0 (op := 0) (a := 0) (b := 0) (by rfl) (by rfl) (?_ : TZ d 159 28 [some (.inr 100), some (.inl x1), some (.inl x2), some (.inl x3)] [.inl 0, .inl x2] Z (zri Q))
      refine z0 (op := 12) (a := 0) (b := 0) (by rfl) (by rfl) (?_ : TZ d 159 29 [some (.inr 100), some (.inl x1), some (.inl x2), some (.inl x3)] [.inl (x2 + 0)] Z (zri Q))
      refine z0 (op := 7) (a := 2) (b := 0) (by rfl) (by rfl) (?_ : TZ d 159 30 [some (.inr 100), some (.inl x1), some (.inl (x2 + 0)), some (.inl x3)] [] Z (zri Q))
      refine z0 (op := 11) (a := 3) (b := 1) (by rfl) (by rfl) (?_ : TZ d 159 33 [some (.inr 100), some (.inl x1), some (.inl (x2 + 0)), some (.inl (x3 + 1))] [] Z (zri Q))
      refine z_goto (t := 4) (by rfl) (by rfl) (?_ : TZ d 159 4 [some (.inr 100), some (.inl x1), some (.inl (x2 + 0)), some (.inl (x3 + 1))] [] Z (zri Q))
      exact v
    · have v := v2 h7; clear v1 v2
      show TZ d 159 23 [some (.inr 100), some (.inl x1), some (.inl x2), some (.inl x3)] [.inl x2] Z (zri Q)
      refine z0 (op := 0) (a := 0) (b := 1) (by rfl) (by rfl) (?_ : TZ d 159 24 [some (.inr 100), some (.inl x1), some (.inl x2), some (.inl x3)] [.inl 1, .inl x2] Z (zri Q))
      refine z_goto (t := 28) (by rfl) (by rfl) (?_ : TZ d 159 28 [some (.inr 100), some (.inl x1), some (.inl x2), some (.inl x3)] [.inl 1, .inl x2] Z (zri Q))
      refine z0 (op := 12) (a := 0) (b := 0) (by rfl) (by rfl) (?_ : TZ d 159 29 [some (.inr 100), some (.inl x1), some (.inl x2), some (.inl x3)] [.inl (x2 + 1)] Z (zri Q))
      refine z0 (op := 7) (a := 2) (b := 0) (by rfl) (by rfl) (?_ : TZ d 159 30 [some (.inr 100), some (.inl x1), some (.inl (x2 + 1)), some (.inl x3)] [] Z (zri Q))
      refine z0 (op := 11) (a := 3) (b := 1) (by rfl) (by rfl) (?_ : TZ d 159 33 [some (.inr 100), some (.inl x1), some (.inl (x2 + 1)), some (.inl (x3 + 1))] [] Z (zri Q))
      refine z_goto (t := 4) (by rfl) (by rfl) (?_ : TZ d 159 4 [some (.inr 100), some (.inl x1), some (.inl (x2 + 1)), some (.inl (x3 + 1))] [] Z (zri Q))
      exact v
theorem w160_0 {d : Nat} {x1 : Int} {Z : zM} {Q : Int → zM → Prop}
    (v : TI d 159 [.inr 100, .inl x1] Z (fun r2 Z1 =>
      zR r2 ∧
        (4 ≤ r2 → Q 0 Z1) ∧
        (¬ 4 ≤ r2 → Q 1 Z1))) :
    TZ (d + 1) 160 0 [some (.inr 100), some (.inl x1)] [] Z (zri Q) := by
  refine z0 (op := 5) (a := 0) (b := 0) (by rfl) (by rfl) (?_ : TZ (d + 1) 160 1 [some (.inr 100), some (.inl x1)] [.inr 100] Z (zri Q))
  refine z0 (op := 3) (a := 1) (b := 0) (by rfl) (by rfl) (?_ : TZ (d + 1) 160 2 [some (.inr 100), some (.inl x1)] [.inl x1, .inr 100] Z (zri Q))
  refine z_vi (by rfl) (by rfl) cl_100 (TI.mono v fun r2 Z1 v => ?_)
  show TZ (d + 1) 160 5 [some (.inr 100), some (.inl x1)] [.inl r2] Z1 (zri Q)
  refine z0 (op := 0) (a := 0) (b := 4) (by rfl) (by rfl) (?_ : TZ (d + 1) 160 6 [some (.inr 100), some (.inl x1)] [.inl 4, .inl r2] Z1 (zri Q))
  obtain ⟨c3, v1, v2⟩ := v
  refine z_if2 (a := 3) (t := 13) (by rfl) (by rfl) c3 (by decide) (fun h4 => ?_) (fun h4 => ?_)
  · have v := v1 h4; clear v1 v2
    show TZ (d + 1) 160 13 [some (.inr 100), some (.inl x1)] [] Z1 (zri Q)
    refine z0 (op := 0) (a := 0) (b := 0) (by rfl) (by rfl) (?_ : TZ (d + 1) 160 14 [some (.inr 100), some (.inl x1)] [.inl 0] Z1 (zri Q))
    exact z_retb (by rfl) (by rfl) (by decide) v
  · have v := v2 h4; clear v1 v2
    show TZ (d + 1) 160 9 [some (.inr 100), some (.inl x1)] [] Z1 (zri Q)
    refine z0 (op := 0) (a := 0) (b := 1) (by rfl) (by rfl) (?_ : TZ (d + 1) 160 10 [some (.inr 100), some (.inl x1)] [.inl 1] Z1 (zri Q))
    refine z_goto (t := 14) (by rfl) (by rfl) (?_ : TZ (d + 1) 160 14 [some (.inr 100), some (.inl x1)] [.inl 1] Z1 (zri Q))
    exact z_retb (by rfl) (by rfl) (by decide) v
theorem w161_0 {d : Nat} {Z : zM} {Q : Int → zM → Prop}
    (v : TZ d 161 4 [some (.inr 100), some (.inl 0), some (.inl 0)] [] Z (zri Q)) :
    TZ d 161 0 [some (.inr 100), none, none] [] Z (zri Q) := by
  refine z0 (op := 0) (a := 0) (b := 0) (by rfl) (by rfl) (?_ : TZ d 161 1 [some (.inr 100), none, none] [.inl 0] Z (zri Q))
  refine z0 (op := 7) (a := 1) (b := 0) (by rfl) (by rfl) (?_ : TZ d 161 2 [some (.inr 100), some (.inl 0), none] [] Z (zri Q))
  refine z0 (op := 0) (a := 0) (b := 0) (by rfl) (by rfl) (?_ : TZ d 161 3 [some (.inr 100), some (.inl 0), none] [.inl 0] Z (zri Q))
  refine z0 (op := 7) (a := 2) (b := 0) (by rfl) (by rfl) (?_ : TZ d 161 4 [some (.inr 100), some (.inl 0), some (.inl 0)] [] Z (zri Q))
  exact v
theorem w161_4 {d : Nat} {x1 x2 : Int} {Z : zM} {Q : Int → zM → Prop}
    (v : zR x2 ∧
      zR (Z 100 5) ∧
      ((Z 100 5) ≤ x2 → (zR x1 ∧ Q (Int.tmod x1 12) Z)) ∧
      (¬ (Z 100 5) ≤ x2 → ((0 ≤ x2 ∧ x2 < 8) ∧
          zR (Z 105 x2) ∧
          (0 ≤ (Z 105 x2) → ((0 ≤ x2 ∧ x2 < 8) ∧
              (0 ≤ (Z 105 x2) ∧ (Z 105 x2) < 6) ∧ TZ d 161 4 [some (.inr 100), some (.inl (x1 + (Z 102 (Z 105 x2)))), some (.inl (x2 + 1))] [] Z (zri Q))) ∧
          (¬ 0 ≤ (Z 105 x2) → TZ d 161 4 [some (.inr 100), some (.inl (x1 + 0)), some (.inl (x2 + 1))] [] Z (zri Q))))) :
    TZ d 161 4 [some (.inr 100), some (.inl x1), some (.inl x2)] [] Z (zri Q) := by
  refine z0 (op := 3) (a := 2) (b := 0) (by rfl) (by rfl) (?_ : TZ d 161 5 [some (.inr 100), some (.inl x1), some (.inl x2)] [.inl x2] Z (zri Q))
  refine z0 (op := 5) (a := 0) (b := 0) (by rfl) (by rfl) (?_ : TZ d 161 6 [some (.inr 100), some (.inl x1), some (.inl x2)] [.inr 100, .inl x2] Z (zri Q))
  refine z_fi (by rfl) fi111_100 (?_ : TZ d 161 9 [some (.inr 100), some (.inl x1), some (.inl x2)] [.inl (Z 100 5), .inl x2] Z (zri Q))
  obtain ⟨c1, c2, v1, v2⟩ := v
  refine z_if2 (a := 3) (t := 45) (by rfl) (by rfl) c1 c2 (fun h3 => ?_) (fun h3 => ?_)
  · have v := v1 h3; clear v1 v2
    show TZ d 161 45 [some (.inr 100), some (.inl x1), some (.inl x2)] [] Z (zri Q)
    refine z0 (op := 3) (a := 1) (b := 0) (by rfl) (by rfl) (?_ : TZ d 161 46 [some (.inr 100), some (.inl x1), some (.inl x2)] [.inl x1] Z (zri Q))
    refine z0 (op := 1) (a := 0) (b := 12) (by rfl) (by rfl) (?_ : TZ d 161 48 [some (.inr 100), some (.inl x1), some (.inl x2)] [.inl 12, .inl x1] Z (zri Q))
    obtain ⟨c4, v⟩ := v
    refine z_rem (by rfl) c4 (by decide) (?_ : TZ d 161 49 [some (.inr 100), some (.inl x1), some (.inl x2)] [.inl (Int.tmod x1 12)] Z (zri Q))
    exact z_reti (by rfl) (by rfl) v
  · have v := v2 h3; clear v1 v2
    show TZ d 161 12 [some (.inr 100), some (.inl x1), some (.inl x2)] [] Z (zri Q)
    refine z0 (op := 3) (a := 1) (b := 0) (by rfl) (by rfl) (?_ : TZ d 161 13 [some (.inr 100), some (.inl x1), some (.inl x2)] [.inl x1] Z (zri Q))
    refine z0 (op := 5) (a := 0) (b := 0) (by rfl) (by rfl) (?_ : TZ d 161 14 [some (.inr 100), some (.inl x1), some (.inl x2)] [.inr 100, .inl x1] Z (zri Q))
    refine z_fr (by rfl) fr92_100 (?_ : TZ d 161 17 [some (.inr 100), some (.inl x1), some (.inl x2)] [.inr 105, .inl x1] Z (zri Q))
    refine z0 (op := 3) (a := 2) (b := 0) (by rfl) (by rfl) (?_ : TZ d 161 18 [some (.inr 100), some (.inl x1), some (.inl x2)] [.inl x2, .inr 105, .inl x1] Z (zri Q))
    obtain ⟨c5, v⟩ := v
    refine z_al (by rfl) ln_105 c5 (?_ : TZ d 161 19 [some (.inr 100), some (.inl x1), some (.inl x2)] [.inl (Z 105 x2), .inl x1] Z (zri Q))
    obtain ⟨c6, v1, v2⟩ := v
    refine z_if0 (a := 3) (t := 26) (by rfl) (by rfl) c6 (fun h7 => ?_) (fun h7 => ?_)
    · have v := v1 h7; clear v1 v2
      show TZ d 161 26 [some (.inr 100), some (.inl x1), some (.inl x2)] [.inl x1] Z (zri Q)
      refine z0 (op := 5) (a := 0) (b := 0) (by rfl) (by rfl) (?_ : TZ d 161 27 [some (.inr 100), some (.inl x1), some (.inl x2)] [.inr 100, .inl x1] Z (zri Q))
      refine z_fr (by rfl) fr89_100 (?_ : TZ d 161 30 [some (.inr 100), some (.inl x1), some (.inl x2)] [.inr 102, .inl x1] Z (zri Q))
      refine z0 (op := 5) (a := 0) (b := 0) (by rfl) (by rfl) (?_ : TZ d 161 31 [some (.inr 100), some (.inl x1), some (.inl x2)] [.inr 100, .inr 102, .inl x1] Z (zri Q))
      refine z_fr (by rfl) fr92_100 (?_ : TZ d 161 34 [some (.inr 100), some (.inl x1), some (.inl x2)] [.inr 105, .inr 102, .inl x1] Z (zri Q))
      refine z0 (op := 3) (a := 2) (b := 0) (by rfl) (by rfl) (?_ : TZ d 161 35 [some (.inr 100), some (.inl x1), some (.inl x2)] [.inl x2, .inr 105, .inr 102, .inl x1] Z (zri Q))
      obtain ⟨c8, v⟩ := v
      refine z_al (by rfl) ln_105 c8 (?_ : TZ d 161 36 [some (.inr 100), some (.inl x1), some (.inl x2)] [.inl (Z 105 x2), .inr 102, .inl x1] Z (zri Q))
      obtain ⟨c9, v⟩ := v
      refine z_al (by rfl) ln_102 c9 (?_ : TZ d 161 37 [some (.inr 100), some (.inl x1), some (.inl x2)] [.inl (Z 102 (Z 105 x2)), .inl x1] Z (zri Q))
      refine z0 (op := 12) (a := 0) (b := 0) (by rfl) (by rfl) (?_ : TZ d 161 38 [some (.inr 100), some (.inl x1), some (.inl x2)] [.inl (x1 + (Z 102 (Z 105 x2)))] Z (zri Q))
      refine z0 (op := 7) (a := 1) (b := 0) (by rfl) (by rfl) (?_ : TZ d 161 39 [some (.inr 100), some (.inl (x1 + (Z 102 (Z 105 x2)))), some (.inl x2)] [] Z (zri Q))
      refine z0 (op := 11) (a := 2) (b := 1) (by rfl) (by rfl) (?_ : TZ d 161 42 [some (.inr 100), some (.inl (x1 + (Z 102 (Z 105 x2)))), some (.inl (x2 + 1))] [] Z (zri Q))
      refine z_goto (t := 4) (by rfl) (by rfl) (?_ : TZ d 161 4 [some (.inr 100), some (.inl (x1 + (Z 102 (Z 105 x2)))), some (.inl (x2 + 1))] [] Z (zri Q))
      exact v
    · have v := v2 h7; clear v1 v2
      show TZ d 161 22 [some (.inr 100), some (.inl x1), some (.inl x2)] [.inl x1] Z (zri Q)
      refine z0 (op := 0) (a := 0) (b := 0) (by rfl) (by rfl) (?_ : TZ d 161 23 [some (.inr 100), some (.inl x1), some (.inl x2)] [.inl 0, .inl x1] Z (zri Q))
      refine z_goto (t := 37) (by rfl) (by rfl) (?_ : TZ d 161 37 [some (.inr 100), some (.inl x1), some (.inl x2)] [.inl 0, .inl x1] Z (zri Q))
      refine z0 (op := 12) (a := 0) (b := 0) (by rfl) (by rfl) (?_ : TZ d 161 38 [some (.inr 100), some (.inl x1), some (.inl x2)] [.inl (x1 + 0)] Z (zri Q))
      refine z0 (op := 7) (a := 1) (b := 0) (by rfl) (by rfl) (?_ : TZ d 161 39 [some (.inr 100), some (.inl (x1 + 0)), some (.inl x2)] [] Z (zri Q))
      refine z0 (op := 11) (a := 2) (b := 1) (by rfl) (by rfl) (?_ : TZ d 161 42 [some (.inr 100), some (.inl (x1 + 0)), some (.inl (x2 + 1))] [] Z (zri Q))
      refine z_goto (t := 4) (by rfl) (by rfl) (?_ : TZ d 161 4 [some (.inr 100), some (.inl (x1 + 0)), some (.inl (x2 + 1))] [] Z (zri Q))
      exact v
theorem w162_0 {d : Nat} {Z : zM} {Q : Int → zM → Prop}
    (v : TI d 161 [.inr 100] Z (fun r2 Z1 =>
      zR (Z1 100 7) ∧
        zR (r2 - (Int.tmod (Z1 100 7) 12)) ∧
        (0 ≤ (r2 - (Int.tmod (Z1 100 7) 12)) → (zR (r2 - (Int.tmod (Z1 100 7) 12)) ∧
            ((r2 - (Int.tmod (Z1 100 7) 12)) ≤ 6 → Q (r2 - (Int.tmod (Z1 100 7) 12)) Z1) ∧
            (¬ (r2 - (Int.tmod (Z1 100 7) 12)) ≤ 6 → Q (12 - (r2 - (Int.tmod (Z1 100 7) 12))) Z1))) ∧
        (¬ 0 ≤ (r2 - (Int.tmod (Z1 100 7) 12)) → (zR (-(r2 - (Int.tmod (Z1 100 7) 12))) ∧
            ((-(r2 - (Int.tmod (Z1 100 7) 12))) ≤ 6 → Q (-(r2 - (Int.tmod (Z1 100 7) 12))) Z1) ∧
            (¬ (-(r2 - (Int.tmod (Z1 100 7) 12))) ≤ 6 → Q (12 - (-(r2 - (Int.tmod (Z1 100 7) 12)))) Z1))))) :
    TZ (d + 1) 162 0 [some (.inr 100), none] [] Z (zri Q) := by
  refine z0 (op := 5) (a := 0) (b := 0) (by rfl) (by rfl) (?_ : TZ (d + 1) 162 1 [some (.inr 100), none] [.inr 100] Z (zri Q))
  refine z_vi (by rfl) (by rfl) cl_100 (TI.mono v fun r2 Z1 v => ?_)
  show TZ (d + 1) 162 4 [some (.inr 100), none] [.inl r2] Z1 (zri Q)
  refine z0 (op := 5) (a := 0) (b := 0) (by rfl) (by rfl) (?_ : TZ (d + 1) 162 5 [some (.inr 100), none] [.inr 100, .inl r2] Z1 (zri Q))
  refine z_fi (by rfl) fi112_100 (?_ : TZ (d + 1) 162 8 [some (.inr 100), none] [.inl (Z1 100 7), .inl r2] Z1 (zri Q))
  refine z0 (op := 1) (a := 0) (b := 12) (by rfl) (by rfl) (?_ : TZ (d + 1) 162 10 [some (.inr 100), none] [.inl 12, .inl (Z1 100 7), .inl r2] Z1 (zri Q))
  obtain ⟨c3, v⟩ := v
  refine z_rem (by rfl) c3 (by decide) (?_ : TZ (d + 1) 162 11 [some (.inr 100), none] [.inl (Int.tmod (Z1 100 7) 12), .inl r2] Z1 (zri Q))
  refine z0 (op := 12) (a := 1) (b := 0) (by rfl) (by rfl) (?_ : TZ (d + 1) 162 12 [some (.inr 100), none] [.inl (r2 - (Int.tmod (Z1 100 7) 12))] Z1 (zri Q))
  refine z0 (op := 7) (a := 1) (b := 0) (by rfl) (by rfl) (?_ : TZ (d + 1) 162 13 [some (.inr 100), some (.inl (r2 - (Int.tmod (Z1 100 7) 12)))] [] Z1 (zri Q))
  refine z0 (op := 3) (a := 1) (b := 0) (by rfl) (by rfl) (?_ : TZ (d + 1) 162 14 [some (.inr 100), some (.inl (r2 - (Int.tmod (Z1 100 7) 12)))] [.inl (r2 - (Int.tmod (Z1 100 7) 12))] Z1 (zri Q))
  obtain ⟨c4, v1, v2⟩ := v
  refine z_if0 (a := 3) (t := 22) (by rfl) (by rfl) c4 (fun h5 => ?_) (fun h5 => ?_)
  · have v := v1 h5; clear v1 v2
    show TZ (d + 1) 162 22 [some (.inr 100), some (.inl (r2 - (Int.tmod (Z1 100 7) 12)))] [] Z1 (zri Q)
    refine z0 (op := 3) (a := 1) (b := 0) (by rfl) (by rfl) (?_ : TZ (d + 1) 162 23 [some (.inr 100), some (.inl (r2 - (Int.tmod (Z1 100 7) 12)))] [.inl (r2 - (Int.tmod (Z1 100 7) 12))] Z1 (zri Q))
    refine z0 (op := 7) (a := 1) (b := 0) (by rfl) (by rfl) (?_ : TZ (d + 1) 162 24 [some (.inr 100), some (.inl (r2 - (Int.tmod (Z1 100 7) 12)))] [] Z1 (zri Q))
    refine z0 (op := 3) (a := 1) (b := 0) (by rfl) (by rfl) (?_ : TZ (d + 1) 162 25 [some (.inr 100), some (.inl (r2 - (Int.tmod (Z1 100 7) 12)))] [.inl (r2 - (Int.tmod (Z1 100 7) 12))] Z1 (zri Q))
    refine z0 (op := 1) (a := 0) (b := 6) (by rfl) (by rfl) (?_ : TZ (d + 1) 162 27 [some (.inr 100), some (.inl (r2 - (Int.tmod (Z1 100 7) 12)))] [.inl 6, .inl (r2 - (Int.tmod (Z1 100 7) 12))] Z1 (zri Q))
    obtain ⟨c6, v1, v2⟩ := v
    refine z_if2 (a := 5) (t := 37) (by rfl) (by rfl) c6 (by decide) (fun h7 => ?_) (fun h7 => ?_)
    · have v := v1 h7; clear v1 v2
      show TZ (d + 1) 162 37 [some (.inr 100), some (.inl (r2 - (Int.tmod (Z1 100 7) 12)))] [] Z1 (zri Q)
      refine z0 (op := 3) (a := 1) (b := 0) (by rfl) (by rfl) (?_ : TZ (d + 1) 162 38 [some (.inr 100), some (.inl (r2 - (Int.tmod (Z1 100 7) 12)))] [.inl (r2 - (Int.tmod (Z1 100 7) 12))] Z1 (zri Q))
      exact z_reti (by rfl) (by rfl) v
    · have v := v2 h7; clear v1 v2
      show TZ (d + 1) 162 30 [some (.inr 100), some (.inl (r2 - (Int.tmod (Z1 100 7) 12)))] [] Z1 (zri Q)
      refine z0 (op := 1) (a := 0) (b := 12) (by rfl) (by rfl) (?_ : TZ (d + 1) 162 32 [some (.inr 100), some (.inl (r2 - (Int.tmod (Z1 100 7) 12)))] [.inl 12] Z1 (zri Q))
      refine z0 (op := 3) (a := 1) (b := 0) (by rfl) (by rfl) (?_ : TZ (d + 1) 162 33 [some (.inr 100), some (.inl (r2 - (Int.tmod (Z1 100 7) 12)))] [.inl (r2 - (Int.tmod (Z1 100 7) 12)), .inl 12] Z1 (zri Q))
      refine z0 (op := 12) (a := 1) (b := 0) (by rfl) (by rfl) (?_ : TZ (d + 1) 162 34 [some (.inr 100), some (.inl (r2 - (Int.tmod (Z1 100 7) 12)))] [.inl (12 - (r2 - (Int.tmod (Z1 100 7) 12)))] Z1 (zri Q))
      refine z_goto (t := 38) (by rfl) (by rfl) (?_ : TZ (d + 1) 162 38 [some (.inr 100), some (.inl (r2 - (Int.tmod (Z1 100 7) 12)))] [.inl (12 - (r2 - (Int.tmod (Z1 100 7) 12)))] Z1 (zri Q))
      exact z_reti (by rfl) (by rfl) v
  · have v := v2 h5; clear v1 v2
    show TZ (d + 1) 162 17 [some (.inr 100), some (.inl (r2 - (Int.tmod (Z1 100 7) 12)))] [] Z1 (zri Q)
    refine z0 (op := 3) (a := 1) (b := 0) (by rfl) (by rfl) (?_ : TZ (d + 1) 162 18 [some (.inr 100), some (.inl (r2 - (Int.tmod (Z1 100 7) 12)))] [.inl (r2 - (Int.tmod (Z1 100 7) 12))] Z1 (zri Q))
    refine z0 (op := 13) (a := 0) (b := 0) (by rfl) (by rfl) (?_ : TZ (d + 1) 162 19 [some (.inr 100), some (.inl (r2 - (Int.tmod (Z1 100 7) 12)))] [.inl (-(r2 - (Int.tmod (Z1 100 7) 12)))] Z1 (zri Q))
    refine z_goto (t := 23) (by rfl) (by rfl) (?_ : TZ (d + 1) 162 23 [some (.inr 100), some (.inl (r2 - (Int.tmod (Z1 100 7) 12)))] [.inl (-(r2 - (Int.tmod (Z1 100 7) 12)))] Z1 (zri Q))
    refine z0 (op := 7) (a := 1) (b := 0) (by rfl) (by rfl) (?_ : TZ (d + 1) 162 24 [some (.inr 100), some (.inl (-(r2 - (Int.tmod (Z1 100 7) 12))))] [] Z1 (zri Q))
    refine z0 (op := 3) (a := 1) (b := 0) (by rfl) (by rfl) (?_ : TZ (d + 1) 162 25 [some (.inr 100), some (.inl (-(r2 - (Int.tmod (Z1 100 7) 12))))] [.inl (-(r2 - (Int.tmod (Z1 100 7) 12)))] Z1 (zri Q))
    refine z0 (op := 1) (a := 0) (b := 6) (by rfl) (by rfl) (?_ : TZ (d + 1) 162 27 [some (.inr 100), some (.inl (-(r2 - (Int.tmod (Z1 100 7) 12))))] [.inl 6, .inl (-(r2 - (Int.tmod (Z1 100 7) 12)))] Z1 (zri Q))
    obtain ⟨c8, v1, v2⟩ := v
    refine z_if2 (a := 5) (t := 37) (by rfl) (by rfl) c8 (by decide) (fun h9 => ?_) (fun h9 => ?_)
    · have v := v1 h9; clear v1 v2
      show TZ (d + 1) 162 37 [some (.inr 100), some (.inl (-(r2 - (Int.tmod (Z1 100 7) 12))))] [] Z1 (zri Q)
      refine z0 (op := 3) (a := 1) (b := 0) (by rfl) (by rfl) (?_ : TZ (d + 1) 162 38 [some (.inr 100), some (.inl (-(r2 - (Int.tmod (Z1 100 7) 12))))] [.inl (-(r2 - (Int.tmod (Z1 100 7) 12)))] Z1 (zri Q))
      exact z_reti (by rfl) (by rfl) v
    · have v := v2 h9; clear v1 v2
      show TZ (d + 1) 162 30 [some (.inr 100), some (.inl (-(r2 - (Int.tmod (Z1 100 7) 12))))] [] Z1 (zri Q)
      refine z0 (op := 1) (a := 0) (b := 12) (by rfl) (by rfl) (?_ : TZ (d + 1) 162 32 [some (.inr 100), some (.inl (-(r2 - (Int.tmod (Z1 100 7) 12))))] [.inl 12] Z1 (zri Q))
      refine z0 (op := 3) (a := 1) (b := 0) (by rfl) (by rfl) (?_ : TZ (d + 1) 162 33 [some (.inr 100), some (.inl (-(r2 - (Int.tmod (Z1 100 7) 12))))] [.inl (-(r2 - (Int.tmod (Z1 100 7) 12))), .inl 12] Z1 (zri Q))
      refine z0 (op := 12) (a := 1) (b := 0) (by rfl) (by rfl) (?_ : TZ (d + 1) 162 34 [some (.inr 100), some (.inl (-(r2 - (Int.tmod (Z1 100 7) 12))))] [.inl (12 - (-(r2 - (Int.tmod (Z1 100 7) 12))))] Z1 (zri Q))
      refine z_goto (t := 38) (by rfl) (by rfl) (?_ : TZ (d + 1) 162 38 [some (.inr 100), some (.inl (-(r2 - (Int.tmod (Z1 100 7) 12))))] [.inl (12 - (-(r2 - (Int.tmod (Z1 100 7) 12))))] Z1 (zri Q))
      exact z_reti (by rfl) (by rfl) v
theorem w163_0 {d : Nat} {x1 : Int} {Z : zM} {Q : Int → zM → Prop}
    (v : TI d 156 [.inl x1, .inl 0, .inl 255] Z (fun r2 Z1 =>
      zR r2 ∧
        (r2 ≠ 0 → (zR r2 ∧
            (r2 = 0 → ((0 ≤ (Z1 100 12) ∧ (Z1 100 12) < 96) ∧
                ∀ Z8, Z8 = zup Z1 106 (Z1 100 12) x1 →
                ∀ Z9, Z9 = zup Z8 100 12 ((Z8 100 12) + 1) →
                Q (Z9 100 12) Z9)) ∧
            (¬ r2 = 0 → TI d 154 [.inr 100, .inl r2] Z1 (fun r11 Z10 =>
                Q r11 Z10)))) ∧
        (¬ r2 ≠ 0 → (zR (Z1 100 12) ∧
            ((Z1 100 12) ≠ 96 → (zR r2 ∧
                (r2 = 0 → ((0 ≤ (Z1 100 12) ∧ (Z1 100 12) < 96) ∧
                    ∀ Z17, Z17 = zup Z1 106 (Z1 100 12) x1 →
                    ∀ Z18, Z18 = zup Z17 100 12 ((Z17 100 12) + 1) →
                    Q (Z18 100 12) Z18)) ∧
                (¬ r2 = 0 → TI d 154 [.inr 100, .inl r2] Z1 (fun r20 Z19 =>
                    Q r20 Z19)))) ∧
            (¬ (Z1 100 12) ≠ 96 → TI d 154 [.inr 100, .inl (-6)] Z1 (fun r22 Z21 =>
                Q r22 Z21)))))) :
    TZ (d + 1) 163 0 [some (.inr 100), some (.inl x1), none] [] Z (zri Q) := by
  refine z0 (op := 3) (a := 1) (b := 0) (by rfl) (by rfl) (?_ : TZ (d + 1) 163 1 [some (.inr 100), some (.inl x1), none] [.inl x1] Z (zri Q))
  refine z0 (op := 0) (a := 0) (b := 0) (by rfl) (by rfl) (?_ : TZ (d + 1) 163 2 [some (.inr 100), some (.inl x1), none] [.inl 0, .inl x1] Z (zri Q))
  refine z0 (op := 2) (a := 0) (b := 255) (by rfl) (by rfl) (?_ : TZ (d + 1) 163 5 [some (.inr 100), some (.inl x1), none] [.inl 255, .inl 0, .inl x1] Z (zri Q))
  refine z_si (by rfl) (by rfl) (TI.mono v fun r2 Z1 v => ?_)
  show TZ (d + 1) 163 8 [some (.inr 100), some (.inl x1), none] [.inl r2] Z1 (zri Q)
  refine z0 (op := 7) (a := 2) (b := 0) (by rfl) (by rfl) (?_ : TZ (d + 1) 163 9 [some (.inr 100), some (.inl x1), some (.inl r2)] [] Z1 (zri Q))
  refine z0 (op := 3) (a := 2) (b := 0) (by rfl) (by rfl) (?_ : TZ (d + 1) 163 10 [some (.inr 100), some (.inl x1), some (.inl r2)] [.inl r2] Z1 (zri Q))
  obtain ⟨c3, v1, v2⟩ := v
  refine z_if0 (a := 1) (t := 25) (by rfl) (by rfl) c3 (fun h4 => ?_) (fun h4 => ?_)
  · have v := v1 h4; clear v1 v2
    show TZ (d + 1) 163 25 [some (.inr 100), some (.inl x1), some (.inl r2)] [] Z1 (zri Q)
    refine z0 (op := 3) (a := 2) (b := 0) (by rfl) (by rfl) (?_ : TZ (d + 1) 163 26 [some (.inr 100), some (.inl x1), some (.inl r2)] [.inl r2] Z1 (zri Q))
    obtain ⟨c5, v1, v2⟩ := v
    refine z_if0 (a := 0) (t := 35) (by rfl) (by rfl) c5 (fun h6 => ?_) (fun h6 => ?_)
    · have v := v1 h6; clear v1 v2
      show TZ (d + 1) 163 35 [some (.inr 100), some (.inl x1), some (.inl r2)] [] Z1 (zri Q)
      refine z0 (op := 5) (a := 0) (b := 0) (by rfl) (by rfl) (?_ : TZ (d + 1) 163 36 [some (.inr 100), some (.inl x1), some (.inl r2)] [.inr 100] Z1 (zri Q))
      refine z_fr (by rfl) fr93_100 (?_ : TZ (d + 1) 163 39 [some (.inr 100), some (.inl x1), some (.inl r2)] [.inr 106] Z1 (zri Q))
      refine z0 (op := 5) (a := 0) (b := 0) (by rfl) (by rfl) (?_ : TZ (d + 1) 163 40 [some (.inr 100), some (.inl x1), some (.inl r2)] [.inr 100, .inr 106] Z1 (zri Q))
      refine z_fi (by rfl) fi113_100 (?_ : TZ (d + 1) 163 43 [some (.inr 100), some (.inl x1), some (.inl r2)] [.inl (Z1 100 12), .inr 106] Z1 (zri Q))
      refine z0 (op := 3) (a := 1) (b := 0) (by rfl) (by rfl) (?_ : TZ (d + 1) 163 44 [some (.inr 100), some (.inl x1), some (.inl r2)] [.inl x1, .inl (Z1 100 12), .inr 106] Z1 (zri Q))
      obtain ⟨c7, v⟩ := v
      obtain ⟨Z8, eZ8⟩ : ∃ q, q = zup Z1 106 (Z1 100 12) x1 := ⟨_, rfl⟩
      have v := v Z8 eZ8
      refine z_as (by rfl) ln_106 c7 ?_
      show TZ (d + 1) 163 45 [some (.inr 100), some (.inl x1), some (.inl r2)] [] (zup Z1 106 (Z1 100 12) x1) _
      rw [← eZ8]
      refine z0 (op := 5) (a := 0) (b := 0) (by rfl) (by rfl) (?_ : TZ (d + 1) 163 46 [some (.inr 100), some (.inl x1), some (.inl r2)] [.inr 100] Z8 (zri Q))
      refine z0 (op := 15) (a := 0) (b := 0) (by rfl) (by rfl) (?_ : TZ (d + 1) 163 47 [some (.inr 100), some (.inl x1), some (.inl r2)] [.inr 100, .inr 100] Z8 (zri Q))
      refine z_fi (by rfl) fi113_100 (?_ : TZ (d + 1) 163 50 [some (.inr 100), some (.inl x1), some (.inl r2)] [.inl (Z8 100 12), .inr 100] Z8 (zri Q))
      refine z0 (op := 0) (a := 0) (b := 1) (by rfl) (by rfl) (?_ : TZ (d + 1) 163 51 [some (.inr 100), some (.inl x1), some (.inl r2)] [.inl 1, .inl (Z8 100 12), .inr 100] Z8 (zri Q))
      refine z0 (op := 12) (a := 0) (b := 0) (by rfl) (by rfl) (?_ : TZ (d + 1) 163 52 [some (.inr 100), some (.inl x1), some (.inl r2)] [.inl ((Z8 100 12) + 1), .inr 100] Z8 (zri Q))
      obtain ⟨Z9, eZ9⟩ : ∃ q, q = zup Z8 100 12 ((Z8 100 12) + 1) := ⟨_, rfl⟩
      have v := v Z9 eZ9
      refine z_pf (by rfl) pf113_100 (fun h => nomatch h) ?_
      show TZ (d + 1) 163 55 [some (.inr 100), some (.inl x1), some (.inl r2)] [] (zup Z8 100 12 ((Z8 100 12) + 1)) _
      rw [← eZ9]
      refine z0 (op := 5) (a := 0) (b := 0) (by rfl) (by rfl) (?_ : TZ (d + 1) 163 56 [some (.inr 100), some (.inl x1), some (.inl r2)] [.inr 100] Z9 (zri Q))
      refine z_fi (by rfl) fi113_100 (?_ : TZ (d + 1) 163 59 [some (.inr 100), some (.inl x1), some (.inl r2)] [.inl (Z9 100 12)] Z9 (zri Q))
      exact z_reti (by rfl) (by rfl) v
    · have v := v2 h6; clear v1 v2
      show TZ (d + 1) 163 29 [some (.inr 100), some (.inl x1), some (.inl r2)] [] Z1 (zri Q)
      refine z0 (op := 5) (a := 0) (b := 0) (by rfl) (by rfl) (?_ : TZ (d + 1) 163 30 [some (.inr 100), some (.inl x1), some (.inl r2)] [.inr 100] Z1 (zri Q))
      refine z0 (op := 3) (a := 2) (b := 0) (by rfl) (by rfl) (?_ : TZ (d + 1) 163 31 [some (.inr 100), some (.inl x1), some (.inl r2)] [.inl r2, .inr 100] Z1 (zri Q))
      refine z_vi (by rfl) (by rfl) cl_100 (TI.mono v fun r11 Z10 v => ?_)
      show TZ (d + 1) 163 34 [some (.inr 100), some (.inl x1), some (.inl r2)] [.inl r11] Z10 (zri Q)
      exact z_reti (by rfl) (by rfl) v
  · have v := v2 h4; clear v1 v2
    show TZ (d + 1) 163 13 [some (.inr 100), some (.inl x1), some (.inl r2)] [] Z1 (zri Q)
    refine z0 (op := 5) (a := 0) (b := 0) (by rfl) (by rfl) (?_ : TZ (d + 1) 163 14 [some (.inr 100), some (.inl x1), some (.inl r2)] [.inr 100] Z1 (zri Q))
    refine z_fi (by rfl) fi113_100 (?_ : TZ (d + 1) 163 17 [some (.inr 100), some (.inl x1), some (.inl r2)] [.inl (Z1 100 12)] Z1 (zri Q))
    refine z0 (op := 1) (a := 0) (b := 96) (by rfl) (by rfl) (?_ : TZ (d + 1) 163 19 [some (.inr 100), some (.inl x1), some (.inl r2)] [.inl 96, .inl (Z1 100 12)] Z1 (zri Q))
    obtain ⟨c12, v1, v2⟩ := v
    refine z_if2 (a := 1) (t := 25) (by rfl) (by rfl) c12 (by decide) (fun h13 => ?_) (fun h13 => ?_)
    · have v := v1 h13; clear v1 v2
      show TZ (d + 1) 163 25 [some (.inr 100), some (.inl x1), some (.inl r2)] [] Z1 (zri Q)
      refine z0 (op := 3) (a := 2) (b := 0) (by rfl) (by rfl) (?_ : TZ (d + 1) 163 26 [some (.inr 100), some (.inl x1), some (.inl r2)] [.inl r2] Z1 (zri Q))
      obtain ⟨c14, v1, v2⟩ := v
      refine z_if0 (a := 0) (t := 35) (by rfl) (by rfl) c14 (fun h15 => ?_) (fun h15 => ?_)
      · have v := v1 h15; clear v1 v2
        show TZ (d + 1) 163 35 [some (.inr 100), some (.inl x1), some (.inl r2)] [] Z1 (zri Q)
        refine z0 (op := 5) (a := 0) (b := 0) (by rfl) (by rfl) (?_ : TZ (d + 1) 163 36 [some (.inr 100), some (.inl x1), some (.inl r2)] [.inr 100] Z1 (zri Q))
        refine z_fr (by rfl) fr93_100 (?_ : TZ (d + 1) 163 39 [some (.inr 100), some (.inl x1), some (.inl r2)] [.inr 106] Z1 (zri Q))
        refine z0 (op := 5) (a := 0) (b := 0) (by rfl) (by rfl) (?_ : TZ (d + 1) 163 40 [some (.inr 100), some (.inl x1), some (.inl r2)] [.inr 100, .inr 106] Z1 (zri Q))
        refine z_fi (by rfl) fi113_100 (?_ : TZ (d + 1) 163 43 [some (.inr 100), some (.inl x1), some (.inl r2)] [.inl (Z1 100 12), .inr 106] Z1 (zri Q))
        refine z0 (op := 3) (a := 1) (b := 0) (by rfl) (by rfl) (?_ : TZ (d + 1) 163 44 [some (.inr 100), some (.inl x1), some (.inl r2)] [.inl x1, .inl (Z1 100 12), .inr 106] Z1 (zri Q))
        obtain ⟨c16, v⟩ := v
        obtain ⟨Z17, eZ17⟩ : ∃ q, q = zup Z1 106 (Z1 100 12) x1 := ⟨_, rfl⟩
        have v := v Z17 eZ17
        refine z_as (by rfl) ln_106 c16 ?_
        show TZ (d + 1) 163 45 [some (.inr 100), some (.inl x1), some (.inl r2)] [] (zup Z1 106 (Z1 100 12) x1) _
        rw [← eZ17]
        refine z0 (op := 5) (a := 0) (b := 0) (by rfl) (by rfl) (?_ : TZ (d + 1) 163 46 [some (.inr 100), some (.inl x1), some (.inl r2)] [.inr 100] Z17 (zri Q))
        refine z0 (op := 15) (a := 0) (b := 0) (by rfl) (by rfl) (?_ : TZ (d + 1) 163 47 [some (.inr 100), some (.inl x1), some (.inl r2)] [.inr 100, .inr 100] Z17 (zri Q))
        refine z_fi (by rfl) fi113_100 (?_ : TZ (d + 1) 163 50 [some (.inr 100), some (.inl x1), some (.inl r2)] [.inl (Z17 100 12), .inr 100] Z17 (zri Q))
        refine z0 (op := 0) (a := 0) (b := 1) (by rfl) (by rfl) (?_ : TZ (d + 1) 163 51 [some (.inr 100), some (.inl x1), some (.inl r2)] [.inl 1, .inl (Z17 100 12), .inr 100] Z17 (zri Q))
        refine z0 (op := 12) (a := 0) (b := 0) (by rfl) (by rfl) (?_ : TZ (d + 1) 163 52 [some (.inr 100), some (.inl x1), some (.inl r2)] [.inl ((Z17 100 12) + 1), .inr 100] Z17 (zri Q))
        obtain ⟨Z18, eZ18⟩ : ∃ q, q = zup Z17 100 12 ((Z17 100 12) + 1) := ⟨_, rfl⟩
        have v := v Z18 eZ18
        refine z_pf (by rfl) pf113_100 (fun h => nomatch h) ?_
        show TZ (d + 1) 163 55 [some (.inr 100), some (.inl x1), some (.inl r2)] [] (zup Z17 100 12 ((Z17 100 12) + 1)) _
        rw [← eZ18]
        refine z0 (op := 5) (a := 0) (b := 0) (by rfl) (by rfl) (?_ : TZ (d + 1) 163 56 [some (.inr 100), some (.inl x1), some (.inl r2)] [.inr 100] Z18 (zri Q))
        refine z_fi (by rfl) fi113_100 (?_ : TZ (d + 1) 163 59 [some (.inr 100), some (.inl x1), some (.inl r2)] [.inl (Z18 100 12)] Z18 (zri Q))
        exact z_reti (by rfl) (by rfl) v
      · have v := v2 h15; clear v1 v2
        show TZ (d + 1) 163 29 [some (.inr 100), some (.inl x1), some (.inl r2)] [] Z1 (zri Q)
        refine z0 (op := 5) (a := 0) (b := 0) (by rfl) (by rfl) (?_ : TZ (d + 1) 163 30 [some (.inr 100), some (.inl x1), some (.inl r2)] [.inr 100] Z1 (zri Q))
        refine z0 (op := 3) (a := 2) (b := 0) (by rfl) (by rfl) (?_ : TZ (d + 1) 163 31 [some (.inr 100), some (.inl x1), some (.inl r2)] [.inl r2, .inr 100] Z1 (zri Q))
        refine z_vi (by rfl) (by rfl) cl_100 (TI.mono v fun r20 Z19 v => ?_)
        show TZ (d + 1) 163 34 [some (.inr 100), some (.inl x1), some (.inl r2)] [.inl r20] Z19 (zri Q)
        exact z_reti (by rfl) (by rfl) v
    · have v := v2 h13; clear v1 v2
      show TZ (d + 1) 163 22 [some (.inr 100), some (.inl x1), some (.inl r2)] [] Z1 (zri Q)
      refine z0 (op := 1) (a := 0) (b := (-6)) (by rfl) (by rfl) (?_ : TZ (d + 1) 163 24 [some (.inr 100), some (.inl x1), some (.inl r2)] [.inl (-6)] Z1 (zri Q))
      refine z0 (op := 7) (a := 2) (b := 0) (by rfl) (by rfl) (?_ : TZ (d + 1) 163 25 [some (.inr 100), some (.inl x1), some (.inl (-6))] [] Z1 (zri Q))
      refine z0 (op := 3) (a := 2) (b := 0) (by rfl) (by rfl) (?_ : TZ (d + 1) 163 26 [some (.inr 100), some (.inl x1), some (.inl (-6))] [.inl (-6)] Z1 (zri Q))
      refine z_if0 (a := 0) (t := 35) (by rfl) (by rfl) (by decide) (fun h => absurd (show ((-6) : Int) = (0 : Int) from h) (by decide)) (fun _ => ?_)
      show TZ (d + 1) 163 29 [some (.inr 100), some (.inl x1), some (.inl (-6))] [] Z1 (zri Q)
      refine z0 (op := 5) (a := 0) (b := 0) (by rfl) (by rfl) (?_ : TZ (d + 1) 163 30 [some (.inr 100), some (.inl x1), some (.inl (-6))] [.inr 100] Z1 (zri Q))
      refine z0 (op := 3) (a := 2) (b := 0) (by rfl) (by rfl) (?_ : TZ (d + 1) 163 31 [some (.inr 100), some (.inl x1), some (.inl (-6))] [.inl (-6), .inr 100] Z1 (zri Q))
      refine z_vi (by rfl) (by rfl) cl_100 (TI.mono v fun r22 Z21 v => ?_)
      show TZ (d + 1) 163 34 [some (.inr 100), some (.inl x1), some (.inl (-6))] [.inl r22] Z21 (zri Q)
      exact z_reti (by rfl) (by rfl) v
theorem w164_0 {d : Nat} {Z : zM} {Q : Int → zM → Prop}
    (v : zR (Z 100 13) ∧
      zR (Z 100 12) ∧
      ((Z 100 12) ≤ (Z 100 13) → Q (-1) Z) ∧
      (¬ (Z 100 12) ≤ (Z 100 13) → ((0 ≤ (Z 100 13) ∧ (Z 100 13) < 96) ∧ Q (Z 106 (Z 100 13)) Z))) :
    TZ d 164 0 [some (.inr 100)] [] Z (zri Q) := by
  refine z0 (op := 5) (a := 0) (b := 0) (by rfl) (by rfl) (?_ : TZ d 164 1 [some (.inr 100)] [.inr 100] Z (zri Q))
  refine z_fi (by rfl) fi114_100 (?_ : TZ d 164 4 [some (.inr 100)] [.inl (Z 100 13)] Z (zri Q))
  refine z0 (op := 5) (a := 0) (b := 0) (by rfl) (by rfl) (?_ : TZ d 164 5 [some (.inr 100)] [.inr 100, .inl (Z 100 13)] Z (zri Q))
  refine z_fi (by rfl) fi113_100 (?_ : TZ d 164 8 [some (.inr 100)] [.inl (Z 100 12), .inl (Z 100 13)] Z (zri Q))
  obtain ⟨c1, c2, v1, v2⟩ := v
  refine z_if2 (a := 3) (t := 23) (by rfl) (by rfl) c1 c2 (fun h3 => ?_) (fun h3 => ?_)
  · have v := v1 h3; clear v1 v2
    show TZ d 164 23 [some (.inr 100)] [] Z (zri Q)
    refine z0 (op := 0) (a := 0) (b := (-1)) (by rfl) (by rfl) (?_ : TZ d 164 24 [some (.inr 100)] [.inl (-1)] Z (zri Q))
    exact z_reti (by rfl) (by rfl) v
  · have v := v2 h3; clear v1 v2
    show TZ d 164 11 [some (.inr 100)] [] Z (zri Q)
    refine z0 (op := 5) (a := 0) (b := 0) (by rfl) (by rfl) (?_ : TZ d 164 12 [some (.inr 100)] [.inr 100] Z (zri Q))
    refine z_fr (by rfl) fr93_100 (?_ : TZ d 164 15 [some (.inr 100)] [.inr 106] Z (zri Q))
    refine z0 (op := 5) (a := 0) (b := 0) (by rfl) (by rfl) (?_ : TZ d 164 16 [some (.inr 100)] [.inr 100, .inr 106] Z (zri Q))
    refine z_fi (by rfl) fi114_100 (?_ : TZ d 164 19 [some (.inr 100)] [.inl (Z 100 13), .inr 106] Z (zri Q))
    obtain ⟨c4, v⟩ := v
    refine z_al (by rfl) ln_106 c4 (?_ : TZ d 164 20 [some (.inr 100)] [.inl (Z 106 (Z 100 13))] Z (zri Q))
    refine z_goto (t := 24) (by rfl) (by rfl) (?_ : TZ d 164 24 [some (.inr 100)] [.inl (Z 106 (Z 100 13))] Z (zri Q))
    exact z_reti (by rfl) (by rfl) v
theorem w165_0 {d : Nat} {x1 x2 : Int} {Z : zM} {Q : Int → zM → Prop}
    (v : TZ d 165 5 [some (.inr 100), some (.inl x1), some (.inl x2), some (.inl 0), some (.inl 0)] [] Z (zri Q)) :
    TZ d 165 0 [some (.inr 100), some (.inl x1), some (.inl x2), none, none] [] Z (zri Q) := by
  refine z0 (op := 0) (a := 0) (b := 0) (by rfl) (by rfl) (?_ : TZ d 165 1 [some (.inr 100), some (.inl x1), some (.inl x2), none, none] [.inl 0] Z (zri Q))
  refine z0 (op := 7) (a := 3) (b := 0) (by rfl) (by rfl) (?_ : TZ d 165 2 [some (.inr 100), some (.inl x1), some (.inl x2), some (.inl 0), none] [] Z (zri Q))
  refine z0 (op := 0) (a := 0) (b := 0) (by rfl) (by rfl) (?_ : TZ d 165 3 [some (.inr 100), some (.inl x1), some (.inl x2), some (.inl 0), none] [.inl 0] Z (zri Q))
  refine z0 (op := 8) (a := 4) (b := 0) (by rfl) (by rfl) (?_ : TZ d 165 5 [some (.inr 100), some (.inl x1), some (.inl x2), some (.inl 0), some (.inl 0)] [] Z (zri Q))
  exact v
