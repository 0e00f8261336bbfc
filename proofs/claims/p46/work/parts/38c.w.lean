/-! what stretches of code need of integers -/
theorem w123_45 {d : Nat} {x1 x2 x3 x5 x6 x7 : Int} {Z : zM} {Q : Int → zM → Prop}
    (v : zR x7 ∧
      (20 < x7 → (zR x2 ∧
          (x2 ≠ 0 → Q x6 Z) ∧
          (¬ x2 ≠ 0 → Q x5 Z))) ∧
      (¬ 20 < x7 → TI d 25 [.inr 19, .inl x1] Z (fun r6 Z5 =>
          (0 ≤ x1 ∧ x1 < 6) ∧
            zR (Z5 23 x1) ∧
            zR x5 ∧
            ((Z5 23 x1) ≤ x5 → TZ (d + 1) 123 45 [some (.inr 0), some (.inl x1), some (.inl x2), some (.inl x3), some (.inr 19), some (.inl x5), some (.inl x6), some (.inl (x7 + 1))] [] Z5 (zri Q)) ∧
            (¬ (Z5 23 x1) ≤ x5 → ((0 ≤ x1 ∧ x1 < 6) ∧ TZ (d + 1) 123 45 [some (.inr 0), some (.inl x1), some (.inl x2), some (.inl x3), some (.inr 19), some (.inl (Z5 23 x1)), some (.inl x7), some (.inl (x7 + 1))] [] Z5 (zri Q)))))) :
    TZ (d + 1) 123 45 [some (.inr 0), some (.inl x1), some (.inl x2), some (.inl x3), some (.inr 19), some (.inl x5), some (.inl x6), some (.inl x7)] [] Z (zri Q) := by
  refine z0 (op := 4) (a := 7) (b := 0) (by rfl) (by rfl) (?_ : TZ (d + 1) 123 47 [some (.inr 0), some (.inl x1), some (.inl x2), some (.inl x3), some (.inr 19), some (.inl x5), some (.inl x6), some (.inl x7)] [.inl x7] Z (zri Q))
  refine z0 (op := 1) (a := 0) (b := 20) (by rfl) (by rfl) (?_ : TZ (d + 1) 123 49 [some (.inr 0), some (.inl x1), some (.inl x2), some (.inl x3), some (.inr 19), some (.inl x5), some (.inl x6), some (.inl x7)] [.inl 20, .inl x7] Z (zri Q))
  obtain ⟨c1, v1, v2⟩ := v
  refine z_if2 (a := 4) (t := 90) (by rfl) (by rfl) c1 (by decide) (fun h2 => ?_) (fun h2 => ?_)
  · have v := v1 h2; clear v1 v2
    show TZ (d + 1) 123 90 [some (.inr 0), some (.inl x1), some (.inl x2), some (.inl x3), some (.inr 19), some (.inl x5), some (.inl x6), some (.inl x7)] [] Z (zri Q)
    refine z0 (op := 3) (a := 2) (b := 0) (by rfl) (by rfl) (?_ : TZ (d + 1) 123 91 [some (.inr 0), some (.inl x1), some (.inl x2), some (.inl x3), some (.inr 19), some (.inl x5), some (.inl x6), some (.inl x7)] [.inl x2] Z (zri Q))
    obtain ⟨c3, v1, v2⟩ := v
    refine z_if0 (a := 1) (t := 99) (by rfl) (by rfl) c3 (fun h4 => ?_) (fun h4 => ?_)
    · have v := v1 h4; clear v1 v2
      show TZ (d + 1) 123 99 [some (.inr 0), some (.inl x1), some (.inl x2), some (.inl x3), some (.inr 19), some (.inl x5), some (.inl x6), some (.inl x7)] [] Z (zri Q)
      refine z0 (op := 4) (a := 6) (b := 0) (by rfl) (by rfl) (?_ : TZ (d + 1) 123 101 [some (.inr 0), some (.inl x1), some (.inl x2), some (.inl x3), some (.inr 19), some (.inl x5), some (.inl x6), some (.inl x7)] [.inl x6] Z (zri Q))
      exact z_reti (by rfl) (by rfl) v
    · have v := v2 h4; clear v1 v2
      show TZ (d + 1) 123 94 [some (.inr 0), some (.inl x1), some (.inl x2), some (.inl x3), some (.inr 19), some (.inl x5), some (.inl x6), some (.inl x7)] [] Z (zri Q)
      refine z0 (op := 4) (a := 5) (b := 0) (by rfl) (by rfl) (?_ : TZ (d + 1) 123 96 [some (.inr 0), some (.inl x1), some (.inl x2), some (.inl x3), some (.inr 19), some (.inl x5), some (.inl x6), some (.inl x7)] [.inl x5] Z (zri Q))
      refine z_goto (t := 101) (by rfl) (by rfl) (?_ : TZ (d + 1) 123 101 [some (.inr 0), some (.inl x1), some (.inl x2), some (.inl x3), some (.inr 19), some (.inl x5), some (.inl x6), some (.inl x7)] [.inl x5] Z (zri Q))
      exact z_reti (by rfl) (by rfl) v
  · have v := v2 h2; clear v1 v2
    show TZ (d + 1) 123 52 [some (.inr 0), some (.inl x1), some (.inl x2), some (.inl x3), some (.inr 19), some (.inl x5), some (.inl x6), some (.inl x7)] [] Z (zri Q)
    refine z0 (op := 6) (a := 4) (b := 0) (by rfl) (by rfl) (?_ : TZ (d + 1) 123 54 [some (.inr 0), some (.inl x1), some (.inl x2), some (.inl x3), some (.inr 19), some (.inl x5), some (.inl x6), some (.inl x7)] [.inr 19] Z (zri Q))
    refine z0 (op := 3) (a := 1) (b := 0) (by rfl) (by rfl) (?_ : TZ (d + 1) 123 55 [some (.inr 0), some (.inl x1), some (.inl x2), some (.inl x3), some (.inr 19), some (.inl x5), some (.inl x6), some (.inl x7)] [.inl x1, .inr 19] Z (zri Q))
    refine z_vi (by rfl) (by rfl) cl_19 (TI.mono v fun r6 Z5 v => ?_)
    show TZ (d + 1) 123 58 [some (.inr 0), some (.inl x1), some (.inl x2), some (.inl x3), some (.inr 19), some (.inl x5), some (.inl x6), some (.inl x7)] [.inl r6] Z5 (zri Q)
    refine z0 (op := 14) (a := 0) (b := 0) (by rfl) (by rfl) (?_ : TZ (d + 1) 123 59 [some (.inr 0), some (.inl x1), some (.inl x2), some (.inl x3), some (.inr 19), some (.inl x5), some (.inl x6), some (.inl x7)] [] Z5 (zri Q))
    refine z0 (op := 6) (a := 4) (b := 0) (by rfl) (by rfl) (?_ : TZ (d + 1) 123 61 [some (.inr 0), some (.inl x1), some (.inl x2), some (.inl x3), some (.inr 19), some (.inl x5), some (.inl x6), some (.inl x7)] [.inr 19] Z5 (zri Q))
    refine z_fr (by rfl) fr76_19 (?_ : TZ (d + 1) 123 64 [some (.inr 0), some (.inl x1), some (.inl x2), some (.inl x3), some (.inr 19), some (.inl x5), some (.inl x6), some (.inl x7)] [.inr 23] Z5 (zri Q))
    refine z0 (op := 3) (a := 1) (b := 0) (by rfl) (by rfl) (?_ : TZ (d + 1) 123 65 [some (.inr 0), some (.inl x1), some (.inl x2), some (.inl x3), some (.inr 19), some (.inl x5), some (.inl x6), some (.inl x7)] [.inl x1, .inr 23] Z5 (zri Q))
    obtain ⟨c7, v⟩ := v
    refine z_al (by rfl) ln_23 c7 (?_ : TZ (d + 1) 123 66 [some (.inr 0), some (.inl x1), some (.inl x2), some (.inl x3), some (.inr 19), some (.inl x5), some (.inl x6), some (.inl x7)] [.inl (Z5 23 x1)] Z5 (zri Q))
    refine z0 (op := 4) (a := 5) (b := 0) (by rfl) (by rfl) (?_ : TZ (d + 1) 123 68 [some (.inr 0), some (.inl x1), some (.inl x2), some (.inl x3), some (.inr 19), some (.inl x5), some (.inl x6), some (.inl x7)] [.inl x5, .inl (Z5 23 x1)] Z5 (zri Q))
    obtain ⟨c8, c9, v1, v2⟩ := v
    refine z_if2 (a := 5) (t := 84) (by rfl) (by rfl) c8 c9 (fun h10 => ?_) (fun h10 => ?_)
    · have v := v1 h10; clear v1 v2
      show TZ (d + 1) 123 84 [some (.inr 0), some (.inl x1), some (.inl x2), some (.inl x3), some (.inr 19), some (.inl x5), some (.inl x6), some (.inl x7)] [] Z5 (zri Q)
      refine z0 (op := 11) (a := 7) (b := 1) (by rfl) (by rfl) (?_ : TZ (d + 1) 123 87 [some (.inr 0), some (.inl x1), some (.inl x2), some (.inl x3), some (.inr 19), some (.inl x5), some (.inl x6), some (.inl (x7 + 1))] [] Z5 (zri Q))
      refine z_goto (t := 45) (by rfl) (by rfl) (?_ : TZ (d + 1) 123 45 [some (.inr 0), some (.inl x1), some (.inl x2), some (.inl x3), some (.inr 19), some (.inl x5), some (.inl x6), some (.inl (x7 + 1))] [] Z5 (zri Q))
      exact v
    · have v := v2 h10; clear v1 v2
      show TZ (d + 1) 123 71 [some (.inr 0), some (.inl x1), some (.inl x2), some (.inl x3), some (.inr 19), some (.inl x5), some (.inl x6), some (.inl x7)] [] Z5 (zri Q)
      refine z0 (op := 6) (a := 4) (b := 0) (by rfl) (by rfl) (?_ : TZ (d + 1) 123 73 [some (.inr 0), some (.inl x1), some (.inl x2), some (.inl x3), some (.inr 19), some (.inl x5), some (.inl x6), some (.inl x7)] [.inr 19] Z5 (zri Q))
      refine z_fr (by rfl) fr76_19 (?_ : TZ (d + 1) 123 76 [some (.inr 0), some (.inl x1), some (.inl x2), some (.inl x3), some (.inr 19), some (.inl x5), some (.inl x6), some (.inl x7)] [.inr 23] Z5 (zri Q))
      refine z0 (op := 3) (a := 1) (b := 0) (by rfl) (by rfl) (?_ : TZ (d + 1) 123 77 [some (.inr 0), some (.inl x1), some (.inl x2), some (.inl x3), some (.inr 19), some (.inl x5), some (.inl x6), some (.inl x7)] [.inl x1, .inr 23] Z5 (zri Q))
      obtain ⟨c11, v⟩ := v
      refine z_al (by rfl) ln_23 c11 (?_ : TZ (d + 1) 123 78 [some (.inr 0), some (.inl x1), some (.inl x2), some (.inl x3), some (.inr 19), some (.inl x5), some (.inl x6), some (.inl x7)] [.inl (Z5 23 x1)] Z5 (zri Q))
      refine z0 (op := 8) (a := 5) (b := 0) (by rfl) (by rfl) (?_ : TZ (d + 1) 123 80 [some (.inr 0), some (.inl x1), some (.inl x2), some (.inl x3), some (.inr 19), some (.inl (Z5 23 x1)), some (.inl x6), some (.inl x7)] [] Z5 (zri Q))
      refine z0 (op := 4) (a := 7) (b := 0) (by rfl) (by rfl) (?_ : TZ (d + 1) 123 82 [some (.inr 0), some (.inl x1), some (.inl x2), some (.inl x3), some (.inr 19), some (.inl (Z5 23 x1)), some (.inl x6), some (.inl x7)] [.inl x7] Z5 (zri Q))
      refine z0 (op := 8) (a := 6) (b := 0) (by rfl) (by rfl) (?_ : TZ (d + 1) 123 84 [some (.inr 0), some (.inl x1), some (.inl x2), some (.inl x3), some (.inr 19), some (.inl (Z5 23 x1)), some (.inl x7), some (.inl x7)] [] Z5 (zri Q))
      refine z0 (op := 11) (a := 7) (b := 1) (by rfl) (by rfl) (?_ : TZ (d + 1) 123 87 [some (.inr 0), some (.inl x1), some (.inl x2), some (.inl x3), some (.inr 19), some (.inl (Z5 23 x1)), some (.inl x7), some (.inl (x7 + 1))] [] Z5 (zri Q))
      refine z_goto (t := 45) (by rfl) (by rfl) (?_ : TZ (d + 1) 123 45 [some (.inr 0), some (.inl x1), some (.inl x2), some (.inl x3), some (.inr 19), some (.inl (Z5 23 x1)), some (.inl x7), some (.inl (x7 + 1))] [] Z5 (zri Q))
      exact v
theorem w126_0 {d : Nat} {x1 x2 : Int} {Z : zM} {Q : Int → zM → Prop}
    (v : TI d 74 [.inl x2, .inl (-1)] Z (fun r2 Z1 =>
      TI d 73 [.inl x1, .inl 1, .inl 4] Z1 (fun r4 Z3 =>
        TI d 72 [.inl r2, .inl r4] Z3 (fun r6 Z5 =>
          zR r6 ∧
            (r6 = 0 → TV d 50 [.inr 46, .inl x1] Z5 (fun Z9 =>
                TV d 125 [.inr 0, .inr 46] Z9 (fun Z10 =>
                  zR x2 ∧
                    (x2 ≠ (-1) → TI d 56 [.inr 46, .inl x2] Z10 (fun r14 Z13 =>
                        Q r14 Z13)) ∧
                    (¬ x2 ≠ (-1) → TI d 55 [.inr 46] Z10 (fun r16 Z15 =>
                        Q r16 Z15))))) ∧
            (¬ r6 = 0 → TI d 71 [.inr 0, .inl r6] Z5 (fun r18 Z17 =>
                Q r18 Z17)))))) :
    TZ (d + 1) 126 0 [some (.inr 0), some (.inl x1), some (.inl x2), none] [] Z (zri Q) := by
  refine z0 (op := 3) (a := 2) (b := 0) (by rfl) (by rfl) (?_ : TZ (d + 1) 126 1 [some (.inr 0), some (.inl x1), some (.inl x2), none] [.inl x2] Z (zri Q))
  refine z0 (op := 0) (a := 0) (b := (-1)) (by rfl) (by rfl) (?_ : TZ (d + 1) 126 2 [some (.inr 0), some (.inl x1), some (.inl x2), none] [.inl (-1), .inl x2] Z (zri Q))
  refine z_si (by rfl) (by rfl) (TI.mono v fun r2 Z1 v => ?_)
  show TZ (d + 1) 126 5 [some (.inr 0), some (.inl x1), some (.inl x2), none] [.inl r2] Z1 (zri Q)
  refine z0 (op := 3) (a := 1) (b := 0) (by rfl) (by rfl) (?_ : TZ (d + 1) 126 6 [some (.inr 0), some (.inl x1), some (.inl x2), none] [.inl x1, .inl r2] Z1 (zri Q))
  refine z0 (op := 0) (a := 0) (b := 1) (by rfl) (by rfl) (?_ : TZ (d + 1) 126 7 [some (.inr 0), some (.inl x1), some (.inl x2), none] [.inl 1, .inl x1, .inl r2] Z1 (zri Q))
  refine z0 (op := 0) (a := 0) (b := 4) (by rfl) (by rfl) (?_ : TZ (d + 1) 126 8 [some (.inr 0), some (.inl x1), some (.inl x2), none] [.inl 4, .inl 1, .inl x1, .inl r2] Z1 (zri Q))
  refine z_si (by rfl) (by rfl) (TI.mono v fun r4 Z3 v => ?_)
  show TZ (d + 1) 126 11 [some (.inr 0), some (.inl x1), some (.inl x2), none] [.inl r4, .inl r2] Z3 (zri Q)
  refine z_si (by rfl) (by rfl) (TI.mono v fun r6 Z5 v => ?_)
  show TZ (d + 1) 126 14 [some (.inr 0), some (.inl x1), some (.inl x2), none] [.inl r6] Z5 (zri Q)
  refine z0 (op := 7) (a := 3) (b := 0) (by rfl) (by rfl) (?_ : TZ (d + 1) 126 15 [some (.inr 0), some (.inl x1), some (.inl x2), some (.inl r6)] [] Z5 (zri Q))
  refine z0 (op := 3) (a := 3) (b := 0) (by rfl) (by rfl) (?_ : TZ (d + 1) 126 16 [some (.inr 0), some (.inl x1), some (.inl x2), some (.inl r6)] [.inl r6] Z5 (zri Q))
  obtain ⟨c7, v1, v2⟩ := v
  refine z_if0 (a := 0) (t := 25) (by rfl) (by rfl) c7 (fun h8 => ?_) (fun h8 => ?_)
  · have v := v1 h8; clear v1 v2
    show TZ (d + 1) 126 25 [some (.inr 0), some (.inl x1), some (.inl x2), some (.inl r6)] [] Z5 (zri Q)
    refine z0 (op := 5) (a := 0) (b := 0) (by rfl) (by rfl) (?_ : TZ (d + 1) 126 26 [some (.inr 0), some (.inl x1), some (.inl x2), some (.inl r6)] [.inr 0] Z5 (zri Q))
    refine z_fr (by rfl) fr61_0 (?_ : TZ (d + 1) 126 29 [some (.inr 0), some (.inl x1), some (.inl x2), some (.inl r6)] [.inr 46] Z5 (zri Q))
    refine z0 (op := 3) (a := 1) (b := 0) (by rfl) (by rfl) (?_ : TZ (d + 1) 126 30 [some (.inr 0), some (.inl x1), some (.inl x2), some (.inl r6)] [.inl x1, .inr 46] Z5 (zri Q))
    refine z_vv (by rfl) (by rfl) cl_46 (TV.mono v fun Z9 v => ?_)
    show TZ (d + 1) 126 33 [some (.inr 0), some (.inl x1), some (.inl x2), some (.inl r6)] [] Z9 (zri Q)
    refine z0 (op := 5) (a := 0) (b := 0) (by rfl) (by rfl) (?_ : TZ (d + 1) 126 34 [some (.inr 0), some (.inl x1), some (.inl x2), some (.inl r6)] [.inr 0] Z9 (zri Q))
    refine z0 (op := 5) (a := 0) (b := 0) (by rfl) (by rfl) (?_ : TZ (d + 1) 126 35 [some (.inr 0), some (.inl x1), some (.inl x2), some (.inl r6)] [.inr 0, .inr 0] Z9 (zri Q))
    refine z_fr (by rfl) fr61_0 (?_ : TZ (d + 1) 126 38 [some (.inr 0), some (.inl x1), some (.inl x2), some (.inl r6)] [.inr 46, .inr 0] Z9 (zri Q))
    refine z_vv (by rfl) (by rfl) cl_0 (TV.mono v fun Z10 v => ?_)
    show TZ (d + 1) 126 41 [some (.inr 0), some (.inl x1), some (.inl x2), some (.inl r6)] [] Z10 (zri Q)
    refine z0 (op := 3) (a := 2) (b := 0) (by rfl) (by rfl) (?_ : TZ (d + 1) 126 42 [some (.inr 0), some (.inl x1), some (.inl x2), some (.inl r6)] [.inl x2] Z10 (zri Q))
    refine z0 (op := 0) (a := 0) (b := (-1)) (by rfl) (by rfl) (?_ : TZ (d + 1) 126 43 [some (.inr 0), some (.inl x1), some (.inl x2), some (.inl r6)] [.inl (-1), .inl x2] Z10 (zri Q))
    obtain ⟨c11, v1, v2⟩ := v
    refine z_if2 (a := 1) (t := 56) (by rfl) (by rfl) c11 (by decide) (fun h12 => ?_) (fun h12 => ?_)
    · have v := v1 h12; clear v1 v2
      show TZ (d + 1) 126 56 [some (.inr 0), some (.inl x1), some (.inl x2), some (.inl r6)] [] Z10 (zri Q)
      refine z0 (op := 5) (a := 0) (b := 0) (by rfl) (by rfl) (?_ : TZ (d + 1) 126 57 [some (.inr 0), some (.inl x1), some (.inl x2), some (.inl r6)] [.inr 0] Z10 (zri Q))
      refine z_fr (by rfl) fr61_0 (?_ : TZ (d + 1) 126 60 [some (.inr 0), some (.inl x1), some (.inl x2), some (.inl r6)] [.inr 46] Z10 (zri Q))
      refine z0 (op := 3) (a := 2) (b := 0) (by rfl) (by rfl) (?_ : TZ (d + 1) 126 61 [some (.inr 0), some (.inl x1), some (.inl x2), some (.inl r6)] [.inl x2, .inr 46] Z10 (zri Q))
      refine z_vi (by rfl) (by rfl) cl_46 (TI.mono v fun r14 Z13 v => ?_)
      show TZ (d + 1) 126 64 [some (.inr 0), some (.inl x1), some (.inl x2), some (.inl r6)] [.inl r14] Z13 (zri Q)
      exact z_reti (by rfl) (by rfl) v
    · have v := v2 h12; clear v1 v2
      show TZ (d + 1) 126 46 [some (.inr 0), some (.inl x1), some (.inl x2), some (.inl r6)] [] Z10 (zri Q)
      refine z0 (op := 5) (a := 0) (b := 0) (by rfl) (by rfl) (?_ : TZ (d + 1) 126 47 [some (.inr 0), some (.inl x1), some (.inl x2), some (.inl r6)] [.inr 0] Z10 (zri Q))
      refine z_fr (by rfl) fr61_0 (?_ : TZ (d + 1) 126 50 [some (.inr 0), some (.inl x1), some (.inl x2), some (.inl r6)] [.inr 46] Z10 (zri Q))
      refine z_vi (by rfl) (by rfl) cl_46 (TI.mono v fun r16 Z15 v => ?_)
      show TZ (d + 1) 126 53 [some (.inr 0), some (.inl x1), some (.inl x2), some (.inl r6)] [.inl r16] Z15 (zri Q)
      refine z_goto (t := 64) (by rfl) (by rfl) (?_ : TZ (d + 1) 126 64 [some (.inr 0), some (.inl x1), some (.inl x2), some (.inl r6)] [.inl r16] Z15 (zri Q))
      exact z_reti (by rfl) (by rfl) v
  · have v := v2 h8; clear v1 v2
    show TZ (d + 1) 126 19 [some (.inr 0), some (.inl x1), some (.inl x2), some (.inl r6)] [] Z5 (zri Q)
    refine z0 (op := 5) (a := 0) (b := 0) (by rfl) (by rfl) (?_ : TZ (d + 1) 126 20 [some (.inr 0), some (.inl x1), some (.inl x2), some (.inl r6)] [.inr 0] Z5 (zri Q))
    refine z0 (op := 3) (a := 3) (b := 0) (by rfl) (by rfl) (?_ : TZ (d + 1) 126 21 [some (.inr 0), some (.inl x1), some (.inl x2), some (.inl r6)] [.inl r6, .inr 0] Z5 (zri Q))
    refine z_vi (by rfl) (by rfl) cl_0 (TI.mono v fun r18 Z17 v => ?_)
    show TZ (d + 1) 126 24 [some (.inr 0), some (.inl x1), some (.inl x2), some (.inl r6)] [.inl r18] Z17 (zri Q)
    exact z_reti (by rfl) (by rfl) v
theorem w127_0 {d : Nat} {x1 : Int} {Z : zM} {Q : Int → zM → Prop}
    (v : TI d 73 [.inl x1, .inl 0, .inl 4] Z (fun r2 Z1 =>
      zR r2 ∧
        (r2 = 0 → TV d 50 [.inr 50, .inl x1] Z1 (fun Z5 =>
            TV d 125 [.inr 0, .inr 50] Z5 (fun Z6 =>
              Q (Z6 50 6) Z6))) ∧
        (¬ r2 = 0 → TI d 71 [.inr 0, .inl r2] Z1 (fun r8 Z7 =>
            Q r8 Z7)))) :
    TZ (d + 1) 127 0 [some (.inr 0), some (.inl x1), none] [] Z (zri Q) := by
  refine z0 (op := 3) (a := 1) (b := 0) (by rfl) (by rfl) (?_ : TZ (d + 1) 127 1 [some (.inr 0), some (.inl x1), none] [.inl x1] Z (zri Q))
  refine z0 (op := 0) (a := 0) (b := 0) (by rfl) (by rfl) (?_ : TZ (d + 1) 127 2 [some (.inr 0), some (.inl x1), none] [.inl 0, .inl x1] Z (zri Q))
  refine z0 (op := 0) (a := 0) (b := 4) (by rfl) (by rfl) (?_ : TZ (d + 1) 127 3 [some (.inr 0), some (.inl x1), none] [.inl 4, .inl 0, .inl x1] Z (zri Q))
  refine z_si (by rfl) (by rfl) (TI.mono v fun r2 Z1 v => ?_)
  show TZ (d + 1) 127 6 [some (.inr 0), some (.inl x1), none] [.inl r2] Z1 (zri Q)
  refine z0 (op := 7) (a := 2) (b := 0) (by rfl) (by rfl) (?_ : TZ (d + 1) 127 7 [some (.inr 0), some (.inl x1), some (.inl r2)] [] Z1 (zri Q))
  refine z0 (op := 3) (a := 2) (b := 0) (by rfl) (by rfl) (?_ : TZ (d + 1) 127 8 [some (.inr 0), some (.inl x1), some (.inl r2)] [.inl r2] Z1 (zri Q))
  obtain ⟨c3, v1, v2⟩ := v
  refine z_if0 (a := 0) (t := 17) (by rfl) (by rfl) c3 (fun h4 => ?_) (fun h4 => ?_)
  · have v := v1 h4; clear v1 v2
    show TZ (d + 1) 127 17 [some (.inr 0), some (.inl x1), some (.inl r2)] [] Z1 (zri Q)
    refine z0 (op := 5) (a := 0) (b := 0) (by rfl) (by rfl) (?_ : TZ (d + 1) 127 18 [some (.inr 0), some (.inl x1), some (.inl r2)] [.inr 0] Z1 (zri Q))
    refine z_fr (by rfl) fr62_0 (?_ : TZ (d + 1) 127 21 [some (.inr 0), some (.inl x1), some (.inl r2)] [.inr 50] Z1 (zri Q))
    refine z0 (op := 3) (a := 1) (b := 0) (by rfl) (by rfl) (?_ : TZ (d + 1) 127 22 [some (.inr 0), some (.inl x1), some (.inl r2)] [.inl x1, .inr 50] Z1 (zri Q))
    refine z_vv (by rfl) (by rfl) cl_50 (TV.mono v fun Z5 v => ?_)
    show TZ (d + 1) 127 25 [some (.inr 0), some (.inl x1), some (.inl r2)] [] Z5 (zri Q)
    refine z0 (op := 5) (a := 0) (b := 0) (by rfl) (by rfl) (?_ : TZ (d + 1) 127 26 [some (.inr 0), some (.inl x1), some (.inl r2)] [.inr 0] Z5 (zri Q))
    refine z0 (op := 5) (a := 0) (b := 0) (by rfl) (by rfl) (?_ : TZ (d + 1) 127 27 [some (.inr 0), some (.inl x1), some (.inl r2)] [.inr 0, .inr 0] Z5 (zri Q))
    refine z_fr (by rfl) fr62_0 (?_ : TZ (d + 1) 127 30 [some (.inr 0), some (.inl x1), some (.inl r2)] [.inr 50, .inr 0] Z5 (zri Q))
    refine z_vv (by rfl) (by rfl) cl_0 (TV.mono v fun Z6 v => ?_)
    show TZ (d + 1) 127 33 [some (.inr 0), some (.inl x1), some (.inl r2)] [] Z6 (zri Q)
    refine z0 (op := 5) (a := 0) (b := 0) (by rfl) (by rfl) (?_ : TZ (d + 1) 127 34 [some (.inr 0), some (.inl x1), some (.inl r2)] [.inr 0] Z6 (zri Q))
    refine z_fr (by rfl) fr62_0 (?_ : TZ (d + 1) 127 37 [some (.inr 0), some (.inl x1), some (.inl r2)] [.inr 50] Z6 (zri Q))
    refine z_fi (by rfl) fi80_50 (?_ : TZ (d + 1) 127 40 [some (.inr 0), some (.inl x1), some (.inl r2)] [.inl (Z6 50 6)] Z6 (zri Q))
    exact z_reti (by rfl) (by rfl) v
  · have v := v2 h4; clear v1 v2
    show TZ (d + 1) 127 11 [some (.inr 0), some (.inl x1), some (.inl r2)] [] Z1 (zri Q)
    refine z0 (op := 5) (a := 0) (b := 0) (by rfl) (by rfl) (?_ : TZ (d + 1) 127 12 [some (.inr 0), some (.inl x1), some (.inl r2)] [.inr 0] Z1 (zri Q))
    refine z0 (op := 3) (a := 2) (b := 0) (by rfl) (by rfl) (?_ : TZ (d + 1) 127 13 [some (.inr 0), some (.inl x1), some (.inl r2)] [.inl r2, .inr 0] Z1 (zri Q))
    refine z_vi (by rfl) (by rfl) cl_0 (TI.mono v fun r8 Z7 v => ?_)
    show TZ (d + 1) 127 16 [some (.inr 0), some (.inl x1), some (.inl r2)] [.inl r8] Z7 (zri Q)
    exact z_reti (by rfl) (by rfl) v
theorem w128_0 {d : Nat} {x1 : Int} {Z : zM} {Q : Int → zM → Prop}
    (v : TI d 74 [.inl x1, .inl (-1)] Z (fun r2 Z1 =>
      TI d 78 [.inr 0, .inl 63] Z1 (fun r4 Z3 =>
        TI d 72 [.inl r2, .inl r4] Z3 (fun r6 Z5 =>
          zR r6 ∧
            (r6 = 0 → TV d 50 [.inr 54, .inl (Z5 39 3)] Z5 (fun Z9 =>
                TV d 51 [.inr 54, .inr 39] Z9 (fun Z10 =>
                  TV d 125 [.inr 0, .inr 54] Z10 (fun Z11 =>
                    zR x1 ∧
                      (x1 ≠ (-1) → TI d 56 [.inr 54, .inl x1] Z11 (fun r15 Z14 =>
                          Q r15 Z14)) ∧
                      (¬ x1 ≠ (-1) → (zR (Z11 54 4) ∧
                          ((Z11 54 4) ≠ 1000000 → Q 1 Z11) ∧
                          (¬ (Z11 54 4) ≠ 1000000 → Q 0 Z11))))))) ∧
            (¬ r6 = 0 → TI d 71 [.inr 0, .inl r6] Z5 (fun r19 Z18 =>
                Q r19 Z18)))))) :
    TZ (d + 1) 128 0 [some (.inr 0), some (.inl x1), none] [] Z (zri Q) := by
  refine z0 (op := 3) (a := 1) (b := 0) (by rfl) (by rfl) (?_ : TZ (d + 1) 128 1 [some (.inr 0), some (.inl x1), none] [.inl x1] Z (zri Q))
  refine z0 (op := 0) (a := 0) (b := (-1)) (by rfl) (by rfl) (?_ : TZ (d + 1) 128 2 [some (.inr 0), some (.inl x1), none] [.inl (-1), .inl x1] Z (zri Q))
  refine z_si (by rfl) (by rfl) (TI.mono v fun r2 Z1 v => ?_)
  show TZ (d + 1) 128 5 [some (.inr 0), some (.inl x1), none] [.inl r2] Z1 (zri Q)
  refine z0 (op := 5) (a := 0) (b := 0) (by rfl) (by rfl) (?_ : TZ (d + 1) 128 6 [some (.inr 0), some (.inl x1), none] [.inr 0, .inl r2] Z1 (zri Q))
  refine z0 (op := 1) (a := 0) (b := 63) (by rfl) (by rfl) (?_ : TZ (d + 1) 128 8 [some (.inr 0), some (.inl x1), none] [.inl 63, .inr 0, .inl r2] Z1 (zri Q))
  refine z_vi (by rfl) (by rfl) cl_0 (TI.mono v fun r4 Z3 v => ?_)
  show TZ (d + 1) 128 11 [some (.inr 0), some (.inl x1), none] [.inl r4, .inl r2] Z3 (zri Q)
  refine z_si (by rfl) (by rfl) (TI.mono v fun r6 Z5 v => ?_)
  show TZ (d + 1) 128 14 [some (.inr 0), some (.inl x1), none] [.inl r6] Z5 (zri Q)
  refine z0 (op := 7) (a := 2) (b := 0) (by rfl) (by rfl) (?_ : TZ (d + 1) 128 15 [some (.inr 0), some (.inl x1), some (.inl r6)] [] Z5 (zri Q))
  refine z0 (op := 3) (a := 2) (b := 0) (by rfl) (by rfl) (?_ : TZ (d + 1) 128 16 [some (.inr 0), some (.inl x1), some (.inl r6)] [.inl r6] Z5 (zri Q))
  obtain ⟨c7, v1, v2⟩ := v
  refine z_if0 (a := 0) (t := 25) (by rfl) (by rfl) c7 (fun h8 => ?_) (fun h8 => ?_)
  · have v := v1 h8; clear v1 v2
    show TZ (d + 1) 128 25 [some (.inr 0), some (.inl x1), some (.inl r6)] [] Z5 (zri Q)
    refine z0 (op := 5) (a := 0) (b := 0) (by rfl) (by rfl) (?_ : TZ (d + 1) 128 26 [some (.inr 0), some (.inl x1), some (.inl r6)] [.inr 0] Z5 (zri Q))
    refine z_fr (by rfl) fr63_0 (?_ : TZ (d + 1) 128 29 [some (.inr 0), some (.inl x1), some (.inl r6)] [.inr 54] Z5 (zri Q))
    refine z0 (op := 5) (a := 0) (b := 0) (by rfl) (by rfl) (?_ : TZ (d + 1) 128 30 [some (.inr 0), some (.inl x1), some (.inl r6)] [.inr 0, .inr 54] Z5 (zri Q))
    refine z_fr (by rfl) fr57_0 (?_ : TZ (d + 1) 128 33 [some (.inr 0), some (.inl x1), some (.inl r6)] [.inr 39, .inr 54] Z5 (zri Q))
    refine z_fi (by rfl) fi67_39 (?_ : TZ (d + 1) 128 36 [some (.inr 0), some (.inl x1), some (.inl r6)] [.inl (Z5 39 3), .inr 54] Z5 (zri Q))
    refine z_vv (by rfl) (by rfl) cl_54 (TV.mono v fun Z9 v => ?_)
    show TZ (d + 1) 128 39 [some (.inr 0), some (.inl x1), some (.inl r6)] [] Z9 (zri Q)
    refine z0 (op := 5) (a := 0) (b := 0) (by rfl) (by rfl) (?_ : TZ (d + 1) 128 40 [some (.inr 0), some (.inl x1), some (.inl r6)] [.inr 0] Z9 (zri Q))
    refine z_fr (by rfl) fr63_0 (?_ : TZ (d + 1) 128 43 [some (.inr 0), some (.inl x1), some (.inl r6)] [.inr 54] Z9 (zri Q))
    refine z0 (op := 5) (a := 0) (b := 0) (by rfl) (by rfl) (?_ : TZ (d + 1) 128 44 [some (.inr 0), some (.inl x1), some (.inl r6)] [.inr 0, .inr 54] Z9 (zri Q))
    refine z_fr (by rfl) fr57_0 (?_ : TZ (d + 1) 128 47 [some (.inr 0), some (.inl x1), some (.inl r6)] [.inr 39, .inr 54] Z9 (zri Q))
    refine z_vv (by rfl) (by rfl) cl_54 (TV.mono v fun Z10 v => ?_)
    show TZ (d + 1) 128 50 [some (.inr 0), some (.inl x1), some (.inl r6)] [] Z10 (zri Q)
    refine z0 (op := 5) (a := 0) (b := 0) (by rfl) (by rfl) (?_ : TZ (d + 1) 128 51 [some (.inr 0), some (.inl x1), some (.inl r6)] [.inr 0] Z10 (zri Q))
    refine z0 (op := 5) (a := 0) (b := 0) (by rfl) (by rfl) (?_ : TZ (d + 1) 128 52 [some (.inr 0), some (.inl x1), some (.inl r6)] [.inr 0, .inr 0] Z10 (zri Q))
    refine z_fr (by rfl) fr63_0 (?_ : TZ (d + 1) 128 55 [some (.inr 0), some (.inl x1), some (.inl r6)] [.inr 54, .inr 0] Z10 (zri Q))
    refine z_vv (by rfl) (by rfl) cl_0 (TV.mono v fun Z11 v => ?_)
    show TZ (d + 1) 128 58 [some (.inr 0), some (.inl x1), some (.inl r6)] [] Z11 (zri Q)
    refine z0 (op := 3) (a := 1) (b := 0) (by rfl) (by rfl) (?_ : TZ (d + 1) 128 59 [some (.inr 0), some (.inl x1), some (.inl r6)] [.inl x1] Z11 (zri Q))
    refine z0 (op := 0) (a := 0) (b := (-1)) (by rfl) (by rfl) (?_ : TZ (d + 1) 128 60 [some (.inr 0), some (.inl x1), some (.inl r6)] [.inl (-1), .inl x1] Z11 (zri Q))
    obtain ⟨c12, v1, v2⟩ := v
    refine z_if2 (a := 1) (t := 82) (by rfl) (by rfl) c12 (by decide) (fun h13 => ?_) (fun h13 => ?_)
    · have v := v1 h13; clear v1 v2
      show TZ (d + 1) 128 82 [some (.inr 0), some (.inl x1), some (.inl r6)] [] Z11 (zri Q)
      refine z0 (op := 5) (a := 0) (b := 0) (by rfl) (by rfl) (?_ : TZ (d + 1) 128 83 [some (.inr 0), some (.inl x1), some (.inl r6)] [.inr 0] Z11 (zri Q))
      refine z_fr (by rfl) fr63_0 (?_ : TZ (d + 1) 128 86 [some (.inr 0), some (.inl x1), some (.inl r6)] [.inr 54] Z11 (zri Q))
      refine z0 (op := 3) (a := 1) (b := 0) (by rfl) (by rfl) (?_ : TZ (d + 1) 128 87 [some (.inr 0), some (.inl x1), some (.inl r6)] [.inl x1, .inr 54] Z11 (zri Q))
      refine z_vi (by rfl) (by rfl) cl_54 (TI.mono v fun r15 Z14 v => ?_)
      show TZ (d + 1) 128 90 [some (.inr 0), some (.inl x1), some (.inl r6)] [.inl r15] Z14 (zri Q)
      exact z_reti (by rfl) (by rfl) v
    · have v := v2 h13; clear v1 v2
      show TZ (d + 1) 128 63 [some (.inr 0), some (.inl x1), some (.inl r6)] [] Z11 (zri Q)
      refine z0 (op := 5) (a := 0) (b := 0) (by rfl) (by rfl) (?_ : TZ (d + 1) 128 64 [some (.inr 0), some (.inl x1), some (.inl r6)] [.inr 0] Z11 (zri Q))
      refine z_fr (by rfl) fr63_0 (?_ : TZ (d + 1) 128 67 [some (.inr 0), some (.inl x1), some (.inl r6)] [.inr 54] Z11 (zri Q))
      refine z_fi (by rfl) fi81_54 (?_ : TZ (d + 1) 128 70 [some (.inr 0), some (.inl x1), some (.inl r6)] [.inl (Z11 54 4)] Z11 (zri Q))
      refine z_con (op := 1) (a := 11) (b := 0) (by rfl) (by rfl) (by decide) (?_ : TZ (d + 1) 128 73 [some (.inr 0), some (.inl x1), some (.inl r6)] [.inl 1000000, .inl (Z11 54 4)] Z11 (zri Q))
      obtain ⟨c16, v1, v2⟩ := v
      refine z_if2 (a := 1) (t := 80) (by rfl) (by rfl) c16 (by decide) (fun h17 => ?_) (fun h17 => ?_)
      · have v := v1 h17; clear v1 v2
        show TZ (d + 1) 128 80 [some (.inr 0), some (.inl x1), some (.inl r6)] [] Z11 (zri Q)
        refine z0 (op := 0) (a := 0) (b := 1) (by rfl) (by rfl) (?_ : TZ (d + 1) 128 81 [some (.inr 0), some (.inl x1), some (.inl r6)] [.inl 1] Z11 (zri Q))
        exact z_reti (by rfl) (by rfl) v
      · have v := v2 h17; clear v1 v2
        show TZ (d + 1) 128 76 [some (.inr 0), some (.inl x1), some (.inl r6)] [] Z11 (zri Q)
        refine z0 (op := 0) (a := 0) (b := 0) (by rfl) (by rfl) (?_ : TZ (d + 1) 128 77 [some (.inr 0), some (.inl x1), some (.inl r6)] [.inl 0] Z11 (zri Q))
        refine z_goto (t := 81) (by rfl) (by rfl) (?_ : TZ (d + 1) 128 81 [some (.inr 0), some (.inl x1), some (.inl r6)] [.inl 0] Z11 (zri Q))
        exact z_reti (by rfl) (by rfl) v
  · have v := v2 h8; clear v1 v2
    show TZ (d + 1) 128 19 [some (.inr 0), some (.inl x1), some (.inl r6)] [] Z5 (zri Q)
    refine z0 (op := 5) (a := 0) (b := 0) (by rfl) (by rfl) (?_ : TZ (d + 1) 128 20 [some (.inr 0), some (.inl x1), some (.inl r6)] [.inr 0] Z5 (zri Q))
    refine z0 (op := 3) (a := 2) (b := 0) (by rfl) (by rfl) (?_ : TZ (d + 1) 128 21 [some (.inr 0), some (.inl x1), some (.inl r6)] [.inl r6, .inr 0] Z5 (zri Q))
    refine z_vi (by rfl) (by rfl) cl_0 (TI.mono v fun r19 Z18 v => ?_)
    show TZ (d + 1) 128 24 [some (.inr 0), some (.inl x1), some (.inl r6)] [.inl r19] Z18 (zri Q)
    exact z_reti (by rfl) (by rfl) v
theorem w129_0 {d : Nat} {x1 : Int} {Z : zM} {Q : Int → zM → Prop}
    (v : TI d 75 [.inl x1, .inl 2] Z (fun r2 Z1 =>
      TI d 78 [.inr 0, .inl 6] Z1 (fun r4 Z3 =>
        TI d 72 [.inl r2, .inl r4] Z3 (fun r6 Z5 =>
          zR r6 ∧
            (r6 = 0 → TV d 50 [.inr 58, .inl (Z5 39 3)] Z5 (fun Z9 =>
                TV d 51 [.inr 58, .inr 39] Z9 (fun Z10 =>
                  TV d 125 [.inr 0, .inr 58] Z10 (fun Z11 =>
                    zR x1 ∧
                      (x1 ≠ 0 → (zR x1 ∧
                          (x1 ≠ 1 → TI d 55 [.inr 58] Z11 (fun r17 Z16 =>
                              Q r17 Z16)) ∧
                          (¬ x1 ≠ 1 → Q (Z11 58 7) Z11))) ∧
                      (¬ x1 ≠ 0 → Q (Z11 58 6) Z11))))) ∧
            (¬ r6 = 0 → TI d 71 [.inr 0, .inl r6] Z5 (fun r19 Z18 =>
                Q r19 Z18)))))) :
    TZ (d + 1) 129 0 [some (.inr 0), some (.inl x1), none] [] Z (zri Q) := by
  refine z0 (op := 3) (a := 1) (b := 0) (by rfl) (by rfl) (?_ : TZ (d + 1) 129 1 [some (.inr 0), some (.inl x1), none] [.inl x1] Z (zri Q))
  refine z0 (op := 0) (a := 0) (b := 2) (by rfl) (by rfl) (?_ : TZ (d + 1) 129 2 [some (.inr 0), some (.inl x1), none] [.inl 2, .inl x1] Z (zri Q))
  refine z_si (by rfl) (by rfl) (TI.mono v fun r2 Z1 v => ?_)
  show TZ (d + 1) 129 5 [some (.inr 0), some (.inl x1), none] [.inl r2] Z1 (zri Q)
  refine z0 (op := 5) (a := 0) (b := 0) (by rfl) (by rfl) (?_ : TZ (d + 1) 129 6 [some (.inr 0), some (.inl x1), none] [.inr 0, .inl r2] Z1 (zri Q))
  refine z0 (op := 1) (a := 0) (b := 6) (by rfl) (by rfl) (?_ : TZ (d + 1) 129 8 [some (.inr 0), some (.inl x1), none] [.inl 6, .inr 0, .inl r2] Z1 (zri Q))
  refine z_vi (by rfl) (by rfl) cl_0 (TI.mono v fun r4 Z3 v => ?_)
  show TZ (d + 1) 129 11 [some (.inr 0), some (.inl x1), none] [.inl r4, .inl r2] Z3 (zri Q)
  refine z_si (by rfl) (by rfl) (TI.mono v fun r6 Z5 v => ?_)
  show TZ (d + 1) 129 14 [some (.inr 0), some (.inl x1), none] [.inl r6] Z5 (zri Q)
  refine z0 (op := 7) (a := 2) (b := 0) (by rfl) (by rfl) (?_ : TZ (d + 1) 129 15 [some (.inr 0), some (.inl x1), some (.inl r6)] [] Z5 (zri Q))
  refine z0 (op := 3) (a := 2) (b := 0) (by rfl) (by rfl) (?_ : TZ (d + 1) 129 16 [some (.inr 0), some (.inl x1), some (.inl r6)] [.inl r6] Z5 (zri Q))
  obtain ⟨c7, v1, v2⟩ := v
  refine z_if0 (a := 0) (t := 25) (by rfl) (by rfl) c7 (fun h8 => ?_) (fun h8 => ?_)
  · have v := v1 h8; clear v1 v2
    show TZ (d + 1) 129 25 [some (.inr 0), some (.inl x1), some (.inl r6)] [] Z5 (zri Q)
    refine z0 (op := 5) (a := 0) (b := 0) (by rfl) (by rfl) (?_ : TZ (d + 1) 129 26 [some (.inr 0), some (.inl x1), some (.inl r6)] [.inr 0] Z5 (zri Q))
    refine z_fr (by rfl) fr64_0 (?_ : TZ (d + 1) 129 29 [some (.inr 0), some (.inl x1), some (.inl r6)] [.inr 58] Z5 (zri Q))
    refine z0 (op := 5) (a := 0) (b := 0) (by rfl) (by rfl) (?_ : TZ (d + 1) 129 30 [some (.inr 0), some (.inl x1), some (.inl r6)] [.inr 0, .inr 58] Z5 (zri Q))
    refine z_fr (by rfl) fr57_0 (?_ : TZ (d + 1) 129 33 [some (.inr 0), some (.inl x1), some (.inl r6)] [.inr 39, .inr 58] Z5 (zri Q))
    refine z_fi (by rfl) fi67_39 (?_ : TZ (d + 1) 129 36 [some (.inr 0), some (.inl x1), some (.inl r6)] [.inl (Z5 39 3), .inr 58] Z5 (zri Q))
    refine z_vv (by rfl) (by rfl) cl_58 (TV.mono v fun Z9 v => ?_)
    show TZ (d + 1) 129 39 [some (.inr 0), some (.inl x1), some (.inl r6)] [] Z9 (zri Q)
    refine z0 (op := 5) (a := 0) (b := 0) (by rfl) (by rfl) (?_ : TZ (d + 1) 129 40 [some (.inr 0), some (.inl x1), some (.inl r6)] [.inr 0] Z9 (zri Q))
    refine z_fr (by rfl) fr64_0 (?_ : TZ (d + 1) 129 43 [some (.inr 0), some (.inl x1), some (.inl r6)] [.inr 58] Z9 (zri Q))
    refine z0 (op := 5) (a := 0) (b := 0) (by rfl) (by rfl) (?_ : TZ (d + 1) 129 44 [some (.inr 0), some (.inl x1), some (.inl r6)] [.inr 0, .inr 58] Z9 (zri Q))
    refine z_fr (by rfl) fr57_0 (?_ : TZ (d + 1) 129 47 [some (.inr 0), some (.inl x1), some (.inl r6)] [.inr 39, .inr 58] Z9 (zri Q))
    refine z_vv (by rfl) (by rfl) cl_58 (TV.mono v fun Z10 v => ?_)
    show TZ (d + 1) 129 50 [some (.inr 0), some (.inl x1), some (.inl r6)] [] Z10 (zri Q)
    refine z0 (op := 5) (a := 0) (b := 0) (by rfl) (by rfl) (?_ : TZ (d + 1) 129 51 [some (.inr 0), some (.inl x1), some (.inl r6)] [.inr 0] Z10 (zri Q))
    refine z0 (op := 5) (a := 0) (b := 0) (by rfl) (by rfl) (?_ : TZ (d + 1) 129 52 [some (.inr 0), some (.inl x1), some (.inl r6)] [.inr 0, .inr 0] Z10 (zri Q))
    refine z_fr (by rfl) fr64_0 (?_ : TZ (d + 1) 129 55 [some (.inr 0), some (.inl x1), some (.inl r6)] [.inr 58, .inr 0] Z10 (zri Q))
    refine z_vv (by rfl) (by rfl) cl_0 (TV.mono v fun Z11 v => ?_)
    show TZ (d + 1) 129 58 [some (.inr 0), some (.inl x1), some (.inl r6)] [] Z11 (zri Q)
    refine z0 (op := 3) (a := 1) (b := 0) (by rfl) (by rfl) (?_ : TZ (d + 1) 129 59 [some (.inr 0), some (.inl x1), some (.inl r6)] [.inl x1] Z11 (zri Q))
    obtain ⟨c12, v1, v2⟩ := v
    refine z_if0 (a := 1) (t := 70) (by rfl) (by rfl) c12 (fun h13 => ?_) (fun h13 => ?_)
    · have v := v1 h13; clear v1 v2
      show TZ (d + 1) 129 70 [some (.inr 0), some (.inl x1), some (.inl r6)] [] Z11 (zri Q)
      refine z0 (op := 3) (a := 1) (b := 0) (by rfl) (by rfl) (?_ : TZ (d + 1) 129 71 [some (.inr 0), some (.inl x1), some (.inl r6)] [.inl x1] Z11 (zri Q))
      refine z0 (op := 0) (a := 0) (b := 1) (by rfl) (by rfl) (?_ : TZ (d + 1) 129 72 [some (.inr 0), some (.inl x1), some (.inl r6)] [.inl 1, .inl x1] Z11 (zri Q))
      obtain ⟨c14, v1, v2⟩ := v
      refine z_if2 (a := 1) (t := 85) (by rfl) (by rfl) c14 (by decide) (fun h15 => ?_) (fun h15 => ?_)
      · have v := v1 h15; clear v1 v2
        show TZ (d + 1) 129 85 [some (.inr 0), some (.inl x1), some (.inl r6)] [] Z11 (zri Q)
        refine z0 (op := 5) (a := 0) (b := 0) (by rfl) (by rfl) (?_ : TZ (d + 1) 129 86 [some (.inr 0), some (.inl x1), some (.inl r6)] [.inr 0] Z11 (zri Q))
        refine z_fr (by rfl) fr64_0 (?_ : TZ (d + 1) 129 89 [some (.inr 0), some (.inl x1), some (.inl r6)] [.inr 58] Z11 (zri Q))
        refine z_vi (by rfl) (by rfl) cl_58 (TI.mono v fun r17 Z16 v => ?_)
        show TZ (d + 1) 129 92 [some (.inr 0), some (.inl x1), some (.inl r6)] [.inl r17] Z16 (zri Q)
        exact z_reti (by rfl) (by rfl) v
      · have v := v2 h15; clear v1 v2
        show TZ (d + 1) 129 75 [some (.inr 0), some (.inl x1), some (.inl r6)] [] Z11 (zri Q)
        refine z0 (op := 5) (a := 0) (b := 0) (by rfl) (by rfl) (?_ : TZ (d + 1) 129 76 [some (.inr 0), some (.inl x1), some (.inl r6)] [.inr 0] Z11 (zri Q))
        refine z_fr (by rfl) fr64_0 (?_ : TZ (d + 1) 129 79 [some (.inr 0), some (.inl x1), some (.inl r6)] [.inr 58] Z11 (zri Q))
        refine z_fi (by rfl) fi83_58 (?_ : TZ (d + 1) 129 82 [some (.inr 0), some (.inl x1), some (.inl r6)] [.inl (Z11 58 7)] Z11 (zri Q))
        refine z_goto (t := 92) (by rfl) (by rfl) (?_ : TZ (d + 1) 129 92 [some (.inr 0), some (.inl x1), some (.inl r6)] [.inl (Z11 58 7)] Z11 (zri Q))
        exact z_reti (by rfl) (by rfl) v
    · have v := v2 h13; clear v1 v2
      show TZ (d + 1) 129 62 [some (.inr 0), some (.inl x1), some (.inl r6)] [] Z11 (zri Q)
      refine z0 (op := 5) (a := 0) (b := 0) (by rfl) (by rfl) (?_ : TZ (d + 1) 129 63 [some (.inr 0), some (.inl x1), some (.inl r6)] [.inr 0] Z11 (zri Q))
      refine z_fr (by rfl) fr64_0 (?_ : TZ (d + 1) 129 66 [some (.inr 0), some (.inl x1), some (.inl r6)] [.inr 58] Z11 (zri Q))
      refine z_fi (by rfl) fi82_58 (?_ : TZ (d + 1) 129 69 [some (.inr 0), some (.inl x1), some (.inl r6)] [.inl (Z11 58 6)] Z11 (zri Q))
      exact z_reti (by rfl) (by rfl) v
  · have v := v2 h8; clear v1 v2
    show TZ (d + 1) 129 19 [some (.inr 0), some (.inl x1), some (.inl r6)] [] Z5 (zri Q)
    refine z0 (op := 5) (a := 0) (b := 0) (by rfl) (by rfl) (?_ : TZ (d + 1) 129 20 [some (.inr 0), some (.inl x1), some (.inl r6)] [.inr 0] Z5 (zri Q))
    refine z0 (op := 3) (a := 2) (b := 0) (by rfl) (by rfl) (?_ : TZ (d + 1) 129 21 [some (.inr 0), some (.inl x1), some (.inl r6)] [.inl r6, .inr 0] Z5 (zri Q))
    refine z_vi (by rfl) (by rfl) cl_0 (TI.mono v fun r19 Z18 v => ?_)
    show TZ (d + 1) 129 24 [some (.inr 0), some (.inl x1), some (.inl r6)] [.inl r19] Z18 (zri Q)
    exact z_reti (by rfl) (by rfl) v
theorem w130_0 {d : Nat} {x1 x2 x3 : Int} {Z : zM} {Q : Int → zM → Prop}
    (v : TI d 77 [.inr 0, .inl x1] Z (fun r2 Z1 =>
      TI d 76 [.inr 0, .inl x2] Z1 (fun r4 Z3 =>
        TI d 74 [.inl x3, .inl (-1)] Z3 (fun r6 Z5 =>
          TI d 72 [.inl r4, .inl r6] Z5 (fun r8 Z7 =>
            TI d 72 [.inl r2, .inl r8] Z7 (fun r10 Z9 =>
              zR r10 ∧
                (r10 = 0 → TV d 50 [.inr 62, .inl 4] Z9 (fun Z13 =>
                    ∀ Z14, Z14 = zup Z13 62 6 x1 →
                      ∀ Z15, Z15 = zup Z14 62 7 x2 →
                      TV d 125 [.inr 0, .inr 62] Z15 (fun Z16 =>
                      zR x3 ∧
                        (x3 ≠ (-1) → TI d 56 [.inr 62, .inl x3] Z16 (fun r20 Z19 =>
                            Q r20 Z19)) ∧
                        (¬ x3 ≠ (-1) → TI d 55 [.inr 62] Z16 (fun r22 Z21 =>
                            Q r22 Z21))))) ∧
                (¬ r10 = 0 → TI d 71 [.inr 0, .inl r10] Z9 (fun r24 Z23 =>
                    Q r24 Z23)))))))) :
    TZ (d + 1) 130 0 [some (.inr 0), some (.inl x1), some (.inl x2), some (.inl x3), none] [] Z (zri Q) := by
  refine z0 (op := 5) (a := 0) (b := 0) (by rfl) (by rfl) (?_ : TZ (d + 1) 130 1 [some (.inr 0), some (.inl x1), some (.inl x2), some (.inl x3), none] [.inr 0] Z (zri Q))
  refine z0 (op := 3) (a := 1) (b := 0) (by rfl) (by rfl) (?_ : TZ (d + 1) 130 2 [some (.inr 0), some (.inl x1), some (.inl x2), some (.inl x3), none] [.inl x1, .inr 0] Z (zri Q))
  refine z_vi (by rfl) (by rfl) cl_0 (TI.mono v fun r2 Z1 v => ?_)
  show TZ (d + 1) 130 5 [some (.inr 0), some (.inl x1), some (.inl x2), some (.inl x3), none] [.inl r2] Z1 (zri Q)
  refine z0 (op := 5) (a := 0) (b := 0) (by rfl) (by rfl) (?_ : TZ (d + 1) 130 6 [some (.inr 0), some (.inl x1), some (.inl x2), some (.inl x3), none] [.inr 0, .inl r2] Z1 (zri Q))
  refine z0 (op := 3) (a := 2) (b := 0) (by rfl) (by rfl) (?_ : TZ (d + 1) 130 7 [some (.inr 0), some (.inl x1), some (.inl x2), some (.inl x3), none] [.inl x2, .inr 0, .inl r2] Z1 (zri Q))
  refine z_vi (by rfl) (by rfl) cl_0 (TI.mono v fun r4 Z3 v => ?_)
  show TZ (d + 1) 130 10 [some (.inr 0), some (.inl x1), some (.inl x2), some (.inl x3), none] [.inl r4, .inl r2] Z3 (zri Q)
  refine z0 (op := 3) (a := 3) (b := 0) (by rfl) (by rfl) (?_ : TZ (d + 1) 130 11 [some (.inr 0), some (.inl x1), some (.inl x2), some (.inl x3), none] [.inl x3, .inl r4, .inl r2] Z3 (zri Q))
  refine z0 (op := 0) (a := 0) (b := (-1)) (by rfl) (by rfl) (?_ : TZ (d + 1) 130 12 [some (.inr 0), some (.inl x1), some (.inl x2), some (.inl x3), none] [.inl (-1), .inl x3, .inl r4, .inl r2] Z3 (zri Q))
  refine z_si (by rfl) (by rfl) (TI.mono v fun r6 Z5 v => ?_)
  show TZ (d + 1) 130 15 [some (.inr 0), some (.inl x1), some (.inl x2), some (.inl x3), none] [.inl r6, .inl r4, .inl r2] Z5 (zri Q)
  refine z_si (by rfl) (by rfl) (TI.mono v fun r8 Z7 v => ?_)
  show TZ (d + 1) 130 18 [some (.inr 0), some (.inl x1), some (.inl x2), some (.inl x3), none] [.inl r8, .inl r2] Z7 (zri Q)
  refine z_si (by rfl) (by rfl) (TI.mono v fun r10 Z9 v => ?_)
  show TZ (d + 1) 130 21 [some (.inr 0), some (.inl x1), some (.inl x2), some (.inl x3), none] [.inl r10] Z9 (zri Q)
  refine z0 (op := 8) (a := 4) (b := 0) (by rfl) (by rfl) (?_ : TZ (d + 1) 130 23 [some (.inr 0), some (.inl x1), some (.inl x2), some (.inl x3), some (.inl r10)] [] Z9 (zri Q))
  refine z0 (op := 4) (a := 4) (b := 0) (by rfl) (by rfl) (?_ : TZ (d + 1) 130 25 [some (.inr 0), some (.inl x1), some (.inl x2), some (.inl x3), some (.inl r10)] [.inl r10] Z9 (zri Q))
  obtain ⟨c11, v1, v2⟩ := v
  refine z_if0 (a := 0) (t := 35) (by rfl) (by rfl) c11 (fun h12 => ?_) (fun h12 => ?_)
  · have v := v1 h12; clear v1 v2
    show TZ (d + 1) 130 35 [some (.inr 0), some (.inl x1), some (.inl x2), some (.inl x3), some (.inl r10)] [] Z9 (zri Q)
    refine z0 (op := 5) (a := 0) (b := 0) (by rfl) (by rfl) (?_ : TZ (d + 1) 130 36 [some (.inr 0), some (.inl x1), some (.inl x2), some (.inl x3), some (.inl r10)] [.inr 0] Z9 (zri Q))
    refine z_fr (by rfl) fr65_0 (?_ : TZ (d + 1) 130 39 [some (.inr 0), some (.inl x1), some (.inl x2), some (.inl x3), some (.inl r10)] [.inr 62] Z9 (zri Q))
    refine z0 (op := 0) (a := 0) (b := 4) (by rfl) (by rfl) (?_ : TZ (d + 1) 130 40 [some (.inr 0), some (.inl x1), some (.inl x2), some (.inl x3), some (.inl r10)] [.inl 4, .inr 62] Z9 (zri Q))
    refine z_vv (by rfl) (by rfl) cl_62 (TV.mono v fun Z13 v => ?_)
    show TZ (d + 1) 130 43 [some (.inr 0), some (.inl x1), some (.inl x2), some (.inl x3), some (.inl r10)] [] Z13 (zri Q)
    refine z0 (op := 5) (a := 0) (b := 0) (by rfl) (by rfl) (?_ : TZ (d + 1) 130 44 [some (.inr 0), some (.inl x1), some (.inl x2), some (.inl x3), some (.inl r10)] [.inr 0] Z13 (zri Q))
    refine z_fr (by rfl) fr65_0 (?_ : TZ (d + 1) 130 47 [some (.inr 0), some (.inl x1), some (.inl x2), some (.inl x3), some (.inl r10)] [.inr 62] Z13 (zri Q))
    refine z0 (op := 3) (a := 1) (b := 0) (by rfl) (by rfl) (?_ : TZ (d + 1) 130 48 [some (.inr 0), some (.inl x1), some (.inl x2), some (.inl x3), some (.inl r10)] [.inl x1, .inr 62] Z13 (zri Q))
    obtain ⟨Z14, eZ14⟩ : ∃ zz, zz = zup Z13 62 6 x1 := ⟨_, rfl⟩
    have v := v Z14 eZ14
    refine z_pf (by rfl) pf84_62 (fun h => nomatch h) ?_
    show TZ (d + 1) 130 51 [some (.inr 0), some (.inl x1), some (.inl x2), some (.inl x3), some (.inl r10)] [] (zup Z13 62 6 x1) _
    rw [← eZ14]
    refine z0 (op := 5) (a := 0) (b := 0) (by rfl) (by rfl) (?_ : TZ (d + 1) 130 52 [some (.inr 0), some (.inl x1), some (.inl x2), some (.inl x3), some (.inl r10)] [.inr 0] Z14 (zri Q))
    refine z_fr (by rfl) fr65_0 (?_ : TZ (d + 1) 130 55 [some (.inr 0), some (.inl x1), some (.inl x2), some (.inl x3), some (.inl r10)] [.inr 62] Z14 (zri Q))
    refine z0 (op := 3) (a := 2) (b := 0) (by rfl) (by rfl) (?_ : TZ (d + 1) 130 56 [some (.inr 0), some (.inl x1), some (.inl x2), some (.inl x3), some (.inl r10)] [.inl x2, .inr 62] Z14 (zri Q))
    obtain ⟨Z15, eZ15⟩ : ∃ zz, zz = zup Z14 62 7 x2 := ⟨_, rfl⟩
    have v := v Z15 eZ15
    refine z_pf (by rfl) pf85_62 (fun h => nomatch h) ?_
    show TZ (d + 1) 130 59 [some (.inr 0), some (.inl x1), some (.inl x2), some (.inl x3), some (.inl r10)] [] (zup Z14 62 7 x2) _
    rw [← eZ15]
    refine z0 (op := 5) (a := 0) (b := 0) (by rfl) (by rfl) (?_ : TZ (d + 1) 130 60 [some (.inr 0), some (.inl x1), some (.inl x2), some (.inl x3), some (.inl r10)] [.inr 0] Z15 (zri Q))
    refine z0 (op := 5) (a := 0) (b := 0) (by rfl) (by rfl) (?_ : TZ (d + 1) 130 61 [some (.inr 0), some (.inl x1), some (.inl x2), some (.inl x3), some (.inl r10)] [.inr 0, .inr 0] Z15 (zri Q))
    refine z_fr (by rfl) fr65_0 (?_ : TZ (d + 1) 130 64 [some (.inr 0), some (.inl x1), some (.inl x2), some (.inl x3), some (.inl r10)] [.inr 62, .inr 0] Z15 (zri Q))
    refine z_vv (by rfl) (by rfl) cl_0 (TV.mono v fun Z16 v => ?_)
    show TZ (d + 1) 130 67 [some (.inr 0), some (.inl x1), some (.inl x2), some (.inl x3), some (.inl r10)] [] Z16 (zri Q)
    refine z0 (op := 3) (a := 3) (b := 0) (by rfl) (by rfl) (?_ : TZ (d + 1) 130 68 [some (.inr 0), some (.inl x1), some (.inl x2), some (.inl x3), some (.inl r10)] [.inl x3] Z16 (zri Q))
    refine z0 (op := 0) (a := 0) (b := (-1)) (by rfl) (by rfl) (?_ : TZ (d + 1) 130 69 [some (.inr 0), some (.inl x1), some (.inl x2), some (.inl x3), some (.inl r10)] [.inl (-1), .inl x3] Z16 (zri Q))
    obtain ⟨c17, v1, v2⟩ := v
    refine z_if2 (a := 1) (t := 82) (by rfl) (by rfl) c17 (by decide) (fun h18 => ?_) (fun h18 => ?_)
    · have v := v1 h18; clear v1 v2
      show TZ (d + 1) 130 82 [some (.inr 0), some (.inl x1), some (.inl x2), some (.inl x3), some (.inl r10)] [] Z16 (zri Q)
      refine z0 (op := 5) (a := 0) (b := 0) (by rfl) (by rfl) (?_ : TZ (d + 1) 130 83 [some (.inr 0), some (.inl x1), some (.inl x2), some (.inl x3), some (.inl r10)] [.inr 0] Z16 (zri Q))
      refine z_fr (by rfl) fr65_0 (?_ : TZ (d + 1) 130 86 [some (.inr 0), some (.inl x1), some (.inl x2), some (.inl x3), some (.inl r10)] [.inr 62] Z16 (zri Q))
      refine z0 (op := 3) (a := 3) (b := 0) (by rfl) (by rfl) (?_ : TZ (d + 1) 130 87 [some (.inr 0), some (.inl x1), some (.inl x2), some (.inl x3), some (.inl r10)] [.inl x3, .inr 62] Z16 (zri Q))
      refine z_vi (by rfl) (by rfl) cl_62 (TI.mono v fun r20 Z19 v => ?_)
      show TZ (d + 1) 130 90 [some (.inr 0), some (.inl x1), some (.inl x2), some (.inl x3), some (.inl r10)] [.inl r20] Z19 (zri Q)
      exact z_reti (by rfl) (by rfl) v
    · have v := v2 h18; clear v1 v2
      show TZ (d + 1) 130 72 [some (.inr 0), some (.inl x1), some (.inl x2), some (.inl x3), some (.inl r10)] [] Z16 (zri Q)
      refine z0 (op := 5) (a := 0) (b := 0) (by rfl) (by rfl) (?_ : TZ (d + 1) 130 73 [some (.inr 0), some (.inl x1), some (.inl x2), some (.inl x3), some (.inl r10)] [.inr 0] Z16 (zri Q))
      refine z_fr (by rfl) fr65_0 (?_ : TZ (d + 1) 130 76 [some (.inr 0), some (.inl x1), some (.inl x2), some (.inl x3), some (.inl r10)] [.inr 62] Z16 (zri Q))
      refine z_vi (by rfl) (by rfl) cl_62 (TI.mono v fun r22 Z21 v => ?_)
      show TZ (d + 1) 130 79 [some (.inr 0), some (.inl x1), some (.inl x2), some (.inl x3), some (.inl r10)] [.inl r22] Z21 (zri Q)
      refine z_goto (t := 90) (by rfl) (by rfl) (?_ : TZ (d + 1) 130 90 [some (.inr 0), some (.inl x1), some (.inl x2), some (.inl x3), some (.inl r10)] [.inl r22] Z21 (zri Q))
      exact z_reti (by rfl) (by rfl) v
  · have v := v2 h12; clear v1 v2
    show TZ (d + 1) 130 28 [some (.inr 0), some (.inl x1), some (.inl x2), some (.inl x3), some (.inl r10)] [] Z9 (zri Q)
    refine z0 (op := 5) (a := 0) (b := 0) (by rfl) (by rfl) (?_ : TZ (d + 1) 130 29 [some (.inr 0), some (.inl x1), some (.inl x2), some (.inl x3), some (.inl r10)] [.inr 0] Z9 (zri Q))
    refine z0 (op := 4) (a := 4) (b := 0) (by rfl) (by rfl) (?_ : TZ (d + 1) 130 31 [some (.inr 0), some (.inl x1), some (.inl x2), some (.inl x3), some (.inl r10)] [.inl r10, .inr 0] Z9 (zri Q))
    refine z_vi (by rfl) (by rfl) cl_0 (TI.mono v fun r24 Z23 v => ?_)
    show TZ (d + 1) 130 34 [some (.inr 0), some (.inl x1), some (.inl x2), some (.inl x3), some (.inl r10)] [.inl r24] Z23 (zri Q)
    exact z_reti (by rfl) (by rfl) v
theorem w131_0 {d : Nat} {x1 : Int} {Z : zM} {Q : Int → zM → Prop}
    (v : TI d 73 [.inl x1, .inl 1, .inl 6] Z (fun r2 Z1 =>
      zR r2 ∧
        (r2 = 0 → TV d 50 [.inr 66, .inl 4] Z1 (fun Z5 =>
            ∀ Z6, Z6 = zup Z5 66 6 x1 →
              TV d 125 [.inr 0, .inr 66] Z6 (fun Z7 =>
              TI d 55 [.inr 66] Z7 (fun r9 Z8 =>
                Q r9 Z8)))) ∧
        (¬ r2 = 0 → TI d 71 [.inr 0, .inl r2] Z1 (fun r11 Z10 =>
            Q r11 Z10)))) :
    TZ (d + 1) 131 0 [some (.inr 0), some (.inl x1), none] [] Z (zri Q) := by
  refine z0 (op := 3) (a := 1) (b := 0) (by rfl) (by rfl) (?_ : TZ (d + 1) 131 1 [some (.inr 0), some (.inl x1), none] [.inl x1] Z (zri Q))
  refine z0 (op := 0) (a := 0) (b := 1) (by rfl) (by rfl) (?_ : TZ (d + 1) 131 2 [some (.inr 0), some (.inl x1), none] [.inl 1, .inl x1] Z (zri Q))
  refine z0 (op := 1) (a := 0) (b := 6) (by rfl) (by rfl) (?_ : TZ (d + 1) 131 4 [some (.inr 0), some (.inl x1), none] [.inl 6, .inl 1, .inl x1] Z (zri Q))
  refine z_si (by rfl) (by rfl) (TI.mono v fun r2 Z1 v => ?_)
  show TZ (d + 1) 131 7 [some (.inr 0), some (.inl x1), none] [.inl r2] Z1 (zri Q)
  refine z0 (op := 7) (a := 2) (b := 0) (by rfl) (by rfl) (?_ : TZ (d + 1) 131 8 [some (.inr 0), some (.inl x1), some (.inl r2)] [] Z1 (zri Q))
  refine z0 (op := 3) (a := 2) (b := 0) (by rfl) (by rfl) (?_ : TZ (d + 1) 131 9 [some (.inr 0), some (.inl x1), some (.inl r2)] [.inl r2] Z1 (zri Q))
  obtain ⟨c3, v1, v2⟩ := v
  refine z_if0 (a := 0) (t := 18) (by rfl) (by rfl) c3 (fun h4 => ?_) (fun h4 => ?_)
  · have v := v1 h4; clear v1 v2
    show TZ (d + 1) 131 18 [some (.inr 0), some (.inl x1), some (.inl r2)] [] Z1 (zri Q)
    refine z0 (op := 5) (a := 0) (b := 0) (by rfl) (by rfl) (?_ : TZ (d + 1) 131 19 [some (.inr 0), some (.inl x1), some (.inl r2)] [.inr 0] Z1 (zri Q))
    refine z_fr (by rfl) fr66_0 (?_ : TZ (d + 1) 131 22 [some (.inr 0), some (.inl x1), some (.inl r2)] [.inr 66] Z1 (zri Q))
    refine z0 (op := 0) (a := 0) (b := 4) (by rfl) (by rfl) (?_ : TZ (d + 1) 131 23 [some (.inr 0), some (.inl x1), some (.inl r2)] [.inl 4, .inr 66] Z1 (zri Q))
    refine z_vv (by rfl) (by rfl) cl_66 (TV.mono v fun Z5 v => ?_)
    show TZ (d + 1) 131 26 [some (.inr 0), some (.inl x1), some (.inl r2)] [] Z5 (zri Q)
    refine z0 (op := 5) (a := 0) (b := 0) (by rfl) (by rfl) (?_ : TZ (d + 1) 131 27 [some (.inr 0), some (.inl x1), some (.inl r2)] [.inr 0] Z5 (zri Q))
    refine z_fr (by rfl) fr66_0 (?_ : TZ (d + 1) 131 30 [some (.inr 0), some (.inl x1), some (.inl r2)] [.inr 66] Z5 (zri Q))
    refine z0 (op := 3) (a := 1) (b := 0) (by rfl) (by rfl) (?_ : TZ (d + 1) 131 31 [some (.inr 0), some (.inl x1), some (.inl r2)] [.inl x1, .inr 66] Z5 (zri Q))
    obtain ⟨Z6, eZ6⟩ : ∃ zz, zz = zup Z5 66 6 x1 := ⟨_, rfl⟩
    have v := v Z6 eZ6
    refine z_pf (by rfl) pf86_66 (fun h => nomatch h) ?_
    show TZ (d + 1) 131 34 [some (.inr 0), some (.inl x1), some (.inl r2)] [] (zup Z5 66 6 x1) _
    rw [← eZ6]
    refine z0 (op := 5) (a := 0) (b := 0) (by rfl) (by rfl) (?_ : TZ (d + 1) 131 35 [some (.inr 0), some (.inl x1), some (.inl r2)] [.inr 0] Z6 (zri Q))
    refine z0 (op := 5) (a := 0) (b := 0) (by rfl) (by rfl) (?_ : TZ (d + 1) 131 36 [some (.inr 0), some (.inl x1), some (.inl r2)] [.inr 0, .inr 0] Z6 (zri Q))
    refine z_fr (by rfl) fr66_0 (?_ : TZ (d + 1) 131 39 [some (.inr 0), some (.inl x1), some (.inl r2)] [.inr 66, .inr 0] Z6 (zri Q))
    refine z_vv (by rfl) (by rfl) cl_0 (TV.mono v fun Z7 v => ?_)
    show TZ (d + 1) 131 42 [some (.inr 0), some (.inl x1), some (.inl r2)] [] Z7 (zri Q)
    refine z0 (op := 5) (a := 0) (b := 0) (by rfl) (by rfl) (?_ : TZ (d + 1) 131 43 [some (.inr 0), some (.inl x1), some (.inl r2)] [.inr 0] Z7 (zri Q))
    refine z_fr (by rfl) fr66_0 (?_ : TZ (d + 1) 131 46 [some (.inr 0), some (.inl x1), some (.inl r2)] [.inr 66] Z7 (zri Q))
    refine z_vi (by rfl) (by rfl) cl_66 (TI.mono v fun r9 Z8 v => ?_)
    show TZ (d + 1) 131 49 [some (.inr 0), some (.inl x1), some (.inl r2)] [.inl r9] Z8 (zri Q)
    exact z_reti (by rfl) (by rfl) v
  · have v := v2 h4; clear v1 v2
    show TZ (d + 1) 131 12 [some (.inr 0), some (.inl x1), some (.inl r2)] [] Z1 (zri Q)
    refine z0 (op := 5) (a := 0) (b := 0) (by rfl) (by rfl) (?_ : TZ (d + 1) 131 13 [some (.inr 0), some (.inl x1), some (.inl r2)] [.inr 0] Z1 (zri Q))
    refine z0 (op := 3) (a := 2) (b := 0) (by rfl) (by rfl) (?_ : TZ (d + 1) 131 14 [some (.inr 0), some (.inl x1), some (.inl r2)] [.inl r2, .inr 0] Z1 (zri Q))
    refine z_vi (by rfl) (by rfl) cl_0 (TI.mono v fun r11 Z10 v => ?_)
    show TZ (d + 1) 131 17 [some (.inr 0), some (.inl x1), some (.inl r2)] [.inl r11] Z10 (zri Q)
    exact z_reti (by rfl) (by rfl) v
theorem w132_0 {d : Nat} {Z : zM} {Q : Int → zM → Prop}
    (v : TZ d 132 4 [some (.inr 0), some (.inl 0), some (.inl 0), none] [] Z (zri Q)) :
    TZ d 132 0 [some (.inr 0), none, none, none] [] Z (zri Q) := by
  refine z0 (op := 0) (a := 0) (b := 0) (by rfl) (by rfl) (?_ : TZ d 132 1 [some (.inr 0), none, none, none] [.inl 0] Z (zri Q))
  refine z0 (op := 7) (a := 1) (b := 0) (by rfl) (by rfl) (?_ : TZ d 132 2 [some (.inr 0), some (.inl 0), none, none] [] Z (zri Q))
  refine z0 (op := 0) (a := 0) (b := 0) (by rfl) (by rfl) (?_ : TZ d 132 3 [some (.inr 0), some (.inl 0), none, none] [.inl 0] Z (zri Q))
  refine z0 (op := 7) (a := 2) (b := 0) (by rfl) (by rfl) (?_ : TZ d 132 4 [some (.inr 0), some (.inl 0), some (.inl 0), none] [] Z (zri Q))
  exact v
theorem w132_4 {d : Nat} {x1 x2 : Int} {o3 : Option zV} {Z : zM} {Q : Int → zM → Prop}
    (v : zR x2 ∧
      zR (Z 1 6) ∧
      ((Z 1 6) ≤ x2 → Q x1 Z) ∧
      (¬ (Z 1 6) ≤ x2 → TZ d 132 19 [some (.inr 0), some (.inl x1), some (.inl x2), some (.inl (x2 - 1))] [] Z (zri Q))) :
    TZ d 132 4 [some (.inr 0), some (.inl x1), some (.inl x2), o3] [] Z (zri Q) := by
  refine z0 (op := 3) (a := 2) (b := 0) (by rfl) (by rfl) (?_ : TZ d 132 5 [some (.inr 0), some (.inl x1), some (.inl x2), o3] [.inl x2] Z (zri Q))
  refine z0 (op := 5) (a := 0) (b := 0) (by rfl) (by rfl) (?_ : TZ d 132 6 [some (.inr 0), some (.inl x1), some (.inl x2), o3] [.inr 0, .inl x2] Z (zri Q))
  refine z_fr (by rfl) fr50_0 (?_ : TZ d 132 9 [some (.inr 0), some (.inl x1), some (.inl x2), o3] [.inr 1, .inl x2] Z (zri Q))
  refine z_fi (by rfl) fi69_1 (?_ : TZ d 132 12 [some (.inr 0), some (.inl x1), some (.inl x2), o3] [.inl (Z 1 6), .inl x2] Z (zri Q))
  obtain ⟨c1, c2, v1, v2⟩ := v
  refine z_if2 (a := 3) (t := 82) (by rfl) (by rfl) c1 c2 (fun h3 => ?_) (fun h3 => ?_)
  · have v := v1 h3; clear v1 v2
    show TZ d 132 82 [some (.inr 0), some (.inl x1), some (.inl x2), o3] [] Z (zri Q)
    refine z0 (op := 3) (a := 1) (b := 0) (by rfl) (by rfl) (?_ : TZ d 132 83 [some (.inr 0), some (.inl x1), some (.inl x2), o3] [.inl x1] Z (zri Q))
    exact z_reti (by rfl) (by rfl) v
  · have v := v2 h3; clear v1 v2
    show TZ d 132 15 [some (.inr 0), some (.inl x1), some (.inl x2), o3] [] Z (zri Q)
    refine z0 (op := 3) (a := 2) (b := 0) (by rfl) (by rfl) (?_ : TZ d 132 16 [some (.inr 0), some (.inl x1), some (.inl x2), o3] [.inl x2] Z (zri Q))
    refine z0 (op := 0) (a := 0) (b := 1) (by rfl) (by rfl) (?_ : TZ d 132 17 [some (.inr 0), some (.inl x1), some (.inl x2), o3] [.inl 1, .inl x2] Z (zri Q))
    refine z0 (op := 12) (a := 1) (b := 0) (by rfl) (by rfl) (?_ : TZ d 132 18 [some (.inr 0), some (.inl x1), some (.inl x2), o3] [.inl (x2 - 1)] Z (zri Q))
    refine z0 (op := 7) (a := 3) (b := 0) (by rfl) (by rfl) (?_ : TZ d 132 19 [some (.inr 0), some (.inl x1), some (.inl x2), some (.inl (x2 - 1))] [] Z (zri Q))
    exact v
theorem w132_19 {d : Nat} {x1 x2 x3 : Int} {Z : zM} {Q : Int → zM → Prop}
    (v : zR x3 ∧
      zR (x2 + 1) ∧
      ((x2 + 1) < x3 → TZ (d + 1) 132 4 [some (.inr 0), some (.inl x1), some (.inl (x2 + 1)), some (.inl x3)] [] Z (zri Q)) ∧
      (¬ (x2 + 1) < x3 → TI d 17 [.inr 1, .inl x3] Z (fun r5 Z4 =>
          zR r5 ∧
            (r5 = 0 → TZ (d + 1) 132 19 [some (.inr 0), some (.inl x1), some (.inl x2), some (.inl (x3 + 2))] [] Z4 (zri Q)) ∧
            (¬ r5 = 0 → ((0 ≤ x3 ∧ x3 < 6) ∧
                (0 ≤ x2 ∧ x2 < 6) ∧
                zR (Z4 6 x3) ∧
                zR (Z4 6 x2) ∧
                ((Z4 6 x3) = (Z4 6 x2) → TZ (d + 1) 132 19 [some (.inr 0), some (.inl x1), some (.inl x2), some (.inl (x3 + 2))] [] Z4 (zri Q)) ∧
                (¬ (Z4 6 x3) = (Z4 6 x2) → ((0 ≤ x2 ∧ x2 < 6) ∧ TZ (d + 1) 132 19 [some (.inr 0), some (.inl (x1 + (Z4 5 x2))), some (.inl x2), some (.inl (x3 + 2))] [] Z4 (zri Q)))))))) :
    TZ (d + 1) 132 19 [some (.inr 0), some (.inl x1), some (.inl x2), some (.inl x3)] [] Z (zri Q) := by
  refine z0 (op := 3) (a := 3) (b := 0) (by rfl) (by rfl) (?_ : TZ (d + 1) 132 20 [some (.inr 0), some (.inl x1), some (.inl x2), some (.inl x3)] [.inl x3] Z (zri Q))
  refine z0 (op := 3) (a := 2) (b := 0) (by rfl) (by rfl) (?_ : TZ (d + 1) 132 21 [some (.inr 0), some (.inl x1), some (.inl x2), some (.inl x3)] [.inl x2, .inl x3] Z (zri Q))
  refine z0 (op := 0) (a := 0) (b := 1) (by rfl) (by rfl) (?_ : TZ (d + 1) 132 22 [some (.inr 0), some (.inl x1), some (.inl x2), some (.inl x3)] [.inl 1, .inl x2, .inl x3] Z (zri Q))
  refine z0 (op := 12) (a := 0) (b := 0) (by rfl) (by rfl) (?_ : TZ (d + 1) 132 23 [some (.inr 0), some (.inl x1), some (.inl x2), some (.inl x3)] [.inl (x2 + 1), .inl x3] Z (zri Q))
  obtain ⟨c1, c2, v1, v2⟩ := v
  refine z_if2 (a := 4) (t := 76) (by rfl) (by rfl) c1 c2 (fun h3 => ?_) (fun h3 => ?_)
  · have v := v1 h3; clear v1 v2
    show TZ (d + 1) 132 76 [some (.inr 0), some (.inl x1), some (.inl x2), some (.inl x3)] [] Z (zri Q)
    refine z0 (op := 11) (a := 2) (b := 1) (by rfl) (by rfl) (?_ : TZ (d + 1) 132 79 [some (.inr 0), some (.inl x1), some (.inl (x2 + 1)), some (.inl x3)] [] Z (zri Q))
    refine z_goto (t := 4) (by rfl) (by rfl) (?_ : TZ (d + 1) 132 4 [some (.inr 0), some (.inl x1), some (.inl (x2 + 1)), some (.inl x3)] [] Z (zri Q))
    exact v
  · have v := v2 h3; clear v1 v2
    show TZ (d + 1) 132 26 [some (.inr 0), some (.inl x1), some (.inl x2), some (.inl x3)] [] Z (zri Q)
    refine z0 (op := 5) (a := 0) (b := 0) (by rfl) (by rfl) (?_ : TZ (d + 1) 132 27 [some (.inr 0), some (.inl x1), some (.inl x2), some (.inl x3)] [.inr 0] Z (zri Q))
    refine z_fr (by rfl) fr50_0 (?_ : TZ (d + 1) 132 30 [some (.inr 0), some (.inl x1), some (.inl x2), some (.inl x3)] [.inr 1] Z (zri Q))
    refine z0 (op := 3) (a := 3) (b := 0) (by rfl) (by rfl) (?_ : TZ (d + 1) 132 31 [some (.inr 0), some (.inl x1), some (.inl x2), some (.inl x3)] [.inl x3, .inr 1] Z (zri Q))
    refine z_vi (by rfl) (by rfl) cl_1 (TI.mono v fun r5 Z4 v => ?_)
    show TZ (d + 1) 132 34 [some (.inr 0), some (.inl x1), some (.inl x2), some (.inl x3)] [.inl r5] Z4 (zri Q)
    obtain ⟨c6, v1, v2⟩ := v
    refine z_if0 (a := 0) (t := 70) (by rfl) (by rfl) c6 (fun h7 => ?_) (fun h7 => ?_)
    · have v := v1 h7; clear v1 v2
      show TZ (d + 1) 132 70 [some (.inr 0), some (.inl x1), some (.inl x2), some (.inl x3)] [] Z4 (zri Q)
      refine z0 (op := 11) (a := 3) (b := 2) (by rfl) (by rfl) (?_ : TZ (d + 1) 132 73 [some (.inr 0), some (.inl x1), some (.inl x2), some (.inl (x3 + 2))] [] Z4 (zri Q))
      refine z_goto (t := 19) (by rfl) (by rfl) (?_ : TZ (d + 1) 132 19 [some (.inr 0), some (.inl x1), some (.inl x2), some (.inl (x3 + 2))] [] Z4 (zri Q))
      exact v
    · have v := v2 h7; clear v1 v2
      show TZ (d + 1) 132 37 [some (.inr 0), some (.inl x1), some (.inl x2), some (.inl x3)] [] Z4 (zri Q)
      refine z0 (op := 5) (a := 0) (b := 0) (by rfl) (by rfl) (?_ : TZ (d + 1) 132 38 [some (.inr 0), some (.inl x1), some (.inl x2), some (.inl x3)] [.inr 0] Z4 (zri Q))
      refine z_fr (by rfl) fr50_0 (?_ : TZ (d + 1) 132 41 [some (.inr 0), some (.inl x1), some (.inl x2), some (.inl x3)] [.inr 1] Z4 (zri Q))
      refine z_fr (by rfl) fr71_1 (?_ : TZ (d + 1) 132 44 [some (.inr 0), some (.inl x1), some (.inl x2), some (.inl x3)] [.inr 6] Z4 (zri Q))
      refine z0 (op := 3) (a := 3) (b := 0) (by rfl) (by rfl) (?_ : TZ (d + 1) 132 45 [some (.inr 0), some (.inl x1), some (.inl x2), some (.inl x3)] [.inl x3, .inr 6] Z4 (zri Q))
      obtain ⟨c8, v⟩ := v
      refine z_al (by rfl) ln_6 c8 (?_ : TZ (d + 1) 132 46 [some (.inr 0), some (.inl x1), some (.inl x2), some (.inl x3)] [.inl (Z4 6 x3)] Z4 (zri Q))
      refine z0 (op := 5) (a := 0) (b := 0) (by rfl) (by rfl) (?_ : TZ (d + 1) 132 47 [some (.inr 0), some (.inl x1), some (.inl x2), some (.inl x3)] [.inr 0, .inl (Z4 6 x3)] Z4 (zri Q))
      refine z_fr (by rfl) fr50_0 (?_ : TZ (d + 1) 132 50 [some (.inr 0), some (.inl x1), some (.inl x2), some (.inl x3)] [.inr 1, .inl (Z4 6 x3)] Z4 (zri Q))
      refine z_fr (by rfl) fr71_1 (?_ : TZ (d + 1) 132 53 [some (.inr 0), some (.inl x1), some (.inl x2), some (.inl x3)] [.inr 6, .inl (Z4 6 x3)] Z4 (zri Q))
      refine z0 (op := 3) (a := 2) (b := 0) (by rfl) (by rfl) (?_ : TZ (d + 1) 132 54 [some (.inr 0), some (.inl x1), some (.inl x2), some (.inl x3)] [.inl x2, .inr 6, .inl (Z4 6 x3)] Z4 (zri Q))
      obtain ⟨c9, v⟩ := v
      refine z_al (by rfl) ln_6 c9 (?_ : TZ (d + 1) 132 55 [some (.inr 0), some (.inl x1), some (.inl x2), some (.inl x3)] [.inl (Z4 6 x2), .inl (Z4 6 x3)] Z4 (zri Q))
      obtain ⟨c10, c11, v1, v2⟩ := v
      refine z_if2 (a := 0) (t := 70) (by rfl) (by rfl) c10 c11 (fun h12 => ?_) (fun h12 => ?_)
      · have v := v1 h12; clear v1 v2
        show TZ (d + 1) 132 70 [some (.inr 0), some (.inl x1), some (.inl x2), some (.inl x3)] [] Z4 (zri Q)
        refine z0 (op := 11) (a := 3) (b := 2) (by rfl) (by rfl) (?_ : TZ (d + 1) 132 73 [some (.inr 0), some (.inl x1), some (.inl x2), some (.inl (x3 + 2))] [] Z4 (zri Q))
        refine z_goto (t := 19) (by rfl) (by rfl) (?_ : TZ (d + 1) 132 19 [some (.inr 0), some (.inl x1), some (.inl x2), some (.inl (x3 + 2))] [] Z4 (zri Q))
        exact v
      · have v := v2 h12; clear v1 v2
        show TZ (d + 1) 132 58 [some (.inr 0), some (.inl x1), some (.inl x2), some (.inl x3)] [] Z4 (zri Q)
        refine z0 (op := 3) (a := 1) (b := 0) (by rfl) (by rfl) (?_ : TZ (d + 1) 132 59 [some (.inr 0), some (.inl x1), some (.inl x2), some (.inl x3)] [.inl x1] Z4 (zri Q))
        refine z0 (op := 5) (a := 0) (b := 0) (by rfl) (by rfl) (?_ : TZ (d + 1) 132 60 [some (.inr 0), some (.inl x1), some (.inl x2), some (.inl x3)] [.inr 0, .inl x1] Z4 (zri Q))
        refine z_fr (by rfl) fr50_0 (?_ : TZ (d + 1) 132 63 [some (.inr 0), some (.inl x1), some (.inl x2), some (.inl x3)] [.inr 1, .inl x1] Z4 (zri Q))
        refine z_fr (by rfl) fr76_1 (?_ : TZ (d + 1) 132 66 [some (.inr 0), some (.inl x1), some (.inl x2), some (.inl x3)] [.inr 5, .inl x1] Z4 (zri Q))
        refine z0 (op := 3) (a := 2) (b := 0) (by rfl) (by rfl) (?_ : TZ (d + 1) 132 67 [some (.inr 0), some (.inl x1), some (.inl x2), some (.inl x3)] [.inl x2, .inr 5, .inl x1] Z4 (zri Q))
        obtain ⟨c13, v⟩ := v
        refine z_al (by rfl) ln_5 c13 (?_ : TZ (d + 1) 132 68 [some (.inr 0), some (.inl x1), some (.inl x2), some (.inl x3)] [.inl (Z4 5 x2), .inl x1] Z4 (zri Q))
        refine z0 (op := 12) (a := 0) (b := 0) (by rfl) (by rfl) (?_ : TZ (d + 1) 132 69 [some (.inr 0), some (.inl x1), some (.inl x2), some (.inl x3)] [.inl (x1 + (Z4 5 x2))] Z4 (zri Q))
        refine z0 (op := 7) (a := 1) (b := 0) (by rfl) (by rfl) (?_ : TZ (d + 1) 132 70 [some (.inr 0), some (.inl (x1 + (Z4 5 x2))), some (.inl x2), some (.inl x3)] [] Z4 (zri Q))
        refine z0 (op := 11) (a := 3) (b := 2) (by rfl) (by rfl) (?_ : TZ (d + 1) 132 73 [some (.inr 0), some (.inl (x1 + (Z4 5 x2))), some (.inl x2), some (.inl (x3 + 2))] [] Z4 (zri Q))
        refine z_goto (t := 19) (by rfl) (by rfl) (?_ : TZ (d + 1) 132 19 [some (.inr 0), some (.inl (x1 + (Z4 5 x2))), some (.inl x2), some (.inl (x3 + 2))] [] Z4 (zri Q))
        exact v
theorem w133_0 {d : Nat} {x1 : Int} {Z : zM} {Q : Int → zM → Prop}
    (v : TI d 73 [.inl x1, .inl 0, .inl 11] Z (fun r2 Z1 =>
      zR r2 ∧
        (r2 = 0 → TR d 97 [.inr 0] Z1 (fun r6 Z5 =>
            r6 = 19 ∧
              TI d 134 [.inr 19, .inl x1, .inl 3] Z5 (fun r8 Z7 =>
              zR r8 ∧
                (1000000 ≤ r8 → Q (-9) Z7) ∧
                (¬ 1000000 ≤ r8 → Q r8 Z7)))) ∧
        (¬ r2 = 0 → TI d 71 [.inr 0, .inl r2] Z1 (fun r12 Z11 =>
            Q r12 Z11)))) :
    TZ (d + 1) 133 0 [some (.inr 0), some (.inl x1), none, none] [] Z (zri Q) := by
  refine z0 (op := 3) (a := 1) (b := 0) (by rfl) (by rfl) (?_ : TZ (d + 1) 133 1 [some (.inr 0), some (.inl x1), none, none] [.inl x1] Z (zri Q))
  refine z0 (op := 0) (a := 0) (b := 0) (by rfl) (by rfl) (?_ : TZ (d + 1) 133 2 [some (.inr 0), some (.inl x1), none, none] [.inl 0, .inl x1] Z (zri Q))
  refine z0 (op := 1) (a := 0) (b := 11) (by rfl) (by rfl) (?_ : TZ (d + 1) 133 4 [some (.inr 0), some (.inl x1), none, none] [.inl 11, .inl 0, .inl x1] Z (zri Q))
  refine z_si (by rfl) (by rfl) (TI.mono v fun r2 Z1 v => ?_)
  show TZ (d + 1) 133 7 [some (.inr 0), some (.inl x1), none, none] [.inl r2] Z1 (zri Q)
  refine z0 (op := 7) (a := 2) (b := 0) (by rfl) (by rfl) (?_ : TZ (d + 1) 133 8 [some (.inr 0), some (.inl x1), some (.inl r2), none] [] Z1 (zri Q))
  refine z0 (op := 3) (a := 2) (b := 0) (by rfl) (by rfl) (?_ : TZ (d + 1) 133 9 [some (.inr 0), some (.inl x1), some (.inl r2), none] [.inl r2] Z1 (zri Q))
  obtain ⟨c3, v1, v2⟩ := v
  refine z_if0 (a := 0) (t := 18) (by rfl) (by rfl) c3 (fun h4 => ?_) (fun h4 => ?_)
  · have v := v1 h4; clear v1 v2
    show TZ (d + 1) 133 18 [some (.inr 0), some (.inl x1), some (.inl r2), none] [] Z1 (zri Q)
    refine z0 (op := 5) (a := 0) (b := 0) (by rfl) (by rfl) (?_ : TZ (d + 1) 133 19 [some (.inr 0), some (.inl x1), some (.inl r2), none] [.inr 0] Z1 (zri Q))
    refine z_vr (by rfl) (by rfl) cl_0 (TR.mono v fun r6 Z5 v => ?_)
    obtain ⟨er6, v⟩ := v
    subst er6
    show TZ (d + 1) 133 22 [some (.inr 0), some (.inl x1), some (.inl r2), none] [.inr 19] Z5 (zri Q)
    refine z0 (op := 3) (a := 1) (b := 0) (by rfl) (by rfl) (?_ : TZ (d + 1) 133 23 [some (.inr 0), some (.inl x1), some (.inl r2), none] [.inl x1, .inr 19] Z5 (zri Q))
    refine z0 (op := 0) (a := 0) (b := 3) (by rfl) (by rfl) (?_ : TZ (d + 1) 133 24 [some (.inr 0), some (.inl x1), some (.inl r2), none] [.inl 3, .inl x1, .inr 19] Z5 (zri Q))
    refine z_si (by rfl) (by rfl) (TI.mono v fun r8 Z7 v => ?_)
    show TZ (d + 1) 133 27 [some (.inr 0), some (.inl x1), some (.inl r2), none] [.inl r8] Z7 (zri Q)
    refine z0 (op := 7) (a := 3) (b := 0) (by rfl) (by rfl) (?_ : TZ (d + 1) 133 28 [some (.inr 0), some (.inl x1), some (.inl r2), some (.inl r8)] [] Z7 (zri Q))
    refine z0 (op := 3) (a := 3) (b := 0) (by rfl) (by rfl) (?_ : TZ (d + 1) 133 29 [some (.inr 0), some (.inl x1), some (.inl r2), some (.inl r8)] [.inl r8] Z7 (zri Q))
    refine z_con (op := 1) (a := 11) (b := 0) (by rfl) (by rfl) (by decide) (?_ : TZ (d + 1) 133 32 [some (.inr 0), some (.inl x1), some (.inl r2), some (.inl r8)] [.inl 1000000, .inl r8] Z7 (zri Q))
    obtain ⟨c9, v1, v2⟩ := v
    refine z_if2 (a := 3) (t := 39) (by rfl) (by rfl) c9 (by decide) (fun h10 => ?_) (fun h10 => ?_)
    · have v := v1 h10; clear v1 v2
      show TZ (d + 1) 133 39 [some (.inr 0), some (.inl x1), some (.inl r2), some (.inl r8)] [] Z7 (zri Q)
      refine z0 (op := 1) (a := 0) (b := (-9)) (by rfl) (by rfl) (?_ : TZ (d + 1) 133 41 [some (.inr 0), some (.inl x1), some (.inl r2), some (.inl r8)] [.inl (-9)] Z7 (zri Q))
      exact z_reti (by rfl) (by rfl) v
    · have v := v2 h10; clear v1 v2
      show TZ (d + 1) 133 35 [some (.inr 0), some (.inl x1), some (.inl r2), some (.inl r8)] [] Z7 (zri Q)
      refine z0 (op := 3) (a := 3) (b := 0) (by rfl) (by rfl) (?_ : TZ (d + 1) 133 36 [some (.inr 0), some (.inl x1), some (.inl r2), some (.inl r8)] [.inl r8] Z7 (zri Q))
      refine z_goto (t := 41) (by rfl) (by rfl) (?_ : TZ (d + 1) 133 41 [some (.inr 0), some (.inl x1), some (.inl r2), some (.inl r8)] [.inl r8] Z7 (zri Q))
      exact z_reti (by rfl) (by rfl) v
  · have v := v2 h4; clear v1 v2
    show TZ (d + 1) 133 12 [some (.inr 0), some (.inl x1), some (.inl r2), none] [] Z1 (zri Q)
    refine z0 (op := 5) (a := 0) (b := 0) (by rfl) (by rfl) (?_ : TZ (d + 1) 133 13 [some (.inr 0), some (.inl x1), some (.inl r2), none] [.inr 0] Z1 (zri Q))
    refine z0 (op := 3) (a := 2) (b := 0) (by rfl) (by rfl) (?_ : TZ (d + 1) 133 14 [some (.inr 0), some (.inl x1), some (.inl r2), none] [.inl r2, .inr 0] Z1 (zri Q))
    refine z_vi (by rfl) (by rfl) cl_0 (TI.mono v fun r12 Z11 v => ?_)
    show TZ (d + 1) 133 17 [some (.inr 0), some (.inl x1), some (.inl r2), none] [.inl r12] Z11 (zri Q)
    exact z_reti (by rfl) (by rfl) v
theorem w134_0 {d : Nat} {k : Nat} {x1 x2 : Int} {Z : zM} {Q : Int → zM → Prop} (hk : k ∈ zFl)
    (v : TI d 22 [.inr k] Z (fun r2 Z1 =>
      zR r2 ∧
        zR x1 ∧
        (r2 ≠ x1 → (zR x2 ∧
            (0 < x2 → TZ (d + 1) 134 25 [some (.inr k), some (.inl x1), some (.inl x2), some (.inl 1000000), some (.inl 0), none] [] Z1 (zri Q)) ∧
            (¬ 0 < x2 → Q 1000000 Z1))) ∧
        (¬ r2 ≠ x1 → Q 0 Z1))) :
    TZ (d + 1) 134 0 [some (.inr k), some (.inl x1), some (.inl x2), none, none, none] [] Z (zri Q) := by
  refine z0 (op := 5) (a := 0) (b := 0) (by rfl) (by rfl) (?_ : TZ (d + 1) 134 1 [some (.inr k), some (.inl x1), some (.inl x2), none, none, none] [.inr k] Z (zri Q))
  refine z_vi (by rfl) (by rfl) (cl_F0 _ hk) (TI.mono v fun r2 Z1 v => ?_)
  show TZ (d + 1) 134 4 [some (.inr k), some (.inl x1), some (.inl x2), none, none, none] [.inl r2] Z1 (zri Q)
  refine z0 (op := 3) (a := 1) (b := 0) (by rfl) (by rfl) (?_ : TZ (d + 1) 134 5 [some (.inr k), some (.inl x1), some (.inl x2), none, none, none] [.inl x1, .inl r2] Z1 (zri Q))
  obtain ⟨c3, c4, v1, v2⟩ := v
  refine z_if2 (a := 1) (t := 10) (by rfl) (by rfl) c3 c4 (fun h5 => ?_) (fun h5 => ?_)
  · have v := v1 h5; clear v1 v2
    show TZ (d + 1) 134 10 [some (.inr k), some (.inl x1), some (.inl x2), none, none, none] [] Z1 (zri Q)
    refine z0 (op := 3) (a := 2) (b := 0) (by rfl) (by rfl) (?_ : TZ (d + 1) 134 11 [some (.inr k), some (.inl x1), some (.inl x2), none, none, none] [.inl x2] Z1 (zri Q))
    obtain ⟨c6, v1, v2⟩ := v
    refine z_if0 (a := 4) (t := 18) (by rfl) (by rfl) c6 (fun h7 => ?_) (fun h7 => ?_)
    · have v := v1 h7; clear v1 v2
      show TZ (d + 1) 134 18 [some (.inr k), some (.inl x1), some (.inl x2), none, none, none] [] Z1 (zri Q)
      refine z_con (op := 1) (a := 11) (b := 0) (by rfl) (by rfl) (by decide) (?_ : TZ (d + 1) 134 21 [some (.inr k), some (.inl x1), some (.inl x2), none, none, none] [.inl 1000000] Z1 (zri Q))
      refine z0 (op := 7) (a := 3) (b := 0) (by rfl) (by rfl) (?_ : TZ (d + 1) 134 22 [some (.inr k), some (.inl x1), some (.inl x2), some (.inl 1000000), none, none] [] Z1 (zri Q))
      refine z0 (op := 0) (a := 0) (b := 0) (by rfl) (by rfl) (?_ : TZ (d + 1) 134 23 [some (.inr k), some (.inl x1), some (.inl x2), some (.inl 1000000), none, none] [.inl 0] Z1 (zri Q))
      refine z0 (op := 8) (a := 4) (b := 0) (by rfl) (by rfl) (?_ : TZ (d + 1) 134 25 [some (.inr k), some (.inl x1), some (.inl x2), some (.inl 1000000), some (.inl 0), none] [] Z1 (zri Q))
      exact v
    · have v := v2 h7; clear v1 v2
      show TZ (d + 1) 134 14 [some (.inr k), some (.inl x1), some (.inl x2), none, none, none] [] Z1 (zri Q)
      refine z_con (op := 1) (a := 11) (b := 0) (by rfl) (by rfl) (by decide) (?_ : TZ (d + 1) 134 17 [some (.inr k), some (.inl x1), some (.inl x2), none, none, none] [.inl 1000000] Z1 (zri Q))
      exact z_reti (by rfl) (by rfl) v
  · have v := v2 h5; clear v1 v2
    show TZ (d + 1) 134 8 [some (.inr k), some (.inl x1), some (.inl x2), none, none, none] [] Z1 (zri Q)
    refine z0 (op := 0) (a := 0) (b := 0) (by rfl) (by rfl) (?_ : TZ (d + 1) 134 9 [some (.inr k), some (.inl x1), some (.inl x2), none, none, none] [.inl 0] Z1 (zri Q))
    exact z_reti (by rfl) (by rfl) v
theorem w134_25 {d : Nat} {k : Nat} {x1 x2 x3 x4 : Int} {o5 : Option zV} {Z : zM} {Q : Int → zM → Prop} (hk : k ∈ zFl)
    (v : zR x4 ∧
      zR (Z k 6) ∧
      ((Z k 6) ≤ x4 → (zR x3 ∧ Q (min x3 1000000) Z)) ∧
      (¬ (Z k 6) ≤ x4 → TZ (d + 1) 134 40 [some (.inr k), some (.inl x1), some (.inl x2), some (.inl x3), some (.inl x4), some (.inl (x4 - 1))] [] Z (zri Q))) :
    TZ (d + 1) 134 25 [some (.inr k), some (.inl x1), some (.inl x2), some (.inl x3), some (.inl x4), o5] [] Z (zri Q) := by
  refine z0 (op := 4) (a := 4) (b := 0) (by rfl) (by rfl) (?_ : TZ (d + 1) 134 27 [some (.inr k), some (.inl x1), some (.inl x2), some (.inl x3), some (.inl x4), o5] [.inl x4] Z (zri Q))
  refine z0 (op := 5) (a := 0) (b := 0) (by rfl) (by rfl) (?_ : TZ (d + 1) 134 28 [some (.inr k), some (.inl x1), some (.inl x2), some (.inl x3), some (.inl x4), o5] [.inr k, .inl x4] Z (zri Q))
  refine z_fi (by rfl) (fi69_F0 _ hk) (?_ : TZ (d + 1) 134 31 [some (.inr k), some (.inl x1), some (.inl x2), some (.inl x3), some (.inl x4), o5] [.inl (Z k 6), .inl x4] Z (zri Q))
  obtain ⟨c1, c2, v1, v2⟩ := v
  refine z_if2 (a := 3) (t := 111) (by rfl) (by rfl) c1 c2 (fun h3 => ?_) (fun h3 => ?_)
  · have v := v1 h3; clear v1 v2
    show TZ (d + 1) 134 111 [some (.inr k), some (.inl x1), some (.inl x2), some (.inl x3), some (.inl x4), o5] [] Z (zri Q)
    refine z0 (op := 3) (a := 3) (b := 0) (by rfl) (by rfl) (?_ : TZ (d + 1) 134 112 [some (.inr k), some (.inl x1), some (.inl x2), some (.inl x3), some (.inl x4), o5] [.inl x3] Z (zri Q))
    refine z_con (op := 1) (a := 11) (b := 0) (by rfl) (by rfl) (by decide) (?_ : TZ (d + 1) 134 115 [some (.inr k), some (.inl x1), some (.inl x2), some (.inl x3), some (.inl x4), o5] [.inl 1000000, .inl x3] Z (zri Q))
    obtain ⟨c4, v⟩ := v
    refine z_min (by rfl) (by rfl) (Nat.le_of_ble_eq_true rfl) c4 (by decide) (?_ : TZ (d + 1) 134 118 [some (.inr k), some (.inl x1), some (.inl x2), some (.inl x3), some (.inl x4), o5] [.inl (min x3 1000000)] Z (zri Q))
    exact z_reti (by rfl) (by rfl) v
  · have v := v2 h3; clear v1 v2
    show TZ (d + 1) 134 34 [some (.inr k), some (.inl x1), some (.inl x2), some (.inl x3), some (.inl x4), o5] [] Z (zri Q)
    refine z0 (op := 4) (a := 4) (b := 0) (by rfl) (by rfl) (?_ : TZ (d + 1) 134 36 [some (.inr k), some (.inl x1), some (.inl x2), some (.inl x3), some (.inl x4), o5] [.inl x4] Z (zri Q))
    refine z0 (op := 0) (a := 0) (b := 1) (by rfl) (by rfl) (?_ : TZ (d + 1) 134 37 [some (.inr k), some (.inl x1), some (.inl x2), some (.inl x3), some (.inl x4), o5] [.inl 1, .inl x4] Z (zri Q))
    refine z0 (op := 12) (a := 1) (b := 0) (by rfl) (by rfl) (?_ : TZ (d + 1) 134 38 [some (.inr k), some (.inl x1), some (.inl x2), some (.inl x3), some (.inl x4), o5] [.inl (x4 - 1)] Z (zri Q))
    refine z0 (op := 8) (a := 5) (b := 0) (by rfl) (by rfl) (?_ : TZ (d + 1) 134 40 [some (.inr k), some (.inl x1), some (.inl x2), some (.inl x3), some (.inl x4), some (.inl (x4 - 1))] [] Z (zri Q))
    exact v
theorem w134_40 {d : Nat} {k : Nat} {x1 x2 x3 x4 x5 : Int} {Z : zM} {Q : Int → zM → Prop} (hk : k ∈ zFl)
    (v : zR x5 ∧
      zR (x4 + 1) ∧
      ((x4 + 1) < x5 → TZ (d + 1) 134 25 [some (.inr k), some (.inl x1), some (.inl x2), some (.inl x3), some (.inl (x4 + 1)), some (.inl x5)] [] Z (zri Q)) ∧
      (¬ (x4 + 1) < x5 → ((0 ≤ x4 ∧ x4 < 6) ∧
          zR (Z (k + 4) x4) ∧
          ((Z (k + 4) x4) ≤ 0 → TZ (d + 1) 134 40 [some (.inr k), some (.inl x1), some (.inl x2), some (.inl x3), some (.inl x4), some (.inl (x5 + 2))] [] Z (zri Q)) ∧
          (¬ (Z (k + 4) x4) ≤ 0 → TI d 17 [.inr k, .inl x5] Z (fun r8 Z7 =>
              zR r8 ∧
                (r8 = 0 → TZ (d + 1) 134 40 [some (.inr k), some (.inl x1), some (.inl x2), some (.inl x3), some (.inl x4), some (.inl (x5 + 2))] [] Z7 (zri Q)) ∧
                (¬ r8 = 0 → TV d 19 [.inr k, .inl x4, .inl x5] Z7 (fun Z11 =>
                    TI d 134 [.inr k, .inl x1, .inl (x2 - 1)] Z11 (fun r13 Z12 =>
                      zR x3 ∧
                        zR (1 + r13) ∧
                        TV d 19 [.inr k, .inl x5, .inl x4] Z12 (fun Z16 =>
                        TZ (d + 1) 134 40 [some (.inr k), some (.inl x1), some (.inl x2), some (.inl (min x3 (1 + r13))), some (.inl x4), some (.inl (x5 + 2))] [] Z16 (zri Q)))))))))) :
    TZ (d + 1) 134 40 [some (.inr k), some (.inl x1), some (.inl x2), some (.inl x3), some (.inl x4), some (.inl x5)] [] Z (zri Q) := by
  refine z0 (op := 4) (a := 5) (b := 0) (by rfl) (by rfl) (?_ : TZ (d + 1) 134 42 [some (.inr k), some (.inl x1), some (.inl x2), some (.inl x3), some (.inl x4), some (.inl x5)] [.inl x5] Z (zri Q))
  refine z0 (op := 4) (a := 4) (b := 0) (by rfl) (by rfl) (?_ : TZ (d + 1) 134 44 [some (.inr k), some (.inl x1), some (.inl x2), some (.inl x3), some (.inl x4), some (.inl x5)] [.inl x4, .inl x5] Z (zri Q))
  refine z0 (op := 0) (a := 0) (b := 1) (by rfl) (by rfl) (?_ : TZ (d + 1) 134 45 [some (.inr k), some (.inl x1), some (.inl x2), some (.inl x3), some (.inl x4), some (.inl x5)] [.inl 1, .inl x4, .inl x5] Z (zri Q))
  refine z0 (op := 12) (a := 0) (b := 0) (by rfl) (by rfl) (?_ : TZ (d + 1) 134 46 [some (.inr k), some (.inl x1), some (.inl x2), some (.inl x3), some (.inl x4), some (.inl x5)] [.inl (x4 + 1), .inl x5] Z (zri Q))
  obtain ⟨c1, c2, v1, v2⟩ := v
  refine z_if2 (a := 4) (t := 105) (by rfl) (by rfl) c1 c2 (fun h3 => ?_) (fun h3 => ?_)
  · have v := v1 h3; clear v1 v2
    show TZ (d + 1) 134 105 [some (.inr k), some (.inl x1), some (.inl x2), some (.inl x3), some (.inl x4), some (.inl x5)] [] Z (zri Q)
    refine z0 (op := 11) (a := 4) (b := 1) (by rfl) (by rfl) (?_ : TZ (d + 1) 134 108 [some (.inr k), some (.inl x1), some (.inl x2), some (.inl x3), some (.inl (x4 + 1)), some (.inl x5)] [] Z (zri Q))
    refine z_goto (t := 25) (by rfl) (by rfl) (?_ : TZ (d + 1) 134 25 [some (.inr k), some (.inl x1), some (.inl x2), some (.inl x3), some (.inl (x4 + 1)), some (.inl x5)] [] Z (zri Q))
    exact v
  · have v := v2 h3; clear v1 v2
    show TZ (d + 1) 134 49 [some (.inr k), some (.inl x1), some (.inl x2), some (.inl x3), some (.inl x4), some (.inl x5)] [] Z (zri Q)
    refine z0 (op := 5) (a := 0) (b := 0) (by rfl) (by rfl) (?_ : TZ (d + 1) 134 50 [some (.inr k), some (.inl x1), some (.inl x2), some (.inl x3), some (.inl x4), some (.inl x5)] [.inr k] Z (zri Q))
    refine z_fr (by rfl) (fr76_F0 _ hk) (?_ : TZ (d + 1) 134 53 [some (.inr k), some (.inl x1), some (.inl x2), some (.inl x3), some (.inl x4), some (.inl x5)] [.inr (k + 4)] Z (zri Q))
    refine z0 (op := 4) (a := 4) (b := 0) (by rfl) (by rfl) (?_ : TZ (d + 1) 134 55 [some (.inr k), some (.inl x1), some (.inl x2), some (.inl x3), some (.inl x4), some (.inl x5)] [.inl x4, .inr (k + 4)] Z (zri Q))
    obtain ⟨c4, v⟩ := v
    refine z_al (by rfl) (ln_F4 _ hk) c4 (?_ : TZ (d + 1) 134 56 [some (.inr k), some (.inl x1), some (.inl x2), some (.inl x3), some (.inl x4), some (.inl x5)] [.inl (Z (k + 4) x4)] Z (zri Q))
    obtain ⟨c5, v1, v2⟩ := v
    refine z_if0 (a := 5) (t := 99) (by rfl) (by rfl) c5 (fun h6 => ?_) (fun h6 => ?_)
    · have v := v1 h6; clear v1 v2
      show TZ (d + 1) 134 99 [some (.inr k), some (.inl x1), some (.inl x2), some (.inl x3), some (.inl x4), some (.inl x5)] [] Z (zri Q)
      refine z0 (op := 11) (a := 5) (b := 2) (by rfl) (by rfl) (?_ : TZ (d + 1) 134 102 [some (.inr k), some (.inl x1), some (.inl x2), some (.inl x3), some (.inl x4), some (.inl (x5 + 2))] [] Z (zri Q))
      refine z_goto (t := 40) (by rfl) (by rfl) (?_ : TZ (d + 1) 134 40 [some (.inr k), some (.inl x1), some (.inl x2), some (.inl x3), some (.inl x4), some (.inl (x5 + 2))] [] Z (zri Q))
      exact v
    · have v := v2 h6; clear v1 v2
      show TZ (d + 1) 134 59 [some (.inr k), some (.inl x1), some (.inl x2), some (.inl x3), some (.inl x4), some (.inl x5)] [] Z (zri Q)
      refine z0 (op := 5) (a := 0) (b := 0) (by rfl) (by rfl) (?_ : TZ (d + 1) 134 60 [some (.inr k), some (.inl x1), some (.inl x2), some (.inl x3), some (.inl x4), some (.inl x5)] [.inr k] Z (zri Q))
      refine z0 (op := 4) (a := 5) (b := 0) (by rfl) (by rfl) (?_ : TZ (d + 1) 134 62 [some (.inr k), some (.inl x1), some (.inl x2), some (.inl x3), some (.inl x4), some (.inl x5)] [.inl x5, .inr k] Z (zri Q))
      refine z_vi (by rfl) (by rfl) (cl_F0 _ hk) (TI.mono v fun r8 Z7 v => ?_)
      show TZ (d + 1) 134 65 [some (.inr k), some (.inl x1), some (.inl x2), some (.inl x3), some (.inl x4), some (.inl x5)] [.inl r8] Z7 (zri Q)
      obtain ⟨c9, v1, v2⟩ := v
      refine z_if0 (a := 0) (t := 99) (by rfl) (by rfl) c9 (fun h10 => ?_) (fun h10 => ?_)
      · have v := v1 h10; clear v1 v2
        show TZ (d + 1) 134 99 [some (.inr k), some (.inl x1), some (.inl x2), some (.inl x3), some (.inl x4), some (.inl x5)] [] Z7 (zri Q)
        refine z0 (op := 11) (a := 5) (b := 2) (by rfl) (by rfl) (?_ : TZ (d + 1) 134 102 [some (.inr k), some (.inl x1), some (.inl x2), some (.inl x3), some (.inl x4), some (.inl (x5 + 2))] [] Z7 (zri Q))
        refine z_goto (t := 40) (by rfl) (by rfl) (?_ : TZ (d + 1) 134 40 [some (.inr k), some (.inl x1), some (.inl x2), some (.inl x3), some (.inl x4), some (.inl (x5 + 2))] [] Z7 (zri Q))
        exact v
      · have v := v2 h10; clear v1 v2
        show TZ (d + 1) 134 68 [some (.inr k), some (.inl x1), some (.inl x2), some (.inl x3), some (.inl x4), some (.inl x5)] [] Z7 (zri Q)
        refine z0 (op := 5) (a := 0) (b := 0) (by rfl) (by rfl) (?_ : TZ (d + 1) 134 69 [some (.inr k), some (.inl x1), some (.inl x2), some (.inl x3), some (.inl x4), some (.inl x5)] [.inr k] Z7 (zri Q))
        refine z0 (op := 4) (a := 4) (b := 0) (by rfl) (by rfl) (?_ : TZ (d + 1) 134 71 [some (.inr k), some (.inl x1), some (.inl x2), some (.inl x3), some (.inl x4), some (.inl x5)] [.inl x4, .inr k] Z7 (zri Q))
        refine z0 (op := 4) (a := 5) (b := 0) (by rfl) (by rfl) (?_ : TZ (d + 1) 134 73 [some (.inr k), some (.inl x1), some (.inl x2), some (.inl x3), some (.inl x4), some (.inl x5)] [.inl x5, .inl x4, .inr k] Z7 (zri Q))
        refine z_vv (by rfl) (by rfl) (cl_F0 _ hk) (TV.mono v fun Z11 v => ?_)
        show TZ (d + 1) 134 76 [some (.inr k), some (.inl x1), some (.inl x2), some (.inl x3), some (.inl x4), some (.inl x5)] [] Z11 (zri Q)
        refine z0 (op := 3) (a := 3) (b := 0) (by rfl) (by rfl) (?_ : TZ (d + 1) 134 77 [some (.inr k), some (.inl x1), some (.inl x2), some (.inl x3), some (.inl x4), some (.inl x5)] [.inl x3] Z11 (zri Q))
        refine z0 (op := 0) (a := 0) (b := 1) (by rfl) (by rfl) (?_ : TZ (d + 1) 134 78 [some (.inr k), some (.inl x1), some (.inl x2), some (.inl x3), some (.inl x4), some (.inl x5)] [.inl 1, .inl x3] Z11 (zri Q))
        refine z0 (op := 5) (a := 0) (b := 0) (by rfl) (by rfl) (?_ : TZ (d + 1) 134 79 [some (.inr k), some (.inl x1), some (.inl x2), some (.inl x3), some (.inl x4), some (.inl x5)] [.inr k, .inl 1, .inl x3] Z11 (zri Q))
        refine z0 (op := 3) (a := 1) (b := 0) (by rfl) (by rfl) (?_ : TZ (d + 1) 134 80 [some (.inr k), some (.inl x1), some (.inl x2), some (.inl x3), some (.inl x4), some (.inl x5)] [.inl x1, .inr k, .inl 1, .inl x3] Z11 (zri Q))
        refine z0 (op := 3) (a := 2) (b := 0) (by rfl) (by rfl) (?_ : TZ (d + 1) 134 81 [some (.inr k), some (.inl x1), some (.inl x2), some (.inl x3), some (.inl x4), some (.inl x5)] [.inl x2, .inl x1, .inr k, .inl 1, .inl x3] Z11 (zri Q))
        refine z0 (op := 0) (a := 0) (b := 1) (by rfl) (by rfl) (?_ : TZ (d + 1) 134 82 [some (.inr k), some (.inl x1), some (.inl x2), some (.inl x3), some (.inl x4), some (.inl x5)] [.inl 1, .inl x2, .inl x1, .inr k, .inl 1, .inl x3] Z11 (zri Q))
        refine z0 (op := 12) (a := 1) (b := 0) (by rfl) (by rfl) (?_ : TZ (d + 1) 134 83 [some (.inr k), some (.inl x1), some (.inl x2), some (.inl x3), some (.inl x4), some (.inl x5)] [.inl (x2 - 1), .inl x1, .inr k, .inl 1, .inl x3] Z11 (zri Q))
        refine z_si (by rfl) (by rfl) (TI.mono v fun r13 Z12 v => ?_)
        show TZ (d + 1) 134 86 [some (.inr k), some (.inl x1), some (.inl x2), some (.inl x3), some (.inl x4), some (.inl x5)] [.inl r13, .inl 1, .inl x3] Z12 (zri Q)
        refine z0 (op := 12) (a := 0) (b := 0) (by rfl) (by rfl) (?_ : TZ (d + 1) 134 87 [some (.inr k), some (.inl x1), some (.inl x2), some (.inl x3), some (.inl x4), some (.inl x5)] [.inl (1 + r13), .inl x3] Z12 (zri Q))
        obtain ⟨c14, c15, v⟩ := v
        refine z_min (by rfl) (by rfl) (Nat.le_of_ble_eq_true rfl) c14 c15 (?_ : TZ (d + 1) 134 90 [some (.inr k), some (.inl x1), some (.inl x2), some (.inl x3), some (.inl x4), some (.inl x5)] [.inl (min x3 (1 + r13))] Z12 (zri Q))
        refine z0 (op := 7) (a := 3) (b := 0) (by rfl) (by rfl) (?_ : TZ (d + 1) 134 91 [some (.inr k), some (.inl x1), some (.inl x2), some (.inl (min x3 (1 + r13))), some (.inl x4), some (.inl x5)] [] Z12 (zri Q))
        refine z0 (op := 5) (a := 0) (b := 0) (by rfl) (by rfl) (?_ : TZ (d + 1) 134 92 [some (.inr k), some (.inl x1), some (.inl x2), some (.inl (min x3 (1 + r13))), some (.inl x4), some (.inl x5)] [.inr k] Z12 (zri Q))
        refine z0 (op := 4) (a := 5) (b := 0) (by rfl) (by rfl) (?_ : TZ (d + 1) 134 94 [some (.inr k), some (.inl x1), some (.inl x2), some (.inl (min x3 (1 + r13))), some (.inl x4), some (.inl x5)] [.inl x5, .inr k] Z12 (zri Q))
        refine z0 (op := 4) (a := 4) (b := 0) (by rfl) (by rfl) (?_ : TZ (d + 1) 134 96 [some (.inr k), some (.inl x1), some (.inl x2), some (.inl (min x3 (1 + r13))), some (.inl x4), some (.inl x5)] [.inl x4, .inl x5, .inr k] Z12 (zri Q))
        refine z_vv (by rfl) (by rfl) (cl_F0 _ hk) (TV.mono v fun Z16 v => ?_)
        show TZ (d + 1) 134 99 [some (.inr k), some (.inl x1), some (.inl x2), some (.inl (min x3 (1 + r13))), some (.inl x4), some (.inl x5)] [] Z16 (zri Q)
        refine z0 (op := 11) (a := 5) (b := 2) (by rfl) (by rfl) (?_ : TZ (d + 1) 134 102 [some (.inr k), some (.inl x1), some (.inl x2), some (.inl (min x3 (1 + r13))), some (.inl x4), some (.inl (x5 + 2))] [] Z16 (zri Q))
        refine z_goto (t := 40) (by rfl) (by rfl) (?_ : TZ (d + 1) 134 40 [some (.inr k), some (.inl x1), some (.inl x2), some (.inl (min x3 (1 + r13))), some (.inl x4), some (.inl (x5 + 2))] [] Z16 (zri Q))
        exact v
theorem w135_0 {d : Nat} {x1 : Int} {Z : zM} {Q : Int → zM → Prop}
    (v : TI d 75 [.inl x1, .inl 1] Z (fun r2 Z1 =>
      zR r2 ∧
        (r2 = 0 → TV d 1 [.inr 44, .inl 0] Z1 (fun Z5 =>
            TV d 136 [.inr 1, .inl 0, .inl (Z5 1 5), .inl 0, .inr 44] Z5 (fun Z6 =>
              zR x1 ∧
                (x1 ≠ 0 → TZ (d + 1) 135 66 [some (.inr 0), some (.inl x1), some (.inl r2), some (.inl 0), some (.inl 0)] [] Z6 (zri Q)) ∧
                (¬ x1 ≠ 0 → TI d 22 [.inr 1] Z6 (fun r10 Z9 =>
                    (0 ≤ r10 ∧ r10 < 12) ∧ Q (Z9 44 r10) Z9))))) ∧
        (¬ r2 = 0 → TI d 71 [.inr 0, .inl r2] Z1 (fun r13 Z12 =>
            Q r13 Z12)))) :
    TZ (d + 1) 135 0 [some (.inr 0), some (.inl x1), none, none, none] [] Z (zri Q) := by
  refine z0 (op := 3) (a := 1) (b := 0) (by rfl) (by rfl) (?_ : TZ (d + 1) 135 1 [some (.inr 0), some (.inl x1), none, none, none] [.inl x1] Z (zri Q))
  refine z0 (op := 0) (a := 0) (b := 1) (by rfl) (by rfl) (?_ : TZ (d + 1) 135 2 [some (.inr 0), some (.inl x1), none, none, none] [.inl 1, .inl x1] Z (zri Q))
  refine z_si (by rfl) (by rfl) (TI.mono v fun r2 Z1 v => ?_)
  show TZ (d + 1) 135 5 [some (.inr 0), some (.inl x1), none, none, none] [.inl r2] Z1 (zri Q)
  refine z0 (op := 7) (a := 2) (b := 0) (by rfl) (by rfl) (?_ : TZ (d + 1) 135 6 [some (.inr 0), some (.inl x1), some (.inl r2), none, none] [] Z1 (zri Q))
  refine z0 (op := 3) (a := 2) (b := 0) (by rfl) (by rfl) (?_ : TZ (d + 1) 135 7 [some (.inr 0), some (.inl x1), some (.inl r2), none, none] [.inl r2] Z1 (zri Q))
  obtain ⟨c3, v1, v2⟩ := v
  refine z_if0 (a := 0) (t := 16) (by rfl) (by rfl) c3 (fun h4 => ?_) (fun h4 => ?_)
  · have v := v1 h4; clear v1 v2
    show TZ (d + 1) 135 16 [some (.inr 0), some (.inl x1), some (.inl r2), none, none] [] Z1 (zri Q)
    refine z0 (op := 5) (a := 0) (b := 0) (by rfl) (by rfl) (?_ : TZ (d + 1) 135 17 [some (.inr 0), some (.inl x1), some (.inl r2), none, none] [.inr 0] Z1 (zri Q))
    refine z_fr (by rfl) fr59_0 (?_ : TZ (d + 1) 135 20 [some (.inr 0), some (.inl x1), some (.inl r2), none, none] [.inr 44] Z1 (zri Q))
    refine z0 (op := 0) (a := 0) (b := 0) (by rfl) (by rfl) (?_ : TZ (d + 1) 135 21 [some (.inr 0), some (.inl x1), some (.inl r2), none, none] [.inl 0, .inr 44] Z1 (zri Q))
    refine z_sv (by rfl) (by rfl) (TV.mono v fun Z5 v => ?_)
    show TZ (d + 1) 135 24 [some (.inr 0), some (.inl x1), some (.inl r2), none, none] [] Z5 (zri Q)
    refine z0 (op := 5) (a := 0) (b := 0) (by rfl) (by rfl) (?_ : TZ (d + 1) 135 25 [some (.inr 0), some (.inl x1), some (.inl r2), none, none] [.inr 0] Z5 (zri Q))
    refine z_fr (by rfl) fr50_0 (?_ : TZ (d + 1) 135 28 [some (.inr 0), some (.inl x1), some (.inl r2), none, none] [.inr 1] Z5 (zri Q))
    refine z0 (op := 0) (a := 0) (b := 0) (by rfl) (by rfl) (?_ : TZ (d + 1) 135 29 [some (.inr 0), some (.inl x1), some (.inl r2), none, none] [.inl 0, .inr 1] Z5 (zri Q))
    refine z0 (op := 5) (a := 0) (b := 0) (by rfl) (by rfl) (?_ : TZ (d + 1) 135 30 [some (.inr 0), some (.inl x1), some (.inl r2), none, none] [.inr 0, .inl 0, .inr 1] Z5 (zri Q))
    refine z_fr (by rfl) fr50_0 (?_ : TZ (d + 1) 135 33 [some (.inr 0), some (.inl x1), some (.inl r2), none, none] [.inr 1, .inl 0, .inr 1] Z5 (zri Q))
    refine z_fi (by rfl) fi70_1 (?_ : TZ (d + 1) 135 36 [some (.inr 0), some (.inl x1), some (.inl r2), none, none] [.inl (Z5 1 5), .inl 0, .inr 1] Z5 (zri Q))
    refine z0 (op := 0) (a := 0) (b := 0) (by rfl) (by rfl) (?_ : TZ (d + 1) 135 37 [some (.inr 0), some (.inl x1), some (.inl r2), none, none] [.inl 0, .inl (Z5 1 5), .inl 0, .inr 1] Z5 (zri Q))
    refine z0 (op := 5) (a := 0) (b := 0) (by rfl) (by rfl) (?_ : TZ (d + 1) 135 38 [some (.inr 0), some (.inl x1), some (.inl r2), none, none] [.inr 0, .inl 0, .inl (Z5 1 5), .inl 0, .inr 1] Z5 (zri Q))
    refine z_fr (by rfl) fr59_0 (?_ : TZ (d + 1) 135 41 [some (.inr 0), some (.inl x1), some (.inl r2), none, none] [.inr 44, .inl 0, .inl (Z5 1 5), .inl 0, .inr 1] Z5 (zri Q))
    refine z_sv (by rfl) (by rfl) (TV.mono v fun Z6 v => ?_)
    show TZ (d + 1) 135 44 [some (.inr 0), some (.inl x1), some (.inl r2), none, none] [] Z6 (zri Q)
    refine z0 (op := 3) (a := 1) (b := 0) (by rfl) (by rfl) (?_ : TZ (d + 1) 135 45 [some (.inr 0), some (.inl x1), some (.inl r2), none, none] [.inl x1] Z6 (zri Q))
    obtain ⟨c7, v1, v2⟩ := v
    refine z_if0 (a := 1) (t := 61) (by rfl) (by rfl) c7 (fun h8 => ?_) (fun h8 => ?_)
    · have v := v1 h8; clear v1 v2
      show TZ (d + 1) 135 61 [some (.inr 0), some (.inl x1), some (.inl r2), none, none] [] Z6 (zri Q)
      refine z0 (op := 0) (a := 0) (b := 0) (by rfl) (by rfl) (?_ : TZ (d + 1) 135 62 [some (.inr 0), some (.inl x1), some (.inl r2), none, none] [.inl 0] Z6 (zri Q))
      refine z0 (op := 7) (a := 3) (b := 0) (by rfl) (by rfl) (?_ : TZ (d + 1) 135 63 [some (.inr 0), some (.inl x1), some (.inl r2), some (.inl 0), none] [] Z6 (zri Q))
      refine z0 (op := 0) (a := 0) (b := 0) (by rfl) (by rfl) (?_ : TZ (d + 1) 135 64 [some (.inr 0), some (.inl x1), some (.inl r2), some (.inl 0), none] [.inl 0] Z6 (zri Q))
      refine z0 (op := 8) (a := 4) (b := 0) (by rfl) (by rfl) (?_ : TZ (d + 1) 135 66 [some (.inr 0), some (.inl x1), some (.inl r2), some (.inl 0), some (.inl 0)] [] Z6 (zri Q))
      exact v
    · have v := v2 h8; clear v1 v2
      show TZ (d + 1) 135 48 [some (.inr 0), some (.inl x1), some (.inl r2), none, none] [] Z6 (zri Q)
      refine z0 (op := 5) (a := 0) (b := 0) (by rfl) (by rfl) (?_ : TZ (d + 1) 135 49 [some (.inr 0), some (.inl x1), some (.inl r2), none, none] [.inr 0] Z6 (zri Q))
      refine z_fr (by rfl) fr59_0 (?_ : TZ (d + 1) 135 52 [some (.inr 0), some (.inl x1), some (.inl r2), none, none] [.inr 44] Z6 (zri Q))
      refine z0 (op := 5) (a := 0) (b := 0) (by rfl) (by rfl) (?_ : TZ (d + 1) 135 53 [some (.inr 0), some (.inl x1), some (.inl r2), none, none] [.inr 0, .inr 44] Z6 (zri Q))
      refine z_fr (by rfl) fr50_0 (?_ : TZ (d + 1) 135 56 [some (.inr 0), some (.inl x1), some (.inl r2), none, none] [.inr 1, .inr 44] Z6 (zri Q))
      refine z_vi (by rfl) (by rfl) cl_1 (TI.mono v fun r10 Z9 v => ?_)
      show TZ (d + 1) 135 59 [some (.inr 0), some (.inl x1), some (.inl r2), none, none] [.inl r10, .inr 44] Z9 (zri Q)
      obtain ⟨c11, v⟩ := v
      refine z_al (by rfl) ln_44 c11 (?_ : TZ (d + 1) 135 60 [some (.inr 0), some (.inl x1), some (.inl r2), none, none] [.inl (Z9 44 r10)] Z9 (zri Q))
      exact z_reti (by rfl) (by rfl) v
  · have v := v2 h4; clear v1 v2
    show TZ (d + 1) 135 10 [some (.inr 0), some (.inl x1), some (.inl r2), none, none] [] Z1 (zri Q)
    refine z0 (op := 5) (a := 0) (b := 0) (by rfl) (by rfl) (?_ : TZ (d + 1) 135 11 [some (.inr 0), some (.inl x1), some (.inl r2), none, none] [.inr 0] Z1 (zri Q))
    refine z0 (op := 3) (a := 2) (b := 0) (by rfl) (by rfl) (?_ : TZ (d + 1) 135 12 [some (.inr 0), some (.inl x1), some (.inl r2), none, none] [.inl r2, .inr 0] Z1 (zri Q))
    refine z_vi (by rfl) (by rfl) cl_0 (TI.mono v fun r13 Z12 v => ?_)
    show TZ (d + 1) 135 15 [some (.inr 0), some (.inl x1), some (.inl r2), none, none] [.inl r13] Z12 (zri Q)
    exact z_reti (by rfl) (by rfl) v
theorem w135_66 {d : Nat} {x1 x2 x3 x4 : Int} {Z : zM} {Q : Int → zM → Prop}
    (v : zR x4 ∧
      (12 ≤ x4 → Q x3 Z) ∧
      (¬ 12 ≤ x4 → ((0 ≤ x4 ∧ x4 < 12) ∧
          zR (Z 44 x4) ∧
          ((Z 44 x4) ≤ 0 → TZ d 135 66 [some (.inr 0), some (.inl x1), some (.inl x2), some (.inl x3), some (.inl (x4 + 1))] [] Z (zri Q)) ∧
          (¬ (Z 44 x4) ≤ 0 → TZ d 135 66 [some (.inr 0), some (.inl x1), some (.inl x2), some (.inl (zbit 4 x3 (zbit 6 1 x4))), some (.inl (x4 + 1))] [] Z (zri Q))))) :
    TZ d 135 66 [some (.inr 0), some (.inl x1), some (.inl x2), some (.inl x3), some (.inl x4)] [] Z (zri Q) := by
  refine z0 (op := 4) (a := 4) (b := 0) (by rfl) (by rfl) (?_ : TZ d 135 68 [some (.inr 0), some (.inl x1), some (.inl x2), some (.inl x3), some (.inl x4)] [.inl x4] Z (zri Q))
  refine z0 (op := 1) (a := 0) (b := 12) (by rfl) (by rfl) (?_ : TZ d 135 70 [some (.inr 0), some (.inl x1), some (.inl x2), some (.inl x3), some (.inl x4)] [.inl 12, .inl x4] Z (zri Q))
  obtain ⟨c1, v1, v2⟩ := v
  refine z_if2 (a := 3) (t := 96) (by rfl) (by rfl) c1 (by decide) (fun h2 => ?_) (fun h2 => ?_)
  · have v := v1 h2; clear v1 v2
    show TZ d 135 96 [some (.inr 0), some (.inl x1), some (.inl x2), some (.inl x3), some (.inl x4)] [] Z (zri Q)
    refine z0 (op := 3) (a := 3) (b := 0) (by rfl) (by rfl) (?_ : TZ d 135 97 [some (.inr 0), some (.inl x1), some (.inl x2), some (.inl x3), some (.inl x4)] [.inl x3] Z (zri Q))
    exact z_reti (by rfl) (by rfl) v
  · have v := v2 h2; clear v1 v2
    show TZ d 135 73 [some (.inr 0), some (.inl x1), some (.inl x2), some (.inl x3), some (.inl x4)] [] Z (zri Q)
    refine z0 (op := 5) (a := 0) (b := 0) (by rfl) (by rfl) (?_ : TZ d 135 74 [some (.inr 0), some (.inl x1), some (.inl x2), some (.inl x3), some (.inl x4)] [.inr 0] Z (zri Q))
    refine z_fr (by rfl) fr59_0 (?_ : TZ d 135 77 [some (.inr 0), some (.inl x1), some (.inl x2), some (.inl x3), some (.inl x4)] [.inr 44] Z (zri Q))
    refine z0 (op := 4) (a := 4) (b := 0) (by rfl) (by rfl) (?_ : TZ d 135 79 [some (.inr 0), some (.inl x1), some (.inl x2), some (.inl x3), some (.inl x4)] [.inl x4, .inr 44] Z (zri Q))
    obtain ⟨c3, v⟩ := v
    refine z_al (by rfl) ln_44 c3 (?_ : TZ d 135 80 [some (.inr 0), some (.inl x1), some (.inl x2), some (.inl x3), some (.inl x4)] [.inl (Z 44 x4)] Z (zri Q))
    obtain ⟨c4, v1, v2⟩ := v
    refine z_if0 (a := 5) (t := 90) (by rfl) (by rfl) c4 (fun h5 => ?_) (fun h5 => ?_)
    · have v := v1 h5; clear v1 v2
      show TZ d 135 90 [some (.inr 0), some (.inl x1), some (.inl x2), some (.inl x3), some (.inl x4)] [] Z (zri Q)
      refine z0 (op := 11) (a := 4) (b := 1) (by rfl) (by rfl) (?_ : TZ d 135 93 [some (.inr 0), some (.inl x1), some (.inl x2), some (.inl x3), some (.inl (x4 + 1))] [] Z (zri Q))
      refine z_goto (t := 66) (by rfl) (by rfl) (?_ : TZ d 135 66 [some (.inr 0), some (.inl x1), some (.inl x2), some (.inl x3), some (.inl (x4 + 1))] [] Z (zri Q))
      exact v
    · have v := v2 h5; clear v1 v2
      show TZ d 135 83 [some (.inr 0), some (.inl x1), some (.inl x2), some (.inl x3), some (.inl x4)] [] Z (zri Q)
      refine z0 (op := 3) (a := 3) (b := 0) (by rfl) (by rfl) (?_ : TZ d 135 84 [some (.inr 0), some (.inl x1), some (.inl x2), some (.inl x3), some (.inl x4)] [.inl x3] Z (zri Q))
      refine z0 (op := 0) (a := 0) (b := 1) (by rfl) (by rfl) (?_ : TZ d 135 85 [some (.inr 0), some (.inl x1), some (.inl x2), some (.inl x3), some (.inl x4)] [.inl 1, .inl x3] Z (zri Q))
      refine z0 (op := 4) (a := 4) (b := 0) (by rfl) (by rfl) (?_ : TZ d 135 87 [some (.inr 0), some (.inl x1), some (.inl x2), some (.inl x3), some (.inl x4)] [.inl x4, .inl 1, .inl x3] Z (zri Q))
      refine z0 (op := 12) (a := 6) (b := 0) (by rfl) (by rfl) (?_ : TZ d 135 88 [some (.inr 0), some (.inl x1), some (.inl x2), some (.inl x3), some (.inl x4)] [.inl (zbit 6 1 x4), .inl x3] Z (zri Q))
      refine z0 (op := 12) (a := 4) (b := 0) (by rfl) (by rfl) (?_ : TZ d 135 89 [some (.inr 0), some (.inl x1), some (.inl x2), some (.inl x3), some (.inl x4)] [.inl (zbit 4 x3 (zbit 6 1 x4))] Z (zri Q))
      refine z0 (op := 7) (a := 3) (b := 0) (by rfl) (by rfl) (?_ : TZ d 135 90 [some (.inr 0), some (.inl x1), some (.inl x2), some (.inl (zbit 4 x3 (zbit 6 1 x4))), some (.inl x4)] [] Z (zri Q))
      refine z0 (op := 11) (a := 4) (b := 1) (by rfl) (by rfl) (?_ : TZ d 135 93 [some (.inr 0), some (.inl x1), some (.inl x2), some (.inl (zbit 4 x3 (zbit 6 1 x4))), some (.inl (x4 + 1))] [] Z (zri Q))
      refine z_goto (t := 66) (by rfl) (by rfl) (?_ : TZ d 135 66 [some (.inr 0), some (.inl x1), some (.inl x2), some (.inl (zbit 4 x3 (zbit 6 1 x4))), some (.inl (x4 + 1))] [] Z (zri Q))
      exact v
theorem w137_0 {d : Nat} {x1 : Int} {Z : zM} {Q : Int → zM → Prop}
    (v : TI d 73 [.inl x1, .inl 1, .inl 20] Z (fun r2 Z1 =>
      zR r2 ∧
        (r2 = 0 → TV d 1 [.inr 45, .inl 0] Z1 (fun Z5 =>
            TR d 97 [.inr 0] Z5 (fun r7 Z6 =>
              r7 = 19 ∧ TZ (d + 1) 137 37 [some (.inr 0), some (.inl x1), some (.inl r2), some (.inl 0), some (.inr 19), some (.inl 0), none] [] Z6 (zri Q)))) ∧
        (¬ r2 = 0 → TI d 71 [.inr 0, .inl r2] Z1 (fun r9 Z8 =>
            Q r9 Z8)))) :
    TZ (d + 1) 137 0 [some (.inr 0), some (.inl x1), none, none, none, none, none] [] Z (zri Q) := by
  refine z0 (op := 3) (a := 1) (b := 0) (by rfl) (by rfl) (?_ : TZ (d + 1) 137 1 [some (.inr 0), some (.inl x1), none, none, none, none, none] [.inl x1] Z (zri Q))
  refine z0 (op := 0) (a := 0) (b := 1) (by rfl) (by rfl) (?_ : TZ (d + 1) 137 2 [some (.inr 0), some (.inl x1), none, none, none, none, none] [.inl 1, .inl x1] Z (zri Q))
  refine z0 (op := 1) (a := 0) (b := 20) (by rfl) (by rfl) (?_ : TZ (d + 1) 137 4 [some (.inr 0), some (.inl x1), none, none, none, none, none] [.inl 20, .inl 1, .inl x1] Z (zri Q))
  refine z_si (by rfl) (by rfl) (TI.mono v fun r2 Z1 v => ?_)
  show TZ (d + 1) 137 7 [some (.inr 0), some (.inl x1), none, none, none, none, none] [.inl r2] Z1 (zri Q)
  refine z0 (op := 7) (a := 2) (b := 0) (by rfl) (by rfl) (?_ : TZ (d + 1) 137 8 [some (.inr 0), some (.inl x1), some (.inl r2), none, none, none, none] [] Z1 (zri Q))
  refine z0 (op := 3) (a := 2) (b := 0) (by rfl) (by rfl) (?_ : TZ (d + 1) 137 9 [some (.inr 0), some (.inl x1), some (.inl r2), none, none, none, none] [.inl r2] Z1 (zri Q))
  obtain ⟨c3, v1, v2⟩ := v
  refine z_if0 (a := 0) (t := 18) (by rfl) (by rfl) c3 (fun h4 => ?_) (fun h4 => ?_)
  · have v := v1 h4; clear v1 v2
    show TZ (d + 1) 137 18 [some (.inr 0), some (.inl x1), some (.inl r2), none, none, none, none] [] Z1 (zri Q)
    refine z0 (op := 5) (a := 0) (b := 0) (by rfl) (by rfl) (?_ : TZ (d + 1) 137 19 [some (.inr 0), some (.inl x1), some (.inl r2), none, none, none, none] [.inr 0] Z1 (zri Q))
    refine z_fr (by rfl) fr60_0 (?_ : TZ (d + 1) 137 22 [some (.inr 0), some (.inl x1), some (.inl r2), none, none, none, none] [.inr 45] Z1 (zri Q))
    refine z0 (op := 0) (a := 0) (b := 0) (by rfl) (by rfl) (?_ : TZ (d + 1) 137 23 [some (.inr 0), some (.inl x1), some (.inl r2), none, none, none, none] [.inl 0, .inr 45] Z1 (zri Q))
    refine z_sv (by rfl) (by rfl) (TV.mono v fun Z5 v => ?_)
    show TZ (d + 1) 137 26 [some (.inr 0), some (.inl x1), some (.inl r2), none, none, none, none] [] Z5 (zri Q)
    refine z0 (op := 0) (a := 0) (b := 0) (by rfl) (by rfl) (?_ : TZ (d + 1) 137 27 [some (.inr 0), some (.inl x1), some (.inl r2), none, none, none, none] [.inl 0] Z5 (zri Q))
    refine z0 (op := 7) (a := 3) (b := 0) (by rfl) (by rfl) (?_ : TZ (d + 1) 137 28 [some (.inr 0), some (.inl x1), some (.inl r2), some (.inl 0), none, none, none] [] Z5 (zri Q))
    refine z0 (op := 5) (a := 0) (b := 0) (by rfl) (by rfl) (?_ : TZ (d + 1) 137 29 [some (.inr 0), some (.inl x1), some (.inl r2), some (.inl 0), none, none, none] [.inr 0] Z5 (zri Q))
    refine z_vr (by rfl) (by rfl) cl_0 (TR.mono v fun r7 Z6 v => ?_)
    obtain ⟨er7, v⟩ := v
    subst er7
    show TZ (d + 1) 137 32 [some (.inr 0), some (.inl x1), some (.inl r2), some (.inl 0), none, none, none] [.inr 19] Z6 (zri Q)
    refine z0 (op := 10) (a := 4) (b := 0) (by rfl) (by rfl) (?_ : TZ (d + 1) 137 34 [some (.inr 0), some (.inl x1), some (.inl r2), some (.inl 0), some (.inr 19), none, none] [] Z6 (zri Q))
    refine z0 (op := 0) (a := 0) (b := 0) (by rfl) (by rfl) (?_ : TZ (d + 1) 137 35 [some (.inr 0), some (.inl x1), some (.inl r2), some (.inl 0), some (.inr 19), none, none] [.inl 0] Z6 (zri Q))
    refine z0 (op := 8) (a := 5) (b := 0) (by rfl) (by rfl) (?_ : TZ (d + 1) 137 37 [some (.inr 0), some (.inl x1), some (.inl r2), some (.inl 0), some (.inr 19), some (.inl 0), none] [] Z6 (zri Q))
    exact v
  · have v := v2 h4; clear v1 v2
    show TZ (d + 1) 137 12 [some (.inr 0), some (.inl x1), some (.inl r2), none, none, none, none] [] Z1 (zri Q)
    refine z0 (op := 5) (a := 0) (b := 0) (by rfl) (by rfl) (?_ : TZ (d + 1) 137 13 [some (.inr 0), some (.inl x1), some (.inl r2), none, none, none, none] [.inr 0] Z1 (zri Q))
    refine z0 (op := 3) (a := 2) (b := 0) (by rfl) (by rfl) (?_ : TZ (d + 1) 137 14 [some (.inr 0), some (.inl x1), some (.inl r2), none, none, none, none] [.inl r2, .inr 0] Z1 (zri Q))
    refine z_vi (by rfl) (by rfl) cl_0 (TI.mono v fun r9 Z8 v => ?_)
    show TZ (d + 1) 137 17 [some (.inr 0), some (.inl x1), some (.inl r2), none, none, none, none] [.inl r9] Z8 (zri Q)
    exact z_reti (by rfl) (by rfl) v
theorem w137_37 {d : Nat} {x1 x2 x3 x5 : Int} {Z : zM} {Q : Int → zM → Prop}
    (v : zR x5 ∧
      zR x1 ∧
      (x1 ≤ x5 → TZ (d + 1) 137 77 [some (.inr 0), some (.inl x1), some (.inl x2), some (.inl x3), some (.inr 19), some (.inl (-9)), some (.inl 0)] [] Z (zri Q)) ∧
      (¬ x1 ≤ x5 → TI d 25 [.inr 19, .inl (-1)] Z (fun r5 Z4 =>
          TI d 23 [.inr 19] Z4 (fun r7 Z6 =>
            TV d 138 [.inr 0, .inr 19] Z6 (fun Z8 =>
              TZ (d + 1) 137 37 [some (.inr 0), some (.inl x1), some (.inl x2), some (.inl (x3 + r7)), some (.inr 19), some (.inl (x5 + 1)), none] [] Z8 (zri Q)))))) :
    TZ (d + 1) 137 37 [some (.inr 0), some (.inl x1), some (.inl x2), some (.inl x3), some (.inr 19), some (.inl x5), none] [] Z (zri Q) := by
  refine z0 (op := 4) (a := 5) (b := 0) (by rfl) (by rfl) (?_ : TZ (d + 1) 137 39 [some (.inr 0), some (.inl x1), some (.inl x2), some (.inl x3), some (.inr 19), some (.inl x5), none] [.inl x5] Z (zri Q))
  refine z0 (op := 3) (a := 1) (b := 0) (by rfl) (by rfl) (?_ : TZ (d + 1) 137 40 [some (.inr 0), some (.inl x1), some (.inl x2), some (.inl x3), some (.inr 19), some (.inl x5), none] [.inl x1, .inl x5] Z (zri Q))
  obtain ⟨c1, c2, v1, v2⟩ := v
  refine z_if2 (a := 3) (t := 70) (by rfl) (by rfl) c1 c2 (fun h3 => ?_) (fun h3 => ?_)
  · have v := v1 h3; clear v1 v2
    show TZ (d + 1) 137 70 [some (.inr 0), some (.inl x1), some (.inl x2), some (.inl x3), some (.inr 19), some (.inl x5), none] [] Z (zri Q)
    refine z0 (op := 1) (a := 0) (b := (-9)) (by rfl) (by rfl) (?_ : TZ (d + 1) 137 72 [some (.inr 0), some (.inl x1), some (.inl x2), some (.inl x3), some (.inr 19), some (.inl x5), none] [.inl (-9)] Z (zri Q))
    refine z0 (op := 8) (a := 5) (b := 0) (by rfl) (by rfl) (?_ : TZ (d + 1) 137 74 [some (.inr 0), some (.inl x1), some (.inl x2), some (.inl x3), some (.inr 19), some (.inl (-9)), none] [] Z (zri Q))
    refine z0 (op := 0) (a := 0) (b := 0) (by rfl) (by rfl) (?_ : TZ (d + 1) 137 75 [some (.inr 0), some (.inl x1), some (.inl x2), some (.inl x3), some (.inr 19), some (.inl (-9)), none] [.inl 0] Z (zri Q))
    refine z0 (op := 8) (a := 6) (b := 0) (by rfl) (by rfl) (?_ : TZ (d + 1) 137 77 [some (.inr 0), some (.inl x1), some (.inl x2), some (.inl x3), some (.inr 19), some (.inl (-9)), some (.inl 0)] [] Z (zri Q))
    exact v
  · have v := v2 h3; clear v1 v2
    show TZ (d + 1) 137 43 [some (.inr 0), some (.inl x1), some (.inl x2), some (.inl x3), some (.inr 19), some (.inl x5), none] [] Z (zri Q)
    refine z0 (op := 6) (a := 4) (b := 0) (by rfl) (by rfl) (?_ : TZ (d + 1) 137 45 [some (.inr 0), some (.inl x1), some (.inl x2), some (.inl x3), some (.inr 19), some (.inl x5), none] [.inr 19] Z (zri Q))
    refine z0 (op := 0) (a := 0) (b := (-1)) (by rfl) (by rfl) (?_ : TZ (d + 1) 137 46 [some (.inr 0), some (.inl x1), some (.inl x2), some (.inl x3), some (.inr 19), some (.inl x5), none] [.inl (-1), .inr 19] Z (zri Q))
    refine z_vi (by rfl) (by rfl) cl_19 (TI.mono v fun r5 Z4 v => ?_)
    show TZ (d + 1) 137 49 [some (.inr 0), some (.inl x1), some (.inl x2), some (.inl x3), some (.inr 19), some (.inl x5), none] [.inl r5] Z4 (zri Q)
    refine z0 (op := 14) (a := 0) (b := 0) (by rfl) (by rfl) (?_ : TZ (d + 1) 137 50 [some (.inr 0), some (.inl x1), some (.inl x2), some (.inl x3), some (.inr 19), some (.inl x5), none] [] Z4 (zri Q))
    refine z0 (op := 3) (a := 3) (b := 0) (by rfl) (by rfl) (?_ : TZ (d + 1) 137 51 [some (.inr 0), some (.inl x1), some (.inl x2), some (.inl x3), some (.inr 19), some (.inl x5), none] [.inl x3] Z4 (zri Q))
    refine z0 (op := 6) (a := 4) (b := 0) (by rfl) (by rfl) (?_ : TZ (d + 1) 137 53 [some (.inr 0), some (.inl x1), some (.inl x2), some (.inl x3), some (.inr 19), some (.inl x5), none] [.inr 19, .inl x3] Z4 (zri Q))
    refine z_vi (by rfl) (by rfl) cl_19 (TI.mono v fun r7 Z6 v => ?_)
    show TZ (d + 1) 137 56 [some (.inr 0), some (.inl x1), some (.inl x2), some (.inl x3), some (.inr 19), some (.inl x5), none] [.inl r7, .inl x3] Z6 (zri Q)
    refine z0 (op := 12) (a := 0) (b := 0) (by rfl) (by rfl) (?_ : TZ (d + 1) 137 57 [some (.inr 0), some (.inl x1), some (.inl x2), some (.inl x3), some (.inr 19), some (.inl x5), none] [.inl (x3 + r7)] Z6 (zri Q))
    refine z0 (op := 7) (a := 3) (b := 0) (by rfl) (by rfl) (?_ : TZ (d + 1) 137 58 [some (.inr 0), some (.inl x1), some (.inl x2), some (.inl (x3 + r7)), some (.inr 19), some (.inl x5), none] [] Z6 (zri Q))
    refine z0 (op := 5) (a := 0) (b := 0) (by rfl) (by rfl) (?_ : TZ (d + 1) 137 59 [some (.inr 0), some (.inl x1), some (.inl x2), some (.inl (x3 + r7)), some (.inr 19), some (.inl x5), none] [.inr 0] Z6 (zri Q))
    refine z0 (op := 6) (a := 4) (b := 0) (by rfl) (by rfl) (?_ : TZ (d + 1) 137 61 [some (.inr 0), some (.inl x1), some (.inl x2), some (.inl (x3 + r7)), some (.inr 19), some (.inl x5), none] [.inr 19, .inr 0] Z6 (zri Q))
    refine z_vv (by rfl) (by rfl) cl_0 (TV.mono v fun Z8 v => ?_)
    show TZ (d + 1) 137 64 [some (.inr 0), some (.inl x1), some (.inl x2), some (.inl (x3 + r7)), some (.inr 19), some (.inl x5), none] [] Z8 (zri Q)
    refine z0 (op := 11) (a := 5) (b := 1) (by rfl) (by rfl) (?_ : TZ (d + 1) 137 67 [some (.inr 0), some (.inl x1), some (.inl x2), some (.inl (x3 + r7)), some (.inr 19), some (.inl (x5 + 1)), none] [] Z8 (zri Q))
    refine z_goto (t := 37) (by rfl) (by rfl) (?_ : TZ (d + 1) 137 37 [some (.inr 0), some (.inl x1), some (.inl x2), some (.inl (x3 + r7)), some (.inr 19), some (.inl (x5 + 1)), none] [] Z8 (zri Q))
    exact v
theorem w137_77 {d : Nat} {x1 x2 x3 x5 x6 : Int} {Z : zM} {Q : Int → zM → Prop}
    (v : zR x6 ∧
      zR ((Z 19 6) * 12) ∧
      (((Z 19 6) * 12) ≤ x6 → Q x5 Z) ∧
      (¬ ((Z 19 6) * 12) ≤ x6 → ((0 ≤ x6 ∧ x6 < 72) ∧
          zR (Z 45 x6) ∧
          zR x3 ∧
          (x3 ≤ (Z 45 x6) → TZ d 137 77 [some (.inr 0), some (.inl x1), some (.inl x2), some (.inl x3), some (.inr 19), some (.inl x5), some (.inl (x6 + 1))] [] Z (zri Q)) ∧
          (¬ x3 ≤ (Z 45 x6) → ((0 ≤ x6 ∧ x6 < 72) ∧
              zR x6 ∧
              zR x6 ∧ TZ d 137 77 [some (.inr 0), some (.inl x1), some (.inl x2), some (.inl (Z 45 x6)), some (.inr 19), some (.inl ((100 * (Int.tdiv x6 12)) + (Int.tmod x6 12))), some (.inl (x6 + 1))] [] Z (zri Q)))))) :
    TZ d 137 77 [some (.inr 0), some (.inl x1), some (.inl x2), some (.inl x3), some (.inr 19), some (.inl x5), some (.inl x6)] [] Z (zri Q) := by
  refine z0 (op := 4) (a := 6) (b := 0) (by rfl) (by rfl) (?_ : TZ d 137 79 [some (.inr 0), some (.inl x1), some (.inl x2), some (.inl x3), some (.inr 19), some (.inl x5), some (.inl x6)] [.inl x6] Z (zri Q))
  refine z0 (op := 6) (a := 4) (b := 0) (by rfl) (by rfl) (?_ : TZ d 137 81 [some (.inr 0), some (.inl x1), some (.inl x2), some (.inl x3), some (.inr 19), some (.inl x5), some (.inl x6)] [.inr 19, .inl x6] Z (zri Q))
  refine z_fi (by rfl) fi69_19 (?_ : TZ d 137 84 [some (.inr 0), some (.inl x1), some (.inl x2), some (.inl x3), some (.inr 19), some (.inl x5), some (.inl x6)] [.inl (Z 19 6), .inl x6] Z (zri Q))
  refine z0 (op := 1) (a := 0) (b := 12) (by rfl) (by rfl) (?_ : TZ d 137 86 [some (.inr 0), some (.inl x1), some (.inl x2), some (.inl x3), some (.inr 19), some (.inl x5), some (.inl x6)] [.inl 12, .inl (Z 19 6), .inl x6] Z (zri Q))
  refine z0 (op := 12) (a := 2) (b := 0) (by rfl) (by rfl) (?_ : TZ d 137 87 [some (.inr 0), some (.inl x1), some (.inl x2), some (.inl x3), some (.inr 19), some (.inl x5), some (.inl x6)] [.inl ((Z 19 6) * 12), .inl x6] Z (zri Q))
  obtain ⟨c1, c2, v1, v2⟩ := v
  refine z_if2 (a := 3) (t := 131) (by rfl) (by rfl) c1 c2 (fun h3 => ?_) (fun h3 => ?_)
  · have v := v1 h3; clear v1 v2
    show TZ d 137 131 [some (.inr 0), some (.inl x1), some (.inl x2), some (.inl x3), some (.inr 19), some (.inl x5), some (.inl x6)] [] Z (zri Q)
    refine z0 (op := 4) (a := 5) (b := 0) (by rfl) (by rfl) (?_ : TZ d 137 133 [some (.inr 0), some (.inl x1), some (.inl x2), some (.inl x3), some (.inr 19), some (.inl x5), some (.inl x6)] [.inl x5] Z (zri Q))
    exact z_reti (by rfl) (by rfl) v
  · have v := v2 h3; clear v1 v2
    show TZ d 137 90 [some (.inr 0), some (.inl x1), some (.inl x2), some (.inl x3), some (.inr 19), some (.inl x5), some (.inl x6)] [] Z (zri Q)
    refine z0 (op := 5) (a := 0) (b := 0) (by rfl) (by rfl) (?_ : TZ d 137 91 [some (.inr 0), some (.inl x1), some (.inl x2), some (.inl x3), some (.inr 19), some (.inl x5), some (.inl x6)] [.inr 0] Z (zri Q))
    refine z_fr (by rfl) fr60_0 (?_ : TZ d 137 94 [some (.inr 0), some (.inl x1), some (.inl x2), some (.inl x3), some (.inr 19), some (.inl x5), some (.inl x6)] [.inr 45] Z (zri Q))
    refine z0 (op := 4) (a := 6) (b := 0) (by rfl) (by rfl) (?_ : TZ d 137 96 [some (.inr 0), some (.inl x1), some (.inl x2), some (.inl x3), some (.inr 19), some (.inl x5), some (.inl x6)] [.inl x6, .inr 45] Z (zri Q))
    obtain ⟨c4, v⟩ := v
    refine z_al (by rfl) ln_45 c4 (?_ : TZ d 137 97 [some (.inr 0), some (.inl x1), some (.inl x2), some (.inl x3), some (.inr 19), some (.inl x5), some (.inl x6)] [.inl (Z 45 x6)] Z (zri Q))
    refine z0 (op := 3) (a := 3) (b := 0) (by rfl) (by rfl) (?_ : TZ d 137 98 [some (.inr 0), some (.inl x1), some (.inl x2), some (.inl x3), some (.inr 19), some (.inl x5), some (.inl x6)] [.inl x3, .inl (Z 45 x6)] Z (zri Q))
    obtain ⟨c5, c6, v1, v2⟩ := v
    refine z_if2 (a := 3) (t := 125) (by rfl) (by rfl) c5 c6 (fun h7 => ?_) (fun h7 => ?_)
    · have v := v1 h7; clear v1 v2
      show TZ d 137 125 [some (.inr 0), some (.inl x1), some (.inl x2), some (.inl x3), some (.inr 19), some (.inl x5), some (.inl x6)] [] Z (zri Q)
      refine z0 (op := 11) (a := 6) (b := 1) (by rfl) (by rfl) (?_ : TZ d 137 128 [some (.inr 0), some (.inl x1), some (.inl x2), some (.inl x3), some (.inr 19), some (.inl x5), some (.inl (x6 + 1))] [] Z (zri Q))
      refine z_goto (t := 77) (by rfl) (by rfl) (?_ : TZ d 137 77 [some (.inr 0), some (.inl x1), some (.inl x2), some (.inl x3), some (.inr 19), some (.inl x5), some (.inl (x6 + 1))] [] Z (zri Q))
      exact v
    · have v := v2 h7; clear v1 v2
      show TZ d 137 101 [some (.inr 0), some (.inl x1), some (.inl x2), some (.inl x3), some (.inr 19), some (.inl x5), some (.inl x6)] [] Z (zri Q)
      refine z0 (op := 5) (a := 0) (b := 0) (by rfl) (by rfl) (?_ : TZ d 137 102 [some (.inr 0), some (.inl x1), some (.inl x2), some (.inl x3), some (.inr 19), some (.inl x5), some (.inl x6)] [.inr 0] Z (zri Q))
      refine z_fr (by rfl) fr60_0 (?_ : TZ d 137 105 [some (.inr 0), some (.inl x1), some (.inl x2), some (.inl x3), some (.inr 19), some (.inl x5), some (.inl x6)] [.inr 45] Z (zri Q))
      refine z0 (op := 4) (a := 6) (b := 0) (by rfl) (by rfl) (?_ : TZ d 137 107 [some (.inr 0), some (.inl x1), some (.inl x2), some (.inl x3), some (.inr 19), some (.inl x5), some (.inl x6)] [.inl x6, .inr 45] Z (zri Q))
      obtain ⟨c8, v⟩ := v
      refine z_al (by rfl) ln_45 c8 (?_ : TZ d 137 108 [some (.inr 0), some (.inl x1), some (.inl x2), some (.inl x3), some (.inr 19), some (.inl x5), some (.inl x6)] [.inl (Z 45 x6)] Z (zri Q))
      refine z0 (op := 7) (a := 3) (b := 0) (by rfl) (by rfl) (?_ : TZ d 137 109 [some (.inr 0), some (.inl x1), some (.inl x2), some (.inl (Z 45 x6)), some (.inr 19), some (.inl x5), some (.inl x6)] [] Z (zri Q))
      refine z0 (op := 1) (a := 0) (b := 100) (by rfl) (by rfl) (?_ : TZ d 137 111 [some (.inr 0), some (.inl x1), some (.inl x2), some (.inl (Z 45 x6)), some (.inr 19), some (.inl x5), some (.inl x6)] [.inl 100] Z (zri Q))
      refine z0 (op := 4) (a := 6) (b := 0) (by rfl) (by rfl) (?_ : TZ d 137 113 [some (.inr 0), some (.inl x1), some (.inl x2), some (.inl (Z 45 x6)), some (.inr 19), some (.inl x5), some (.inl x6)] [.inl x6, .inl 100] Z (zri Q))
      refine z0 (op := 1) (a := 0) (b := 12) (by rfl) (by rfl) (?_ : TZ d 137 115 [some (.inr 0), some (.inl x1), some (.inl x2), some (.inl (Z 45 x6)), some (.inr 19), some (.inl x5), some (.inl x6)] [.inl 12, .inl x6, .inl 100] Z (zri Q))
      obtain ⟨c9, v⟩ := v
      refine z_div (by rfl) c9 (by decide) (?_ : TZ d 137 116 [some (.inr 0), some (.inl x1), some (.inl x2), some (.inl (Z 45 x6)), some (.inr 19), some (.inl x5), some (.inl x6)] [.inl (Int.tdiv x6 12), .inl 100] Z (zri Q))
      refine z0 (op := 12) (a := 2) (b := 0) (by rfl) (by rfl) (?_ : TZ d 137 117 [some (.inr 0), some (.inl x1), some (.inl x2), some (.inl (Z 45 x6)), some (.inr 19), some (.inl x5), some (.inl x6)] [.inl (100 * (Int.tdiv x6 12))] Z (zri Q))
      refine z0 (op := 4) (a := 6) (b := 0) (by rfl) (by rfl) (?_ : TZ d 137 119 [some (.inr 0), some (.inl x1), some (.inl x2), some (.inl (Z 45 x6)), some (.inr 19), some (.inl x5), some (.inl x6)] [.inl x6, .inl (100 * (Int.tdiv x6 12))] Z (zri Q))
      refine z0 (op := 1) (a := 0) (b := 12) (by rfl) (by rfl) (?_ : TZ d 137 121 [some (.inr 0), some (.inl x1), some (.inl x2), some (.inl (Z 45 x6)), some (.inr 19), some (.inl x5), some (.inl x6)] [.inl 12, .inl x6, .inl (100 * (Int.tdiv x6 12))] Z (zri Q))
      obtain ⟨c10, v⟩ := v
      refine z_rem (by rfl) c10 (by decide) (?_ : TZ d 137 122 [some (.inr 0), some (.inl x1), some (.inl x2), some (.inl (Z 45 x6)), some (.inr 19), some (.inl x5), some (.inl x6)] [.inl (Int.tmod x6 12), .inl (100 * (Int.tdiv x6 12))] Z (zri Q))
      refine z0 (op := 12) (a := 0) (b := 0) (by rfl) (by rfl) (?_ : TZ d 137 123 [some (.inr 0), some (.inl x1), some (.inl x2), some (.inl (Z 45 x6)), some (.inr 19), some (.inl x5), some (.inl x6)] [.inl ((100 * (Int.tdiv x6 12)) + (Int.tmod x6 12))] Z (zri Q))
      refine z0 (op := 8) (a := 5) (b := 0) (by rfl) (by rfl) (?_ : TZ d 137 125 [some (.inr 0), some (.inl x1), some (.inl x2), some (.inl (Z 45 x6)), some (.inr 19), some (.inl ((100 * (Int.tdiv x6 12)) + (Int.tmod x6 12))), some (.inl x6)] [] Z (zri Q))
      refine z0 (op := 11) (a := 6) (b := 1) (by rfl) (by rfl) (?_ : TZ d 137 128 [some (.inr 0), some (.inl x1), some (.inl x2), some (.inl (Z 45 x6)), some (.inr 19), some (.inl ((100 * (Int.tdiv x6 12)) + (Int.tmod x6 12))), some (.inl (x6 + 1))] [] Z (zri Q))
      refine z_goto (t := 77) (by rfl) (by rfl) (?_ : TZ d 137 77 [some (.inr 0), some (.inl x1), some (.inl x2), some (.inl (Z 45 x6)), some (.inr 19), some (.inl ((100 * (Int.tdiv x6 12)) + (Int.tmod x6 12))), some (.inl (x6 + 1))] [] Z (zri Q))
      exact v
theorem w138_0 {d : Nat} {k : Nat} {Z : zM} {Q : zM → Prop} (hk : k ∈ zFl)
    (v : TI d 22 [.inr k] Z (fun r2 Z1 =>
      TZ (d + 1) 138 7 [some (.inr 0), some (.inr k), some (.inl r2), some (.inl 0), none, none] [] Z1 (zrv Q))) :
    TZ (d + 1) 138 0 [some (.inr 0), some (.inr k), none, none, none, none] [] Z (zrv Q) := by
  refine z0 (op := 5) (a := 1) (b := 0) (by rfl) (by rfl) (?_ : TZ (d + 1) 138 1 [some (.inr 0), some (.inr k), none, none, none, none] [.inr k] Z (zrv Q))
  refine z_vi (by rfl) (by rfl) (cl_F0 _ hk) (TI.mono v fun r2 Z1 v => ?_)
  show TZ (d + 1) 138 4 [some (.inr 0), some (.inr k), none, none, none, none] [.inl r2] Z1 (zrv Q)
  refine z0 (op := 7) (a := 2) (b := 0) (by rfl) (by rfl) (?_ : TZ (d + 1) 138 5 [some (.inr 0), some (.inr k), some (.inl r2), none, none, none] [] Z1 (zrv Q))
  refine z0 (op := 0) (a := 0) (b := 0) (by rfl) (by rfl) (?_ : TZ (d + 1) 138 6 [some (.inr 0), some (.inr k), some (.inl r2), none, none, none] [.inl 0] Z1 (zrv Q))
  refine z0 (op := 7) (a := 3) (b := 0) (by rfl) (by rfl) (?_ : TZ (d + 1) 138 7 [some (.inr 0), some (.inr k), some (.inl r2), some (.inl 0), none, none] [] Z1 (zrv Q))
  exact v
theorem w138_7 {d : Nat} {k : Nat} {x2 x3 : Int} {o4 o5 : Option zV} {Z : zM} {Q : zM → Prop} (hk : k ∈ zFl)
    (v : zR x3 ∧
      zR (Z k 6) ∧
      ((Z k 6) ≤ x3 → Q Z) ∧
      (¬ (Z k 6) ≤ x3 → TZ d 138 18 [some (.inr 0), some (.inr k), some (.inl x2), some (.inl x3), some (.inl 0), o5] [] Z (zrv Q))) :
    TZ d 138 7 [some (.inr 0), some (.inr k), some (.inl x2), some (.inl x3), o4, o5] [] Z (zrv Q) := by
  refine z0 (op := 3) (a := 3) (b := 0) (by rfl) (by rfl) (?_ : TZ d 138 8 [some (.inr 0), some (.inr k), some (.inl x2), some (.inl x3), o4, o5] [.inl x3] Z (zrv Q))
  refine z0 (op := 5) (a := 1) (b := 0) (by rfl) (by rfl) (?_ : TZ d 138 9 [some (.inr 0), some (.inr k), some (.inl x2), some (.inl x3), o4, o5] [.inr k, .inl x3] Z (zrv Q))
  refine z_fi (by rfl) (fi69_F0 _ hk) (?_ : TZ d 138 12 [some (.inr 0), some (.inr k), some (.inl x2), some (.inl x3), o4, o5] [.inl (Z k 6), .inl x3] Z (zrv Q))
  obtain ⟨c1, c2, v1, v2⟩ := v
  refine z_if2 (a := 3) (t := 81) (by rfl) (by rfl) c1 c2 (fun h3 => ?_) (fun h3 => ?_)
  · have v := v1 h3; clear v1 v2
    show TZ d 138 81 [some (.inr 0), some (.inr k), some (.inl x2), some (.inl x3), o4, o5] [] Z (zrv Q)
    exact z_retv (by rfl) (by rfl) v
  · have v := v2 h3; clear v1 v2
    show TZ d 138 15 [some (.inr 0), some (.inr k), some (.inl x2), some (.inl x3), o4, o5] [] Z (zrv Q)
    refine z0 (op := 0) (a := 0) (b := 0) (by rfl) (by rfl) (?_ : TZ d 138 16 [some (.inr 0), some (.inr k), some (.inl x2), some (.inl x3), o4, o5] [.inl 0] Z (zrv Q))
    refine z0 (op := 8) (a := 4) (b := 0) (by rfl) (by rfl) (?_ : TZ d 138 18 [some (.inr 0), some (.inr k), some (.inl x2), some (.inl x3), some (.inl 0), o5] [] Z (zrv Q))
    exact v
theorem w138_18 {d : Nat} {k : Nat} {x2 x3 x4 : Int} {o5 : Option zV} {Z : zM} {Q : zM → Prop} (hk : k ∈ zFl)
    (v : zR x4 ∧
      (12 ≤ x4 → TZ (d + 1) 138 7 [some (.inr 0), some (.inr k), some (.inl x2), some (.inl (x3 + 1)), some (.inl x4), o5] [] Z (zrv Q)) ∧
      (¬ 12 ≤ x4 → ((0 ≤ x3 ∧ x3 < 6) ∧
          (0 ≤ x3 ∧ x3 < 6) ∧
          (0 ≤ ((x3 * 12) + x4) ∧ ((x3 * 12) + x4) < 72) ∧
          TI d 152 [.inl (x2 + ((x4 - (Z (k + 5) x3)) * (Z (k + 4) x3))), .inl (Z k 7)] Z (fun r7 Z6 =>
          (0 ≤ ((x3 * 12) + x4) ∧ ((x3 * 12) + x4) < 72) ∧
            ∀ Z9, Z9 = zup Z6 45 ((x3 * 12) + x4) ((Z 45 ((x3 * 12) + x4)) + r7) →
            TZ (d + 1) 138 18 [some (.inr 0), some (.inr k), some (.inl x2), some (.inl x3), some (.inl (x4 + 1)), some (.inl (x2 + ((x4 - (Z (k + 5) x3)) * (Z (k + 4) x3))))] [] Z9 (zrv Q))))) :
    TZ (d + 1) 138 18 [some (.inr 0), some (.inr k), some (.inl x2), some (.inl x3), some (.inl x4), o5] [] Z (zrv Q) := by
  refine z0 (op := 4) (a := 4) (b := 0) (by rfl) (by rfl) (?_ : TZ (d + 1) 138 20 [some (.inr 0), some (.inr k), some (.inl x2), some (.inl x3), some (.inl x4), o5] [.inl x4] Z (zrv Q))
  refine z0 (op := 1) (a := 0) (b := 12) (by rfl) (by rfl) (?_ : TZ (d + 1) 138 22 [some (.inr 0), some (.inr k), some (.inl x2), some (.inl x3), some (.inl x4), o5] [.inl 12, .inl x4] Z (zrv Q))
  obtain ⟨c1, v1, v2⟩ := v
  refine z_if2 (a := 3) (t := 75) (by rfl) (by rfl) c1 (by decide) (fun h2 => ?_) (fun h2 => ?_)
  · have v := v1 h2; clear v1 v2
    show TZ (d + 1) 138 75 [some (.inr 0), some (.inr k), some (.inl x2), some (.inl x3), some (.inl x4), o5] [] Z (zrv Q)
    refine z0 (op := 11) (a := 3) (b := 1) (by rfl) (by rfl) (?_ : TZ (d + 1) 138 78 [some (.inr 0), some (.inr k), some (.inl x2), some (.inl (x3 + 1)), some (.inl x4), o5] [] Z (zrv Q))
    refine z_goto (t := 7) (by rfl) (by rfl) (?_ : TZ (d + 1) 138 7 [some (.inr 0), some (.inr k), some (.inl x2), some (.inl (x3 + 1)), some (.inl x4), o5] [] Z (zrv Q))
    exact v
  · have v := v2 h2; clear v1 v2
    show TZ (d + 1) 138 25 [some (.inr 0), some (.inr k), some (.inl x2), some (.inl x3), some (.inl x4), o5] [] Z (zrv Q)
    refine z0 (op := 3) (a := 2) (b := 0) (by rfl) (by rfl) (?_ : TZ (d + 1) 138 26 [some (.inr 0), some (.inr k), some (.inl x2), some (.inl x3), some (.inl x4), o5] [.inl x2] Z (zrv Q))
    refine z0 (op := 4) (a := 4) (b := 0) (by rfl) (by rfl) (?_ : TZ (d + 1) 138 28 [some (.inr 0), some (.inr k), some (.inl x2), some (.inl x3), some (.inl x4), o5] [.inl x4, .inl x2] Z (zrv Q))
    refine z0 (op := 5) (a := 1) (b := 0) (by rfl) (by rfl) (?_ : TZ (d + 1) 138 29 [some (.inr 0), some (.inr k), some (.inl x2), some (.inl x3), some (.inl x4), o5] [.inr k, .inl x4, .inl x2] Z (zrv Q))
    refine z_fr (by rfl) (fr71_F0 _ hk) (?_ : TZ (d + 1) 138 32 [some (.inr 0), some (.inr k), some (.inl x2), some (.inl x3), some (.inl x4), o5] [.inr (k + 5), .inl x4, .inl x2] Z (zrv Q))
    refine z0 (op := 3) (a := 3) (b := 0) (by rfl) (by rfl) (?_ : TZ (d + 1) 138 33 [some (.inr 0), some (.inr k), some (.inl x2), some (.inl x3), some (.inl x4), o5] [.inl x3, .inr (k + 5), .inl x4, .inl x2] Z (zrv Q))
    obtain ⟨c3, v⟩ := v
    refine z_al (by rfl) (ln_F5 _ hk) c3 (?_ : TZ (d + 1) 138 34 [some (.inr 0), some (.inr k), some (.inl x2), some (.inl x3), some (.inl x4), o5] [.inl (Z (k + 5) x3), .inl x4, .inl x2] Z (zrv Q))
    refine z0 (op := 12) (a := 1) (b := 0) (by rfl) (by rfl) (?_ : TZ (d + 1) 138 35 [some (.inr 0), some (.inr k), some (.inl x2), some (.inl x3), some (.inl x4), o5] [.inl (x4 - (Z (k + 5) x3)), .inl x2] Z (zrv Q))
    refine z0 (op := 5) (a := 1) (b := 0) (by rfl) (by rfl) (?_ : TZ (d + 1) 138 36 [some (.inr 0), some (.inr k), some (.inl x2), some (.inl x3), some (.inl x4), o5] [.inr k, .inl (x4 - (Z (k + 5) x3)), .inl x2] Z (zrv Q))
    refine z_fr (by rfl) (fr76_F0 _ hk) (?_ : TZ (d + 1) 138 39 [some (.inr 0), some (.inr k), some (.inl x2), some (.inl x3), some (.inl x4), o5] [.inr (k + 4), .inl (x4 - (Z (k + 5) x3)), .inl x2] Z (zrv Q))
    refine z0 (op := 3) (a := 3) (b := 0) (by rfl) (by rfl) (?_ : TZ (d + 1) 138 40 [some (.inr 0), some (.inr k), some (.inl x2), some (.inl x3), some (.inl x4), o5] [.inl x3, .inr (k + 4), .inl (x4 - (Z (k + 5) x3)), .inl x2] Z (zrv Q))
    obtain ⟨c4, v⟩ := v
    refine z_al (by rfl) (ln_F4 _ hk) c4 (?_ : TZ (d + 1) 138 41 [some (.inr 0), some (.inr k), some (.inl x2), some (.inl x3), some (.inl x4), o5] [.inl (Z (k + 4) x3), .inl (x4 - (Z (k + 5) x3)), .inl x2] Z (zrv Q))
    refine z0 (op := 12) (a := 2) (b := 0) (by rfl) (by rfl) (?_ : TZ (d + 1) 138 42 [some (.inr 0), some (.inr k), some (.inl x2), some (.inl x3), some (.inl x4), o5] [.inl ((x4 - (Z (k + 5) x3)) * (Z (k + 4) x3)), .inl x2] Z (zrv Q))
    refine z0 (op := 12) (a := 0) (b := 0) (by rfl) (by rfl) (?_ : TZ (d + 1) 138 43 [some (.inr 0), some (.inr k), some (.inl x2), some (.inl x3), some (.inl x4), o5] [.inl (x2 + ((x4 - (Z (k + 5) x3)) * (Z (k + 4) x3)))] Z (zrv Q))
    refine z0 (op := 8) (a := 5) (b := 0) (by rfl) (by rfl) (?_ : TZ (d + 1) 138 45 [some (.inr 0), some (.inr k), some (.inl x2), some (.inl x3), some (.inl x4), some (.inl (x2 + ((x4 - (Z (k + 5) x3)) * (Z (k + 4) x3))))] [] Z (zrv Q))
    refine z0 (op := 5) (a := 0) (b := 0) (by rfl) (by rfl) (?_ : TZ (d + 1) 138 46 [some (.inr 0), some (.inr k), some (.inl x2), some (.inl x3), some (.inl x4), some (.inl (x2 + ((x4 - (Z (k + 5) x3)) * (Z (k + 4) x3))))] [.inr 0] Z (zrv Q))
    refine z_fr (by rfl) fr60_0 (?_ : TZ (d + 1) 138 49 [some (.inr 0), some (.inr k), some (.inl x2), some (.inl x3), some (.inl x4), some (.inl (x2 + ((x4 - (Z (k + 5) x3)) * (Z (k + 4) x3))))] [.inr 45] Z (zrv Q))
    refine z0 (op := 3) (a := 3) (b := 0) (by rfl) (by rfl) (?_ : TZ (d + 1) 138 50 [some (.inr 0), some (.inr k), some (.inl x2), some (.inl x3), some (.inl x4), some (.inl (x2 + ((x4 - (Z (k + 5) x3)) * (Z (k + 4) x3))))] [.inl x3, .inr 45] Z (zrv Q))
    refine z0 (op := 1) (a := 0) (b := 12) (by rfl) (by rfl) (?_ : TZ (d + 1) 138 52 [some (.inr 0), some (.inr k), some (.inl x2), some (.inl x3), some (.inl x4), some (.inl (x2 + ((x4 - (Z (k + 5) x3)) * (Z (k + 4) x3))))] [.inl 12, .inl x3, .inr 45] Z (zrv Q))
    refine z0 (op := 12) (a := 2) (b := 0) (by rfl) (by rfl) (?_ : TZ (d + 1) 138 53 [some (.inr 0), some (.inr k), some (.inl x2), some (.inl x3), some (.inl x4), some (.inl (x2 + ((x4 - (Z (k + 5) x3)) * (Z (k + 4) x3))))] [.inl (x3 * 12), .inr 45] Z (zrv Q))
    refine z0 (op := 4) (a := 4) (b := 0) (by rfl) (by rfl) (?_ : TZ (d + 1) 138 55 [some (.inr 0), some (.inr k), some (.inl x2), some (.inl x3), some (.inl x4), some (.inl (x2 + ((x4 - (Z (k + 5) x3)) * (Z (k + 4) x3))))] [.inl x4, .inl (x3 * 12), .inr 45] Z (zrv Q))
    refine z0 (op := 12) (a := 0) (b := 0) (by rfl) (by rfl) (?_ : TZ (d + 1) 138 56 [some (.inr 0), some (.inr k), some (.inl x2), some (.inl x3), some (.inl x4), some (.inl (x2 + ((x4 - (Z (k + 5) x3)) * (Z (k + 4) x3))))] [.inl ((x3 * 12) + x4), .inr 45] Z (zrv Q))
    refine z0 (op := 16) (a := 0) (b := 0) (by rfl) (by rfl) (?_ : TZ (d + 1) 138 57 [some (.inr 0), some (.inr k), some (.inl x2), some (.inl x3), some (.inl x4), some (.inl (x2 + ((x4 - (Z (k + 5) x3)) * (Z (k + 4) x3))))] [.inl ((x3 * 12) + x4), .inr 45, .inl ((x3 * 12) + x4), .inr 45] Z (zrv Q))
    obtain ⟨c5, v⟩ := v
    refine z_al (by rfl) ln_45 c5 (?_ : TZ (d + 1) 138 58 [some (.inr 0), some (.inr k), some (.inl x2), some (.inl x3), some (.inl x4), some (.inl (x2 + ((x4 - (Z (k + 5) x3)) * (Z (k + 4) x3))))] [.inl (Z 45 ((x3 * 12) + x4)), .inl ((x3 * 12) + x4), .inr 45] Z (zrv Q))
    refine z0 (op := 4) (a := 5) (b := 0) (by rfl) (by rfl) (?_ : TZ (d + 1) 138 60 [some (.inr 0), some (.inr k), some (.inl x2), some (.inl x3), some (.inl x4), some (.inl (x2 + ((x4 - (Z (k + 5) x3)) * (Z (k + 4) x3))))] [.inl (x2 + ((x4 - (Z (k + 5) x3)) * (Z (k + 4) x3))), .inl (Z 45 ((x3 * 12) + x4)), .inl ((x3 * 12) + x4), .inr 45] Z (zrv Q))
    refine z0 (op := 5) (a := 1) (b := 0) (by rfl) (by rfl) (?_ : TZ (d + 1) 138 61 [some (.inr 0), some (.inr k), some (.inl x2), some (.inl x3), some (.inl x4), some (.inl (x2 + ((x4 - (Z (k + 5) x3)) * (Z (k + 4) x3))))] [.inr k, .inl (x2 + ((x4 - (Z (k + 5) x3)) * (Z (k + 4) x3))), .inl (Z 45 ((x3 * 12) + x4)), .inl ((x3 * 12) + x4), .inr 45] Z (zrv Q))
    refine z_fi (by rfl) (fi72_F0 _ hk) (?_ : TZ (d + 1) 138 64 [some (.inr 0), some (.inr k), some (.inl x2), some (.inl x3), some (.inl x4), some (.inl (x2 + ((x4 - (Z (k + 5) x3)) * (Z (k + 4) x3))))] [.inl (Z k 7), .inl (x2 + ((x4 - (Z (k + 5) x3)) * (Z (k + 4) x3))), .inl (Z 45 ((x3 * 12) + x4)), .inl ((x3 * 12) + x4), .inr 45] Z (zrv Q))
    refine z_si (by rfl) (by rfl) (TI.mono v fun r7 Z6 v => ?_)
    show TZ (d + 1) 138 67 [some (.inr 0), some (.inr k), some (.inl x2), some (.inl x3), some (.inl x4), some (.inl (x2 + ((x4 - (Z (k + 5) x3)) * (Z (k + 4) x3))))] [.inl r7, .inl (Z 45 ((x3 * 12) + x4)), .inl ((x3 * 12) + x4), .inr 45] Z6 (zrv Q)
    refine z0 (op := 12) (a := 0) (b := 0) (by rfl) (by rfl) (?_ : TZ (d + 1) 138 68 [some (.inr 0), some (.inr k), some (.inl x2), some (.inl x3), some (.inl x4), some (.inl (x2 + ((x4 - (Z (k + 5) x3)) * (Z (k + 4) x3))))] [.inl ((Z 45 ((x3 * 12) + x4)) + r7), .inl ((x3 * 12) + x4), .inr 45] Z6 (zrv Q))
    obtain ⟨c8, v⟩ := v
    obtain ⟨Z9, eZ9⟩ : ∃ zz, zz = zup Z6 45 ((x3 * 12) + x4) ((Z 45 ((x3 * 12) + x4)) + r7) := ⟨_, rfl⟩
    have v := v Z9 eZ9
    refine z_as (by rfl) ln_45 c8 ?_
    show TZ (d + 1) 138 69 [some (.inr 0), some (.inr k), some (.inl x2), some (.inl x3), some (.inl x4), some (.inl (x2 + ((x4 - (Z (k + 5) x3)) * (Z (k + 4) x3))))] [] (zup Z6 45 ((x3 * 12) + x4) ((Z 45 ((x3 * 12) + x4)) + r7)) _
    rw [← eZ9]
    refine z0 (op := 11) (a := 4) (b := 1) (by rfl) (by rfl) (?_ : TZ (d + 1) 138 72 [some (.inr 0), some (.inr k), some (.inl x2), some (.inl x3), some (.inl (x4 + 1)), some (.inl (x2 + ((x4 - (Z (k + 5) x3)) * (Z (k + 4) x3))))] [] Z9 (zrv Q))
    refine z_goto (t := 18) (by rfl) (by rfl) (?_ : TZ (d + 1) 138 18 [some (.inr 0), some (.inr k), some (.inl x2), some (.inl x3), some (.inl (x4 + 1)), some (.inl (x2 + ((x4 - (Z (k + 5) x3)) * (Z (k + 4) x3))))] [] Z9 (zrv Q))
    exact v
theorem w139_0 {d : Nat} {x1 x2 : Int} {Z : zM} {Q : Int → zM → Prop}
    (v : TI d 77 [.inr 0, .inl x1] Z (fun r2 Z1 =>
      TI d 75 [.inl x2, .inl 1] Z1 (fun r4 Z3 =>
        TI d 72 [.inl r2, .inl r4] Z3 (fun r6 Z5 =>
          zR r6 ∧
            (r6 = 0 → (zR x2 ∧
                (x2 ≠ 1 → ((0 ≤ x1 ∧ x1 < 8) ∧ TZ (d + 1) 139 58 [some (.inr 0), some (.inl x1), some (.inl x2), some (.inl r6), some (.inl (Z5 4 x1)), some (.inl 1000000), some (.inl (Z5 4 x1)), some (.inl 0), none] [] Z5 (zri Q))) ∧
                (¬ x2 ≠ 1 → TI d 140 [.inr 0, .inl x1] Z5 (fun r13 Z12 =>
                    Q r13 Z12)))) ∧
            (¬ r6 = 0 → TI d 71 [.inr 0, .inl r6] Z5 (fun r15 Z14 =>
                Q r15 Z14)))))) :
    TZ (d + 1) 139 0 [some (.inr 0), some (.inl x1), some (.inl x2), none, none, none, none, none, none] [] Z (zri Q) := by
  refine z0 (op := 5) (a := 0) (b := 0) (by rfl) (by rfl) (?_ : TZ (d + 1) 139 1 [some (.inr 0), some (.inl x1), some (.inl x2), none, none, none, none, none, none] [.inr 0] Z (zri Q))
  refine z0 (op := 3) (a := 1) (b := 0) (by rfl) (by rfl) (?_ : TZ (d + 1) 139 2 [some (.inr 0), some (.inl x1), some (.inl x2), none, none, none, none, none, none] [.inl x1, .inr 0] Z (zri Q))
  refine z_vi (by rfl) (by rfl) cl_0 (TI.mono v fun r2 Z1 v => ?_)
  show TZ (d + 1) 139 5 [some (.inr 0), some (.inl x1), some (.inl x2), none, none, none, none, none, none] [.inl r2] Z1 (zri Q)
  refine z0 (op := 3) (a := 2) (b := 0) (by rfl) (by rfl) (?_ : TZ (d + 1) 139 6 [some (.inr 0), some (.inl x1), some (.inl x2), none, none, none, none, none, none] [.inl x2, .inl r2] Z1 (zri Q))
  refine z0 (op := 0) (a := 0) (b := 1) (by rfl) (by rfl) (?_ : TZ (d + 1) 139 7 [some (.inr 0), some (.inl x1), some (.inl x2), none, none, none, none, none, none] [.inl 1, .inl x2, .inl r2] Z1 (zri Q))
  refine z_si (by rfl) (by rfl) (TI.mono v fun r4 Z3 v => ?_)
  show TZ (d + 1) 139 10 [some (.inr 0), some (.inl x1), some (.inl x2), none, none, none, none, none, none] [.inl r4, .inl r2] Z3 (zri Q)
  refine z_si (by rfl) (by rfl) (TI.mono v fun r6 Z5 v => ?_)
  show TZ (d + 1) 139 13 [some (.inr 0), some (.inl x1), some (.inl x2), none, none, none, none, none, none] [.inl r6] Z5 (zri Q)
  refine z0 (op := 7) (a := 3) (b := 0) (by rfl) (by rfl) (?_ : TZ (d + 1) 139 14 [some (.inr 0), some (.inl x1), some (.inl x2), some (.inl r6), none, none, none, none, none] [] Z5 (zri Q))
  refine z0 (op := 3) (a := 3) (b := 0) (by rfl) (by rfl) (?_ : TZ (d + 1) 139 15 [some (.inr 0), some (.inl x1), some (.inl x2), some (.inl r6), none, none, none, none, none] [.inl r6] Z5 (zri Q))
  obtain ⟨c7, v1, v2⟩ := v
  refine z_if0 (a := 0) (t := 24) (by rfl) (by rfl) c7 (fun h8 => ?_) (fun h8 => ?_)
  · have v := v1 h8; clear v1 v2
    show TZ (d + 1) 139 24 [some (.inr 0), some (.inl x1), some (.inl x2), some (.inl r6), none, none, none, none, none] [] Z5 (zri Q)
    refine z0 (op := 3) (a := 2) (b := 0) (by rfl) (by rfl) (?_ : TZ (d + 1) 139 25 [some (.inr 0), some (.inl x1), some (.inl x2), some (.inl r6), none, none, none, none, none] [.inl x2] Z5 (zri Q))
    refine z0 (op := 0) (a := 0) (b := 1) (by rfl) (by rfl) (?_ : TZ (d + 1) 139 26 [some (.inr 0), some (.inl x1), some (.inl x2), some (.inl r6), none, none, none, none, none] [.inl 1, .inl x2] Z5 (zri Q))
    obtain ⟨c9, v1, v2⟩ := v
    refine z_if2 (a := 1) (t := 35) (by rfl) (by rfl) c9 (by decide) (fun h10 => ?_) (fun h10 => ?_)
    · have v := v1 h10; clear v1 v2
      show TZ (d + 1) 139 35 [some (.inr 0), some (.inl x1), some (.inl x2), some (.inl r6), none, none, none, none, none] [] Z5 (zri Q)
      refine z0 (op := 5) (a := 0) (b := 0) (by rfl) (by rfl) (?_ : TZ (d + 1) 139 36 [some (.inr 0), some (.inl x1), some (.inl x2), some (.inl r6), none, none, none, none, none] [.inr 0] Z5 (zri Q))
      refine z_fr (by rfl) fr50_0 (?_ : TZ (d + 1) 139 39 [some (.inr 0), some (.inl x1), some (.inl x2), some (.inl r6), none, none, none, none, none] [.inr 1] Z5 (zri Q))
      refine z_fr (by rfl) fr75_1 (?_ : TZ (d + 1) 139 42 [some (.inr 0), some (.inl x1), some (.inl x2), some (.inl r6), none, none, none, none, none] [.inr 4] Z5 (zri Q))
      refine z0 (op := 3) (a := 1) (b := 0) (by rfl) (by rfl) (?_ : TZ (d + 1) 139 43 [some (.inr 0), some (.inl x1), some (.inl x2), some (.inl r6), none, none, none, none, none] [.inl x1, .inr 4] Z5 (zri Q))
      obtain ⟨c11, v⟩ := v
      refine z_al (by rfl) ln_4 c11 (?_ : TZ (d + 1) 139 44 [some (.inr 0), some (.inl x1), some (.inl x2), some (.inl r6), none, none, none, none, none] [.inl (Z5 4 x1)] Z5 (zri Q))
      refine z0 (op := 8) (a := 4) (b := 0) (by rfl) (by rfl) (?_ : TZ (d + 1) 139 46 [some (.inr 0), some (.inl x1), some (.inl x2), some (.inl r6), some (.inl (Z5 4 x1)), none, none, none, none] [] Z5 (zri Q))
      refine z_con (op := 1) (a := 11) (b := 0) (by rfl) (by rfl) (by decide) (?_ : TZ (d + 1) 139 49 [some (.inr 0), some (.inl x1), some (.inl x2), some (.inl r6), some (.inl (Z5 4 x1)), none, none, none, none] [.inl 1000000] Z5 (zri Q))
      refine z0 (op := 8) (a := 5) (b := 0) (by rfl) (by rfl) (?_ : TZ (d + 1) 139 51 [some (.inr 0), some (.inl x1), some (.inl x2), some (.inl r6), some (.inl (Z5 4 x1)), some (.inl 1000000), none, none, none] [] Z5 (zri Q))
      refine z0 (op := 4) (a := 4) (b := 0) (by rfl) (by rfl) (?_ : TZ (d + 1) 139 53 [some (.inr 0), some (.inl x1), some (.inl x2), some (.inl r6), some (.inl (Z5 4 x1)), some (.inl 1000000), none, none, none] [.inl (Z5 4 x1)] Z5 (zri Q))
      refine z0 (op := 8) (a := 6) (b := 0) (by rfl) (by rfl) (?_ : TZ (d + 1) 139 55 [some (.inr 0), some (.inl x1), some (.inl x2), some (.inl r6), some (.inl (Z5 4 x1)), some (.inl 1000000), some (.inl (Z5 4 x1)), none, none] [] Z5 (zri Q))
      refine z0 (op := 0) (a := 0) (b := 0) (by rfl) (by rfl) (?_ : TZ (d + 1) 139 56 [some (.inr 0), some (.inl x1), some (.inl x2), some (.inl r6), some (.inl (Z5 4 x1)), some (.inl 1000000), some (.inl (Z5 4 x1)), none, none] [.inl 0] Z5 (zri Q))
      refine z0 (op := 8) (a := 7) (b := 0) (by rfl) (by rfl) (?_ : TZ (d + 1) 139 58 [some (.inr 0), some (.inl x1), some (.inl x2), some (.inl r6), some (.inl (Z5 4 x1)), some (.inl 1000000), some (.inl (Z5 4 x1)), some (.inl 0), none] [] Z5 (zri Q))
      exact v
    · have v := v2 h10; clear v1 v2
      show TZ (d + 1) 139 29 [some (.inr 0), some (.inl x1), some (.inl x2), some (.inl r6), none, none, none, none, none] [] Z5 (zri Q)
      refine z0 (op := 5) (a := 0) (b := 0) (by rfl) (by rfl) (?_ : TZ (d + 1) 139 30 [some (.inr 0), some (.inl x1), some (.inl x2), some (.inl r6), none, none, none, none, none] [.inr 0] Z5 (zri Q))
      refine z0 (op := 3) (a := 1) (b := 0) (by rfl) (by rfl) (?_ : TZ (d + 1) 139 31 [some (.inr 0), some (.inl x1), some (.inl x2), some (.inl r6), none, none, none, none, none] [.inl x1, .inr 0] Z5 (zri Q))
      refine z_vi (by rfl) (by rfl) cl_0 (TI.mono v fun r13 Z12 v => ?_)
      show TZ (d + 1) 139 34 [some (.inr 0), some (.inl x1), some (.inl x2), some (.inl r6), none, none, none, none, none] [.inl r13] Z12 (zri Q)
      exact z_reti (by rfl) (by rfl) v
  · have v := v2 h8; clear v1 v2
    show TZ (d + 1) 139 18 [some (.inr 0), some (.inl x1), some (.inl x2), some (.inl r6), none, none, none, none, none] [] Z5 (zri Q)
    refine z0 (op := 5) (a := 0) (b := 0) (by rfl) (by rfl) (?_ : TZ (d + 1) 139 19 [some (.inr 0), some (.inl x1), some (.inl x2), some (.inl r6), none, none, none, none, none] [.inr 0] Z5 (zri Q))
    refine z0 (op := 3) (a := 3) (b := 0) (by rfl) (by rfl) (?_ : TZ (d + 1) 139 20 [some (.inr 0), some (.inl x1), some (.inl x2), some (.inl r6), none, none, none, none, none] [.inl r6, .inr 0] Z5 (zri Q))
    refine z_vi (by rfl) (by rfl) cl_0 (TI.mono v fun r15 Z14 v => ?_)
    show TZ (d + 1) 139 23 [some (.inr 0), some (.inl x1), some (.inl x2), some (.inl r6), none, none, none, none, none] [.inl r15] Z14 (zri Q)
    exact z_reti (by rfl) (by rfl) v
theorem w139_58 {d : Nat} {x1 x2 x3 x4 x5 x6 x7 : Int} {o8 : Option zV} {Z : zM} {Q : Int → zM → Prop}
    (v : zR x7 ∧
      zR (Z 1 6) ∧
      ((Z 1 6) ≤ x7 → Q x6 Z) ∧
      (¬ (Z 1 6) ≤ x7 → (zR x7 ∧
          zR x4 ∧
          (x7 = x4 → TI d 22 [.inr 1] Z (fun r8 Z7 =>
              (0 ≤ x4 ∧ x4 < 6) ∧
                (0 ≤ x7 ∧ x7 < 6) ∧
                TI d 152 [.inl ((r8 - (Z7 6 x4)) + (Z7 6 x7)), .inl (Z7 1 7)] Z7 (fun r12 Z11 =>
                zR r12 ∧
                  zR x5 ∧
                  (x5 ≤ r12 → TZ (d + 1) 139 58 [some (.inr 0), some (.inl x1), some (.inl x2), some (.inl x3), some (.inl x4), some (.inl x5), some (.inl x6), some (.inl (x7 + 1)), some (.inl r12)] [] Z11 (zri Q)) ∧
                  (¬ x5 ≤ r12 → TZ (d + 1) 139 58 [some (.inr 0), some (.inl x1), some (.inl x2), some (.inl x3), some (.inl x4), some (.inl r12), some (.inl x7), some (.inl (x7 + 1)), some (.inl r12)] [] Z11 (zri Q))))) ∧
          (¬ x7 = x4 → TI d 17 [.inr 1, .inl x7] Z (fun r17 Z16 =>
              zR r17 ∧
                (r17 = 0 → TZ (d + 1) 139 58 [some (.inr 0), some (.inl x1), some (.inl x2), some (.inl x3), some (.inl x4), some (.inl x5), some (.inl x6), some (.inl (x7 + 1)), o8] [] Z16 (zri Q)) ∧
                (¬ r17 = 0 → TI d 22 [.inr 1] Z16 (fun r21 Z20 =>
                    (0 ≤ x4 ∧ x4 < 6) ∧
                      (0 ≤ x7 ∧ x7 < 6) ∧
                      TI d 152 [.inl ((r21 - (Z20 6 x4)) + (Z20 6 x7)), .inl (Z20 1 7)] Z20 (fun r25 Z24 =>
                      zR r25 ∧
                        zR x5 ∧
                        (x5 ≤ r25 → TZ (d + 1) 139 58 [some (.inr 0), some (.inl x1), some (.inl x2), some (.inl x3), some (.inl x4), some (.inl x5), some (.inl x6), some (.inl (x7 + 1)), some (.inl r25)] [] Z24 (zri Q)) ∧
                        (¬ x5 ≤ r25 → TZ (d + 1) 139 58 [some (.inr 0), some (.inl x1), some (.inl x2), some (.inl x3), some (.inl x4), some (.inl r25), some (.inl x7), some (.inl (x7 + 1)), some (.inl r25)] [] Z24 (zri Q)))))))))) :
    TZ (d + 1) 139 58 [some (.inr 0), some (.inl x1), some (.inl x2), some (.inl x3), some (.inl x4), some (.inl x5), some (.inl x6), some (.inl x7), o8] [] Z (zri Q) := by
  refine z0 (op := 4) (a := 7) (b := 0) (by rfl) (by rfl) (?_ : TZ (d + 1) 139 60 [some (.inr 0), some (.inl x1), some (.inl x2), some (.inl x3), some (.inl x4), some (.inl x5), some (.inl x6), some (.inl x7), o8] [.inl x7] Z (zri Q))
  refine z0 (op := 5) (a := 0) (b := 0) (by rfl) (by rfl) (?_ : TZ (d + 1) 139 61 [some (.inr 0), some (.inl x1), some (.inl x2), some (.inl x3), some (.inl x4), some (.inl x5), some (.inl x6), some (.inl x7), o8] [.inr 0, .inl x7] Z (zri Q))
  refine z_fr (by rfl) fr50_0 (?_ : TZ (d + 1) 139 64 [some (.inr 0), some (.inl x1), some (.inl x2), some (.inl x3), some (.inl x4), some (.inl x5), some (.inl x6), some (.inl x7), o8] [.inr 1, .inl x7] Z (zri Q))
  refine z_fi (by rfl) fi69_1 (?_ : TZ (d + 1) 139 67 [some (.inr 0), some (.inl x1), some (.inl x2), some (.inl x3), some (.inl x4), some (.inl x5), some (.inl x6), some (.inl x7), o8] [.inl (Z 1 6), .inl x7] Z (zri Q))
  obtain ⟨c1, c2, v1, v2⟩ := v
  refine z_if2 (a := 3) (t := 151) (by rfl) (by rfl) c1 c2 (fun h3 => ?_) (fun h3 => ?_)
  · have v := v1 h3; clear v1 v2
    show TZ (d + 1) 139 151 [some (.inr 0), some (.inl x1), some (.inl x2), some (.inl x3), some (.inl x4), some (.inl x5), some (.inl x6), some (.inl x7), o8] [] Z (zri Q)
    refine z0 (op := 4) (a := 6) (b := 0) (by rfl) (by rfl) (?_ : TZ (d + 1) 139 153 [some (.inr 0), some (.inl x1), some (.inl x2), some (.inl x3), some (.inl x4), some (.inl x5), some (.inl x6), some (.inl x7), o8] [.inl x6] Z (zri Q))
    exact z_reti (by rfl) (by rfl) v
  · have v := v2 h3; clear v1 v2
    show TZ (d + 1) 139 70 [some (.inr 0), some (.inl x1), some (.inl x2), some (.inl x3), some (.inl x4), some (.inl x5), some (.inl x6), some (.inl x7), o8] [] Z (zri Q)
    refine z0 (op := 4) (a := 7) (b := 0) (by rfl) (by rfl) (?_ : TZ (d + 1) 139 72 [some (.inr 0), some (.inl x1), some (.inl x2), some (.inl x3), some (.inl x4), some (.inl x5), some (.inl x6), some (.inl x7), o8] [.inl x7] Z (zri Q))
    refine z0 (op := 4) (a := 4) (b := 0) (by rfl) (by rfl) (?_ : TZ (d + 1) 139 74 [some (.inr 0), some (.inl x1), some (.inl x2), some (.inl x3), some (.inl x4), some (.inl x5), some (.inl x6), some (.inl x7), o8] [.inl x4, .inl x7] Z (zri Q))
    obtain ⟨c4, c5, v1, v2⟩ := v
    refine z_if2 (a := 0) (t := 89) (by rfl) (by rfl) c4 c5 (fun h6 => ?_) (fun h6 => ?_)
    · have v := v1 h6; clear v1 v2
      show TZ (d + 1) 139 89 [some (.inr 0), some (.inl x1), some (.inl x2), some (.inl x3), some (.inl x4), some (.inl x5), some (.inl x6), some (.inl x7), o8] [] Z (zri Q)
      refine z0 (op := 5) (a := 0) (b := 0) (by rfl) (by rfl) (?_ : TZ (d + 1) 139 90 [some (.inr 0), some (.inl x1), some (.inl x2), some (.inl x3), some (.inl x4), some (.inl x5), some (.inl x6), some (.inl x7), o8] [.inr 0] Z (zri Q))
      refine z_fr (by rfl) fr50_0 (?_ : TZ (d + 1) 139 93 [some (.inr 0), some (.inl x1), some (.inl x2), some (.inl x3), some (.inl x4), some (.inl x5), some (.inl x6), some (.inl x7), o8] [.inr 1] Z (zri Q))
      refine z_vi (by rfl) (by rfl) cl_1 (TI.mono v fun r8 Z7 v => ?_)
      show TZ (d + 1) 139 96 [some (.inr 0), some (.inl x1), some (.inl x2), some (.inl x3), some (.inl x4), some (.inl x5), some (.inl x6), some (.inl x7), o8] [.inl r8] Z7 (zri Q)
      refine z0 (op := 5) (a := 0) (b := 0) (by rfl) (by rfl) (?_ : TZ (d + 1) 139 97 [some (.inr 0), some (.inl x1), some (.inl x2), some (.inl x3), some (.inl x4), some (.inl x5), some (.inl x6), some (.inl x7), o8] [.inr 0, .inl r8] Z7 (zri Q))
      refine z_fr (by rfl) fr50_0 (?_ : TZ (d + 1) 139 100 [some (.inr 0), some (.inl x1), some (.inl x2), some (.inl x3), some (.inl x4), some (.inl x5), some (.inl x6), some (.inl x7), o8] [.inr 1, .inl r8] Z7 (zri Q))
      refine z_fr (by rfl) fr71_1 (?_ : TZ (d + 1) 139 103 [some (.inr 0), some (.inl x1), some (.inl x2), some (.inl x3), some (.inl x4), some (.inl x5), some (.inl x6), some (.inl x7), o8] [.inr 6, .inl r8] Z7 (zri Q))
      refine z0 (op := 4) (a := 4) (b := 0) (by rfl) (by rfl) (?_ : TZ (d + 1) 139 105 [some (.inr 0), some (.inl x1), some (.inl x2), some (.inl x3), some (.inl x4), some (.inl x5), some (.inl x6), some (.inl x7), o8] [.inl x4, .inr 6, .inl r8] Z7 (zri Q))
      obtain ⟨c9, v⟩ := v
      refine z_al (by rfl) ln_6 c9 (?_ : TZ (d + 1) 139 106 [some (.inr 0), some (.inl x1), some (.inl x2), some (.inl x3), some (.inl x4), some (.inl x5), some (.inl x6), some (.inl x7), o8] [.inl (Z7 6 x4), .inl r8] Z7 (zri Q))
      refine z0 (op := 12) (a := 1) (b := 0) (by rfl) (by rfl) (?_ : TZ (d + 1) 139 107 [some (.inr 0), some (.inl x1), some (.inl x2), some (.inl x3), some (.inl x4), some (.inl x5), some (.inl x6), some (.inl x7), o8] [.inl (r8 - (Z7 6 x4))] Z7 (zri Q))
      refine z0 (op := 5) (a := 0) (b := 0) (by rfl) (by rfl) (?_ : TZ (d + 1) 139 108 [some (.inr 0), some (.inl x1), some (.inl x2), some (.inl x3), some (.inl x4), some (.inl x5), some (.inl x6), some (.inl x7), o8] [.inr 0, .inl (r8 - (Z7 6 x4))] Z7 (zri Q))
      refine z_fr (by rfl) fr50_0 (?_ : TZ (d + 1) 139 111 [some (.inr 0), some (.inl x1), some (.inl x2), some (.inl x3), some (.inl x4), some (.inl x5), some (.inl x6), some (.inl x7), o8] [.inr 1, .inl (r8 - (Z7 6 x4))] Z7 (zri Q))
      refine z_fr (by rfl) fr71_1 (?_ : TZ (d + 1) 139 114 [some (.inr 0), some (.inl x1), some (.inl x2), some (.inl x3), some (.inl x4), some (.inl x5), some (.inl x6), some (.inl x7), o8] [.inr 6, .inl (r8 - (Z7 6 x4))] Z7 (zri Q))
      refine z0 (op := 4) (a := 7) (b := 0) (by rfl) (by rfl) (?_ : TZ (d + 1) 139 116 [some (.inr 0), some (.inl x1), some (.inl x2), some (.inl x3), some (.inl x4), some (.inl x5), some (.inl x6), some (.inl x7), o8] [.inl x7, .inr 6, .inl (r8 - (Z7 6 x4))] Z7 (zri Q))
      obtain ⟨c10, v⟩ := v
      refine z_al (by rfl) ln_6 c10 (?_ : TZ (d + 1) 139 117 [some (.inr 0), some (.inl x1), some (.inl x2), some (.inl x3), some (.inl x4), some (.inl x5), some (.inl x6), some (.inl x7), o8] [.inl (Z7 6 x7), .inl (r8 - (Z7 6 x4))] Z7 (zri Q))
      refine z0 (op := 12) (a := 0) (b := 0) (by rfl) (by rfl) (?_ : TZ (d + 1) 139 118 [some (.inr 0), some (.inl x1), some (.inl x2), some (.inl x3), some (.inl x4), some (.inl x5), some (.inl x6), some (.inl x7), o8] [.inl ((r8 - (Z7 6 x4)) + (Z7 6 x7))] Z7 (zri Q))
      refine z0 (op := 5) (a := 0) (b := 0) (by rfl) (by rfl) (?_ : TZ (d + 1) 139 119 [some (.inr 0), some (.inl x1), some (.inl x2), some (.inl x3), some (.inl x4), some (.inl x5), some (.inl x6), some (.inl x7), o8] [.inr 0, .inl ((r8 - (Z7 6 x4)) + (Z7 6 x7))] Z7 (zri Q))
      refine z_fr (by rfl) fr50_0 (?_ : TZ (d + 1) 139 122 [some (.inr 0), some (.inl x1), some (.inl x2), some (.inl x3), some (.inl x4), some (.inl x5), some (.inl x6), some (.inl x7), o8] [.inr 1, .inl ((r8 - (Z7 6 x4)) + (Z7 6 x7))] Z7 (zri Q))
      refine z_fi (by rfl) fi72_1 (?_ : TZ (d + 1) 139 125 [some (.inr 0), some (.inl x1), some (.inl x2), some (.inl x3), some (.inl x4), some (.inl x5), some (.inl x6), some (.inl x7), o8] [.inl (Z7 1 7), .inl ((r8 - (Z7 6 x4)) + (Z7 6 x7))] Z7 (zri Q))
      refine z_si (by rfl) (by rfl) (TI.mono v fun r12 Z11 v => ?_)
      show TZ (d + 1) 139 128 [some (.inr 0), some (.inl x1), some (.inl x2), some (.inl x3), some (.inl x4), some (.inl x5), some (.inl x6), some (.inl x7), o8] [.inl r12] Z11 (zri Q)
      refine z0 (op := 8) (a := 8) (b := 0) (by rfl) (by rfl) (?_ : TZ (d + 1) 139 130 [some (.inr 0), some (.inl x1), some (.inl x2), some (.inl x3), some (.inl x4), some (.inl x5), some (.inl x6), some (.inl x7), some (.inl r12)] [] Z11 (zri Q))
      refine z0 (op := 4) (a := 8) (b := 0) (by rfl) (by rfl) (?_ : TZ (d + 1) 139 132 [some (.inr 0), some (.inl x1), some (.inl x2), some (.inl x3), some (.inl x4), some (.inl x5), some (.inl x6), some (.inl x7), some (.inl r12)] [.inl r12] Z11 (zri Q))
      refine z0 (op := 4) (a := 5) (b := 0) (by rfl) (by rfl) (?_ : TZ (d + 1) 139 134 [some (.inr 0), some (.inl x1), some (.inl x2), some (.inl x3), some (.inl x4), some (.inl x5), some (.inl x6), some (.inl x7), some (.inl r12)] [.inl x5, .inl r12] Z11 (zri Q))
      obtain ⟨c13, c14, v1, v2⟩ := v
      refine z_if2 (a := 3) (t := 145) (by rfl) (by rfl) c13 c14 (fun h15 => ?_) (fun h15 => ?_)
      · have v := v1 h15; clear v1 v2
        show TZ (d + 1) 139 145 [some (.inr 0), some (.inl x1), some (.inl x2), some (.inl x3), some (.inl x4), some (.inl x5), some (.inl x6), some (.inl x7), some (.inl r12)] [] Z11 (zri Q)
        refine z0 (op := 11) (a := 7) (b := 1) (by rfl) (by rfl) (?_ : TZ (d + 1) 139 148 [some (.inr 0), some (.inl x1), some (.inl x2), some (.inl x3), some (.inl x4), some (.inl x5), some (.inl x6), some (.inl (x7 + 1)), some (.inl r12)] [] Z11 (zri Q))
        refine z_goto (t := 58) (by rfl) (by rfl) (?_ : TZ (d + 1) 139 58 [some (.inr 0), some (.inl x1), some (.inl x2), some (.inl x3), some (.inl x4), some (.inl x5), some (.inl x6), some (.inl (x7 + 1)), some (.inl r12)] [] Z11 (zri Q))
        exact v
      · have v := v2 h15; clear v1 v2
        show TZ (d + 1) 139 137 [some (.inr 0), some (.inl x1), some (.inl x2), some (.inl x3), some (.inl x4), some (.inl x5), some (.inl x6), some (.inl x7), some (.inl r12)] [] Z11 (zri Q)
        refine z0 (op := 4) (a := 8) (b := 0) (by rfl) (by rfl) (?_ : TZ (d + 1) 139 139 [some (.inr 0), some (.inl x1), some (.inl x2), some (.inl x3), some (.inl x4), some (.inl x5), some (.inl x6), some (.inl x7), some (.inl r12)] [.inl r12] Z11 (zri Q))
        refine z0 (op := 8) (a := 5) (b := 0) (by rfl) (by rfl) (?_ : TZ (d + 1) 139 141 [some (.inr 0), some (.inl x1), some (.inl x2), some (.inl x3), some (.inl x4), some (.inl r12), some (.inl x6), some (.inl x7), some (.inl r12)] [] Z11 (zri Q))
        refine z0 (op := 4) (a := 7) (b := 0) (by rfl) (by rfl) (?_ : TZ (d + 1) 139 143 [some (.inr 0), some (.inl x1), some (.inl x2), some (.inl x3), some (.inl x4), some (.inl r12), some (.inl x6), some (.inl x7), some (.inl r12)] [.inl x7] Z11 (zri Q))
        refine z0 (op := 8) (a := 6) (b := 0) (by rfl) (by rfl) (?_ : TZ (d + 1) 139 145 [some (.inr 0), some (.inl x1), some (.inl x2), some (.inl x3), some (.inl x4), some (.inl r12), some (.inl x7), some (.inl x7), some (.inl r12)] [] Z11 (zri Q))
        refine z0 (op := 11) (a := 7) (b := 1) (by rfl) (by rfl) (?_ : TZ (d + 1) 139 148 [some (.inr 0), some (.inl x1), some (.inl x2), some (.inl x3), some (.inl x4), some (.inl r12), some (.inl x7), some (.inl (x7 + 1)), some (.inl r12)] [] Z11 (zri Q))
        refine z_goto (t := 58) (by rfl) (by rfl) (?_ : TZ (d + 1) 139 58 [some (.inr 0), some (.inl x1), some (.inl x2), some (.inl x3), some (.inl x4), some (.inl r12), some (.inl x7), some (.inl (x7 + 1)), some (.inl r12)] [] Z11 (zri Q))
        exact v
    · have v := v2 h6; clear v1 v2
      show TZ (d + 1) 139 77 [some (.inr 0), some (.inl x1), some (.inl x2), some (.inl x3), some (.inl x4), some (.inl x5), some (.inl x6), some (.inl x7), o8] [] Z (zri Q)
      refine z0 (op := 5) (a := 0) (b := 0) (by rfl) (by rfl) (?_ : TZ (d + 1) 139 78 [some (.inr 0), some (.inl x1), some (.inl x2), some (.inl x3), some (.inl x4), some (.inl x5), some (.inl x6), some (.inl x7), o8] [.inr 0] Z (zri Q))
      refine z_fr (by rfl) fr50_0 (?_ : TZ (d + 1) 139 81 [some (.inr 0), some (.inl x1), some (.inl x2), some (.inl x3), some (.inl x4), some (.inl x5), some (.inl x6), some (.inl x7), o8] [.inr 1] Z (zri Q))
      refine z0 (op := 4) (a := 7) (b := 0) (by rfl) (by rfl) (?_ : TZ (d + 1) 139 83 [some (.inr 0), some (.inl x1), some (.inl x2), some (.inl x3), some (.inl x4), some (.inl x5), some (.inl x6), some (.inl x7), o8] [.inl x7, .inr 1] Z (zri Q))
      refine z_vi (by rfl) (by rfl) cl_1 (TI.mono v fun r17 Z16 v => ?_)
      show TZ (d + 1) 139 86 [some (.inr 0), some (.inl x1), some (.inl x2), some (.inl x3), some (.inl x4), some (.inl x5), some (.inl x6), some (.inl x7), o8] [.inl r17] Z16 (zri Q)
      obtain ⟨c18, v1, v2⟩ := v
      refine z_if0 (a := 0) (t := 145) (by rfl) (by rfl) c18 (fun h19 => ?_) (fun h19 => ?_)
      · have v := v1 h19; clear v1 v2
        show TZ (d + 1) 139 145 [some (.inr 0), some (.inl x1), some (.inl x2), some (.inl x3), some (.inl x4), some (.inl x5), some (.inl x6), some (.inl x7), o8] [] Z16 (zri Q)
        refine z0 (op := 11) (a := 7) (b := 1) (by rfl) (by rfl) (?_ : TZ (d + 1) 139 148 [some (.inr 0), some (.inl x1), some (.inl x2), some (.inl x3), some (.inl x4), some (.inl x5), some (.inl x6), some (.inl (x7 + 1)), o8] [] Z16 (zri Q))
        refine z_goto (t := 58) (by rfl) (by rfl) (?_ : TZ (d + 1) 139 58 [some (.inr 0), some (.inl x1), some (.inl x2), some (.inl x3), some (.inl x4), some (.inl x5), some (.inl x6), some (.inl (x7 + 1)), o8] [] Z16 (zri Q))
        exact v
      · have v := v2 h19; clear v1 v2
        show TZ (d + 1) 139 89 [some (.inr 0), some (.inl x1), some (.inl x2), some (.inl x3), some (.inl x4), some (.inl x5), some (.inl x6), some (.inl x7), o8] [] Z16 (zri Q)
        refine z0 (op := 5) (a := 0) (b := 0) (by rfl) (by rfl) (?_ : TZ (d + 1) 139 90 [some (.inr 0), some (.inl x1), some (.inl x2), some (.inl x3), some (.inl x4), some (.inl x5), some (.inl x6), some (.inl x7), o8] [.inr 0] Z16 (zri Q))
        refine z_fr (by rfl) fr50_0 (?_ : TZ (d + 1) 139 93 [some (.inr 0), some (.inl x1), some (.inl x2), some (.inl x3), some (.inl x4), some (.inl x5), some (.inl x6), some (.inl x7), o8] [.inr 1] Z16 (zri Q))
        refine z_vi (by rfl) (by rfl) cl_1 (TI.mono v fun r21 Z20 v => ?_)
        show TZ (d + 1) 139 96 [some (.inr 0), some (.inl x1), some (.inl x2), some (.inl x3), some (.inl x4), some (.inl x5), some (.inl x6), some (.inl x7), o8] [.inl r21] Z20 (zri Q)
        refine z0 (op := 5) (a := 0) (b := 0) (by rfl) (by rfl) (?_ : TZ (d + 1) 139 97 [some (.inr 0), some (.inl x1), some (.inl x2), some (.inl x3), some (.inl x4), some (.inl x5), some (.inl x6), some (.inl x7), o8] [.inr 0, .inl r21] Z20 (zri Q))
        refine z_fr (by rfl) fr50_0 (?_ : TZ (d + 1) 139 100 [some (.inr 0), some (.inl x1), some (.inl x2), some (.inl x3), some (.inl x4), some (.inl x5), some (.inl x6), some (.inl x7), o8] [.inr 1, .inl r21] Z20 (zri Q))
        refine z_fr (by rfl) fr71_1 (?_ : TZ (d + 1) 139 103 [some (.inr 0), some (.inl x1), some (.inl x2), some (.inl x3), some (.inl x4), some (.inl x5), some (.inl x6), some (.inl x7), o8] [.inr 6, .inl r21] Z20 (zri Q))
        refine z0 (op := 4) (a := 4) (b := 0) (by rfl) (by rfl) (?_ : TZ (d + 1) 139 105 [some (.inr 0), some (.inl x1), some (.inl x2), some (.inl x3), some (.inl x4), some (.inl x5), some (.inl x6), some (.inl x7), o8] [.inl x4, .inr 6, .inl r21] Z20 (zri Q))
        obtain ⟨c22, v⟩ := v
        refine z_al (by rfl) ln_6 c22 (?_ : TZ (d + 1) 139 106 [some (.inr 0), some (.inl x1), some (.inl x2), some (.inl x3), some (.inl x4), some (.inl x5), some (.inl x6), some (.inl x7), o8] [.inl (Z20 6 x4), .inl r21] Z20 (zri Q))
        refine z0 (op := 12) (a := 1) (b := 0) (by rfl) (by rfl) (?_ : TZ (d + 1) 139 107 [some (.inr 0), some (.inl x1), some (.inl x2), some (.inl x3), some (.inl x4), some (.inl x5), some (.inl x6), some (.inl x7), o8] [.inl (r21 - (Z20 6 x4))] Z20 (zri Q))
        refine z0 (op := 5) (a := 0) (b := 0) (by rfl) (by rfl) (?_ : TZ (d + 1) 139 108 [some (.inr 0), some (.inl x1), some (.inl x2), some (.inl x3), some (.inl x4), some (.inl x5), some (.inl x6), some (.inl x7), o8] [.inr 0, .inl (r21 - (Z20 6 x4))] Z20 (zri Q))
        refine z_fr (by rfl) fr50_0 (?_ : TZ (d + 1) 139 111 [some (.inr 0), some (.inl x1), some (.inl x2), some (.inl x3), some (.inl x4), some (.inl x5), some (.inl x6), some (.inl x7), o8] [.inr 1, .inl (r21 - (Z20 6 x4))] Z20 (zri Q))
        refine z_fr (by rfl) fr71_1 (?_ : TZ (d + 1) 139 114 [some (.inr 0), some (.inl x1), some (.inl x2), some (.inl x3), some (.inl x4), some (.inl x5), some (.inl x6), some (.inl x7), o8] [.inr 6, .inl (r21 - (Z20 6 x4))] Z20 (zri Q))
        refine z0 (op := 4) (a := 7) (b := 0) (by rfl) (by rfl) (?_ : TZ (d + 1) 139 116 [some (.inr 0), some (.inl x1), some (.inl x2), some (.inl x3), some (.inl x4), some (.inl x5), some (.inl x6), some (.inl x7), o8] [.inl x7, .inr 6, .inl (r21 - (Z20 6 x4))] Z20 (zri Q))
        obtain ⟨c23, v⟩ := v
        refine z_al (by rfl) ln_6 c23 (?_ : TZ (d + 1) 139 117 [some (.inr 0), some (.inl x1), some (.inl x2), some (.inl x3), some (.inl x4), some (.inl x5), some (.inl x6), some (.inl x7), o8] [.inl (Z20 6 x7), .inl (r21 - (Z20 6 x4))] Z20 (zri Q))
        refine z0 (op := 12) (a := 0) (b := 0) (by rfl) (by rfl) (?_ : TZ (d + 1) 139 118 [some (.inr 0), some (.inl x1), some (.inl x2), some (.inl x3), some (.inl x4), some (.inl x5), some (.inl x6), some (.inl x7), o8] [.inl ((r21 - (Z20 6 x4)) + (Z20 6 x7))] Z20 (zri Q))
        refine z0 (op := 5) (a := 0) (b := 0) (by rfl) (by rfl) (?_ : TZ (d + 1) 139 119 [some (.inr 0), some (.inl x1), some (.inl x2), some (.inl x3), some (.inl x4), some (.inl x5), some (.inl x6), some (.inl x7), o8] [.inr 0, .inl ((r21 - (Z20 6 x4)) + (Z20 6 x7))] Z20 (zri Q))
        refine z_fr (by rfl) fr50_0 (?_ : TZ (d + 1) 139 122 [some (.inr 0), some (.inl x1), some (.inl x2), some (.inl x3), some (.inl x4), some (.inl x5), some (.inl x6), some (.inl x7), o8] [.inr 1, .inl ((r21 - (Z20 6 x4)) + (Z20 6 x7))] Z20 (zri Q))
        refine z_fi (by rfl) fi72_1 (?_ : TZ (d + 1) 139 125 [some (.inr 0), some (.inl x1), some (.inl x2), some (.inl x3), some (.inl x4), some (.inl x5), some (.inl x6), some (.inl x7), o8] [.inl (Z20 1 7), .inl ((r21 - (Z20 6 x4)) + (Z20 6 x7))] Z20 (zri Q))
        refine z_si (by rfl) (by rfl) (TI.mono v fun r25 Z24 v => ?_)
        show TZ (d + 1) 139 128 [some (.inr 0), some (.inl x1), some (.inl x2), some (.inl x3), some (.inl x4), some (.inl x5), some (.inl x6), some (.inl x7), o8] [.inl r25] Z24 (zri Q)
        refine z0 (op := 8) (a := 8) (b := 0) (by rfl) (by rfl) (?_ : TZ (d + 1) 139 130 [some (.inr 0), some (.inl x1), some (.inl x2), some (.inl x3), some (.inl x4), some (.inl x5), some (.inl x6), some (.inl x7), some (.inl r25)] [] Z24 (zri Q))
        refine z0 (op := 4) (a := 8) (b := 0) (by rfl) (by rfl) (?_ : TZ (d + 1) 139 132 [some (.inr 0), some (.inl x1), some (.inl x2), some (.inl x3), some (.inl x4), some (.inl x5), some (.inl x6), some (.inl x7), some (.inl r25)] [.inl r25] Z24 (zri Q))
        refine z0 (op := 4) (a := 5) (b := 0) (by rfl) (by rfl) (?_ : TZ (d + 1) 139 134 [some (.inr 0), some (.inl x1), some (.inl x2), some (.inl x3), some (.inl x4), some (.inl x5), some (.inl x6), some (.inl x7), some (.inl r25)] [.inl x5, .inl r25] Z24 (zri Q))
        obtain ⟨c26, c27, v1, v2⟩ := v
        refine z_if2 (a := 3) (t := 145) (by rfl) (by rfl) c26 c27 (fun h28 => ?_) (fun h28 => ?_)
        · have v := v1 h28; clear v1 v2
          show TZ (d + 1) 139 145 [some (.inr 0), some (.inl x1), some (.inl x2), some (.inl x3), some (.inl x4), some (.inl x5), some (.inl x6), some (.inl x7), some (.inl r25)] [] Z24 (zri Q)
          refine z0 (op := 11) (a := 7) (b := 1) (by rfl) (by rfl) (?_ : TZ (d + 1) 139 148 [some (.inr 0), some (.inl x1), some (.inl x2), some (.inl x3), some (.inl x4), some (.inl x5), some (.inl x6), some (.inl (x7 + 1)), some (.inl r25)] [] Z24 (zri Q))
          refine z_goto (t := 58) (by rfl) (by rfl) (?_ : TZ (d + 1) 139 58 [some (.inr 0), some (.inl x1), some (.inl x2), some (.inl x3), some (.inl x4), some (.inl x5), some (.inl x6), some (.inl (x7 + 1)), some (.inl r25)] [] Z24 (zri Q))
          exact v
        · have v := v2 h28; clear v1 v2
          show TZ (d + 1) 139 137 [some (.inr 0), some (.inl x1), some (.inl x2), some (.inl x3), some (.inl x4), some (.inl x5), some (.inl x6), some (.inl x7), some (.inl r25)] [] Z24 (zri Q)
          refine z0 (op := 4) (a := 8) (b := 0) (by rfl) (by rfl) (?_ : TZ (d + 1) 139 139 [some (.inr 0), some (.inl x1), some (.inl x2), some (.inl x3), some (.inl x4), some (.inl x5), some (.inl x6), some (.inl x7), some (.inl r25)] [.inl r25] Z24 (zri Q))
          refine z0 (op := 8) (a := 5) (b := 0) (by rfl) (by rfl) (?_ : TZ (d + 1) 139 141 [some (.inr 0), some (.inl x1), some (.inl x2), some (.inl x3), some (.inl x4), some (.inl r25), some (.inl x6), some (.inl x7), some (.inl r25)] [] Z24 (zri Q))
          refine z0 (op := 4) (a := 7) (b := 0) (by rfl) (by rfl) (?_ : TZ (d + 1) 139 143 [some (.inr 0), some (.inl x1), some (.inl x2), some (.inl x3), some (.inl x4), some (.inl r25), some (.inl x6), some (.inl x7), some (.inl r25)] [.inl x7] Z24 (zri Q))
          refine z0 (op := 8) (a := 6) (b := 0) (by rfl) (by rfl) (?_ : TZ (d + 1) 139 145 [some (.inr 0), some (.inl x1), some (.inl x2), some (.inl x3), some (.inl x4), some (.inl r25), some (.inl x7), some (.inl x7), some (.inl r25)] [] Z24 (zri Q))
          refine z0 (op := 11) (a := 7) (b := 1) (by rfl) (by rfl) (?_ : TZ (d + 1) 139 148 [some (.inr 0), some (.inl x1), some (.inl x2), some (.inl x3), some (.inl x4), some (.inl r25), some (.inl x7), some (.inl (x7 + 1)), some (.inl r25)] [] Z24 (zri Q))
          refine z_goto (t := 58) (by rfl) (by rfl) (?_ : TZ (d + 1) 139 58 [some (.inr 0), some (.inl x1), some (.inl x2), some (.inl x3), some (.inl x4), some (.inl r25), some (.inl x7), some (.inl (x7 + 1)), some (.inl r25)] [] Z24 (zri Q))
          exact v
theorem w140_0 {d : Nat} {x1 : Int} {Z : zM} {Q : Int → zM → Prop}
    (v : TI d 22 [.inr 1] Z (fun r2 Z1 =>
      (0 ≤ x1 ∧ x1 < 8) ∧
        (0 ≤ (Z1 4 x1) ∧ (Z1 4 x1) < 6) ∧
        TI d 152 [.inl (r2 - (Z1 6 (Z1 4 x1))), .inl (Z1 1 7)] Z1 (fun r6 Z5 =>
        Q r6 Z5))) :
    TZ (d + 1) 140 0 [some (.inr 0), some (.inl x1)] [] Z (zri Q) := by
  refine z0 (op := 5) (a := 0) (b := 0) (by rfl) (by rfl) (?_ : TZ (d + 1) 140 1 [some (.inr 0), some (.inl x1)] [.inr 0] Z (zri Q))
  refine z_fr (by rfl) fr50_0 (?_ : TZ (d + 1) 140 4 [some (.inr 0), some (.inl x1)] [.inr 1] Z (zri Q))
  refine z_vi (by rfl) (by rfl) cl_1 (TI.mono v fun r2 Z1 v => ?_)
  show TZ (d + 1) 140 7 [some (.inr 0), some (.inl x1)] [.inl r2] Z1 (zri Q)
  refine z0 (op := 5) (a := 0) (b := 0) (by rfl) (by rfl) (?_ : TZ (d + 1) 140 8 [some (.inr 0), some (.inl x1)] [.inr 0, .inl r2] Z1 (zri Q))
  refine z_fr (by rfl) fr50_0 (?_ : TZ (d + 1) 140 11 [some (.inr 0), some (.inl x1)] [.inr 1, .inl r2] Z1 (zri Q))
  refine z_fr (by rfl) fr71_1 (?_ : TZ (d + 1) 140 14 [some (.inr 0), some (.inl x1)] [.inr 6, .inl r2] Z1 (zri Q))
  refine z0 (op := 5) (a := 0) (b := 0) (by rfl) (by rfl) (?_ : TZ (d + 1) 140 15 [some (.inr 0), some (.inl x1)] [.inr 0, .inr 6, .inl r2] Z1 (zri Q))
  refine z_fr (by rfl) fr50_0 (?_ : TZ (d + 1) 140 18 [some (.inr 0), some (.inl x1)] [.inr 1, .inr 6, .inl r2] Z1 (zri Q))
  refine z_fr (by rfl) fr75_1 (?_ : TZ (d + 1) 140 21 [some (.inr 0), some (.inl x1)] [.inr 4, .inr 6, .inl r2] Z1 (zri Q))
  refine z0 (op := 3) (a := 1) (b := 0) (by rfl) (by rfl) (?_ : TZ (d + 1) 140 22 [some (.inr 0), some (.inl x1)] [.inl x1, .inr 4, .inr 6, .inl r2] Z1 (zri Q))
  obtain ⟨c3, v⟩ := v
  refine z_al (by rfl) ln_4 c3 (?_ : TZ (d + 1) 140 23 [some (.inr 0), some (.inl x1)] [.inl (Z1 4 x1), .inr 6, .inl r2] Z1 (zri Q))
  obtain ⟨c4, v⟩ := v
  refine z_al (by rfl) ln_6 c4 (?_ : TZ (d + 1) 140 24 [some (.inr 0), some (.inl x1)] [.inl (Z1 6 (Z1 4 x1)), .inl r2] Z1 (zri Q))
  refine z0 (op := 12) (a := 1) (b := 0) (by rfl) (by rfl) (?_ : TZ (d + 1) 140 25 [some (.inr 0), some (.inl x1)] [.inl (r2 - (Z1 6 (Z1 4 x1)))] Z1 (zri Q))
  refine z0 (op := 5) (a := 0) (b := 0) (by rfl) (by rfl) (?_ : TZ (d + 1) 140 26 [some (.inr 0), some (.inl x1)] [.inr 0, .inl (r2 - (Z1 6 (Z1 4 x1)))] Z1 (zri Q))
  refine z_fr (by rfl) fr50_0 (?_ : TZ (d + 1) 140 29 [some (.inr 0), some (.inl x1)] [.inr 1, .inl (r2 - (Z1 6 (Z1 4 x1)))] Z1 (zri Q))
  refine z_fi (by rfl) fi72_1 (?_ : TZ (d + 1) 140 32 [some (.inr 0), some (.inl x1)] [.inl (Z1 1 7), .inl (r2 - (Z1 6 (Z1 4 x1)))] Z1 (zri Q))
  refine z_si (by rfl) (by rfl) (TI.mono v fun r6 Z5 v => ?_)
  show TZ (d + 1) 140 35 [some (.inr 0), some (.inl x1)] [.inl r6] Z5 (zri Q)
  exact z_reti (by rfl) (by rfl) v
theorem w141_0 {d : Nat} {Z : zM} {Q : Int → zM → Prop}
    (v : TI d 23 [.inr 1] Z (fun r2 Z1 =>
      TZ (d + 1) 141 13 [some (.inr 0), some (.inl r2), some (.inl (-9)), some (.inl 0), none] [] Z1 (zri Q))) :
    TZ (d + 1) 141 0 [some (.inr 0), none, none, none, none] [] Z (zri Q) := by
  refine z0 (op := 5) (a := 0) (b := 0) (by rfl) (by rfl) (?_ : TZ (d + 1) 141 1 [some (.inr 0), none, none, none, none] [.inr 0] Z (zri Q))
  refine z_fr (by rfl) fr50_0 (?_ : TZ (d + 1) 141 4 [some (.inr 0), none, none, none, none] [.inr 1] Z (zri Q))
  refine z_vi (by rfl) (by rfl) cl_1 (TI.mono v fun r2 Z1 v => ?_)
  show TZ (d + 1) 141 7 [some (.inr 0), none, none, none, none] [.inl r2] Z1 (zri Q)
  refine z0 (op := 7) (a := 1) (b := 0) (by rfl) (by rfl) (?_ : TZ (d + 1) 141 8 [some (.inr 0), some (.inl r2), none, none, none] [] Z1 (zri Q))
  refine z0 (op := 1) (a := 0) (b := (-9)) (by rfl) (by rfl) (?_ : TZ (d + 1) 141 10 [some (.inr 0), some (.inl r2), none, none, none] [.inl (-9)] Z1 (zri Q))
  refine z0 (op := 7) (a := 2) (b := 0) (by rfl) (by rfl) (?_ : TZ (d + 1) 141 11 [some (.inr 0), some (.inl r2), some (.inl (-9)), none, none] [] Z1 (zri Q))
  refine z0 (op := 0) (a := 0) (b := 0) (by rfl) (by rfl) (?_ : TZ (d + 1) 141 12 [some (.inr 0), some (.inl r2), some (.inl (-9)), none, none] [.inl 0] Z1 (zri Q))
  refine z0 (op := 7) (a := 3) (b := 0) (by rfl) (by rfl) (?_ : TZ (d + 1) 141 13 [some (.inr 0), some (.inl r2), some (.inl (-9)), some (.inl 0), none] [] Z1 (zri Q))
  exact v
theorem w141_13 {d : Nat} {x1 x2 x3 : Int} {o4 : Option zV} {Z : zM} {Q : Int → zM → Prop}
    (v : zR x3 ∧
      zR (Z 1 5) ∧
      ((Z 1 5) ≤ x3 → Q x2 Z) ∧
      (¬ (Z 1 5) ≤ x3 → TI d 140 [.inr 0, .inl x3] Z (fun r5 Z4 =>
          zR r5 ∧
            zR x1 ∧
            (x1 ≤ r5 → TZ (d + 1) 141 13 [some (.inr 0), some (.inl x1), some (.inl x2), some (.inl (x3 + 1)), some (.inl r5)] [] Z4 (zri Q)) ∧
            (¬ x1 ≤ r5 → TZ (d + 1) 141 13 [some (.inr 0), some (.inl r5), some (.inl x3), some (.inl (x3 + 1)), some (.inl r5)] [] Z4 (zri Q))))) :
    TZ (d + 1) 141 13 [some (.inr 0), some (.inl x1), some (.inl x2), some (.inl x3), o4] [] Z (zri Q) := by
  refine z0 (op := 3) (a := 3) (b := 0) (by rfl) (by rfl) (?_ : TZ (d + 1) 141 14 [some (.inr 0), some (.inl x1), some (.inl x2), some (.inl x3), o4] [.inl x3] Z (zri Q))
  refine z0 (op := 5) (a := 0) (b := 0) (by rfl) (by rfl) (?_ : TZ (d + 1) 141 15 [some (.inr 0), some (.inl x1), some (.inl x2), some (.inl x3), o4] [.inr 0, .inl x3] Z (zri Q))
  refine z_fr (by rfl) fr50_0 (?_ : TZ (d + 1) 141 18 [some (.inr 0), some (.inl x1), some (.inl x2), some (.inl x3), o4] [.inr 1, .inl x3] Z (zri Q))
  refine z_fi (by rfl) fi70_1 (?_ : TZ (d + 1) 141 21 [some (.inr 0), some (.inl x1), some (.inl x2), some (.inl x3), o4] [.inl (Z 1 5), .inl x3] Z (zri Q))
  obtain ⟨c1, c2, v1, v2⟩ := v
  refine z_if2 (a := 3) (t := 48) (by rfl) (by rfl) c1 c2 (fun h3 => ?_) (fun h3 => ?_)
  · have v := v1 h3; clear v1 v2
    show TZ (d + 1) 141 48 [some (.inr 0), some (.inl x1), some (.inl x2), some (.inl x3), o4] [] Z (zri Q)
    refine z0 (op := 3) (a := 2) (b := 0) (by rfl) (by rfl) (?_ : TZ (d + 1) 141 49 [some (.inr 0), some (.inl x1), some (.inl x2), some (.inl x3), o4] [.inl x2] Z (zri Q))
    exact z_reti (by rfl) (by rfl) v
  · have v := v2 h3; clear v1 v2
    show TZ (d + 1) 141 24 [some (.inr 0), some (.inl x1), some (.inl x2), some (.inl x3), o4] [] Z (zri Q)
    refine z0 (op := 5) (a := 0) (b := 0) (by rfl) (by rfl) (?_ : TZ (d + 1) 141 25 [some (.inr 0), some (.inl x1), some (.inl x2), some (.inl x3), o4] [.inr 0] Z (zri Q))
    refine z0 (op := 3) (a := 3) (b := 0) (by rfl) (by rfl) (?_ : TZ (d + 1) 141 26 [some (.inr 0), some (.inl x1), some (.inl x2), some (.inl x3), o4] [.inl x3, .inr 0] Z (zri Q))
    refine z_vi (by rfl) (by rfl) cl_0 (TI.mono v fun r5 Z4 v => ?_)
    show TZ (d + 1) 141 29 [some (.inr 0), some (.inl x1), some (.inl x2), some (.inl x3), o4] [.inl r5] Z4 (zri Q)
    refine z0 (op := 8) (a := 4) (b := 0) (by rfl) (by rfl) (?_ : TZ (d + 1) 141 31 [some (.inr 0), some (.inl x1), some (.inl x2), some (.inl x3), some (.inl r5)] [] Z4 (zri Q))
    refine z0 (op := 4) (a := 4) (b := 0) (by rfl) (by rfl) (?_ : TZ (d + 1) 141 33 [some (.inr 0), some (.inl x1), some (.inl x2), some (.inl x3), some (.inl r5)] [.inl r5] Z4 (zri Q))
    refine z0 (op := 3) (a := 1) (b := 0) (by rfl) (by rfl) (?_ : TZ (d + 1) 141 34 [some (.inr 0), some (.inl x1), some (.inl x2), some (.inl x3), some (.inl r5)] [.inl x1, .inl r5] Z4 (zri Q))
    obtain ⟨c6, c7, v1, v2⟩ := v
    refine z_if2 (a := 3) (t := 42) (by rfl) (by rfl) c6 c7 (fun h8 => ?_) (fun h8 => ?_)
    · have v := v1 h8; clear v1 v2
      show TZ (d + 1) 141 42 [some (.inr 0), some (.inl x1), some (.inl x2), some (.inl x3), some (.inl r5)] [] Z4 (zri Q)
      refine z0 (op := 11) (a := 3) (b := 1) (by rfl) (by rfl) (?_ : TZ (d + 1) 141 45 [some (.inr 0), some (.inl x1), some (.inl x2), some (.inl (x3 + 1)), some (.inl r5)] [] Z4 (zri Q))
      refine z_goto (t := 13) (by rfl) (by rfl) (?_ : TZ (d + 1) 141 13 [some (.inr 0), some (.inl x1), some (.inl x2), some (.inl (x3 + 1)), some (.inl r5)] [] Z4 (zri Q))
      exact v
    · have v := v2 h8; clear v1 v2
      show TZ (d + 1) 141 37 [some (.inr 0), some (.inl x1), some (.inl x2), some (.inl x3), some (.inl r5)] [] Z4 (zri Q)
      refine z0 (op := 4) (a := 4) (b := 0) (by rfl) (by rfl) (?_ : TZ (d + 1) 141 39 [some (.inr 0), some (.inl x1), some (.inl x2), some (.inl x3), some (.inl r5)] [.inl r5] Z4 (zri Q))
      refine z0 (op := 7) (a := 1) (b := 0) (by rfl) (by rfl) (?_ : TZ (d + 1) 141 40 [some (.inr 0), some (.inl r5), some (.inl x2), some (.inl x3), some (.inl r5)] [] Z4 (zri Q))
      refine z0 (op := 3) (a := 3) (b := 0) (by rfl) (by rfl) (?_ : TZ (d + 1) 141 41 [some (.inr 0), some (.inl r5), some (.inl x2), some (.inl x3), some (.inl r5)] [.inl x3] Z4 (zri Q))
      refine z0 (op := 7) (a := 2) (b := 0) (by rfl) (by rfl) (?_ : TZ (d + 1) 141 42 [some (.inr 0), some (.inl r5), some (.inl x3), some (.inl x3), some (.inl r5)] [] Z4 (zri Q))
      refine z0 (op := 11) (a := 3) (b := 1) (by rfl) (by rfl) (?_ : TZ (d + 1) 141 45 [some (.inr 0), some (.inl r5), some (.inl x3), some (.inl (x3 + 1)), some (.inl r5)] [] Z4 (zri Q))
      refine z_goto (t := 13) (by rfl) (by rfl) (?_ : TZ (d + 1) 141 13 [some (.inr 0), some (.inl r5), some (.inl x3), some (.inl (x3 + 1)), some (.inl r5)] [] Z4 (zri Q))
      exact v
theorem w142_0 {d : Nat} {x1 : Int} {Z : zM} {Q : Int → zM → Prop}
    (v : TI d 75 [.inl x1, .inl 2] Z (fun r2 Z1 =>
      zR r2 ∧
        (r2 = 0 → (zR x1 ∧
            (x1 ≠ 0 → (zR x1 ∧
                (x1 ≠ 2 → TZ (d + 1) 142 46 [some (.inr 0), some (.inl x1), some (.inl r2), some (.inl 0), some (.inl 0)] [] Z1 (zri Q)) ∧
                (¬ x1 ≠ 2 → TI d 143 [.inr 0] Z1 (fun r10 Z9 =>
                    Q r10 Z9)))) ∧
            (¬ x1 ≠ 0 → TI d 24 [.inr 1] Z1 (fun r12 Z11 =>
                TI d 0 [.inl r12] Z11 (fun r14 Z13 =>
                  Q r14 Z13))))) ∧
        (¬ r2 = 0 → TI d 71 [.inr 0, .inl r2] Z1 (fun r16 Z15 =>
            Q r16 Z15)))) :
    TZ (d + 1) 142 0 [some (.inr 0), some (.inl x1), none, none, none] [] Z (zri Q) := by
  refine z0 (op := 3) (a := 1) (b := 0) (by rfl) (by rfl) (?_ : TZ (d + 1) 142 1 [some (.inr 0), some (.inl x1), none, none, none] [.inl x1] Z (zri Q))
  refine z0 (op := 0) (a := 0) (b := 2) (by rfl) (by rfl) (?_ : TZ (d + 1) 142 2 [some (.inr 0), some (.inl x1), none, none, none] [.inl 2, .inl x1] Z (zri Q))
  refine z_si (by rfl) (by rfl) (TI.mono v fun r2 Z1 v => ?_)
  show TZ (d + 1) 142 5 [some (.inr 0), some (.inl x1), none, none, none] [.inl r2] Z1 (zri Q)
  refine z0 (op := 7) (a := 2) (b := 0) (by rfl) (by rfl) (?_ : TZ (d + 1) 142 6 [some (.inr 0), some (.inl x1), some (.inl r2), none, none] [] Z1 (zri Q))
  refine z0 (op := 3) (a := 2) (b := 0) (by rfl) (by rfl) (?_ : TZ (d + 1) 142 7 [some (.inr 0), some (.inl x1), some (.inl r2), none, none] [.inl r2] Z1 (zri Q))
  obtain ⟨c3, v1, v2⟩ := v
  refine z_if0 (a := 0) (t := 16) (by rfl) (by rfl) c3 (fun h4 => ?_) (fun h4 => ?_)
  · have v := v1 h4; clear v1 v2
    show TZ (d + 1) 142 16 [some (.inr 0), some (.inl x1), some (.inl r2), none, none] [] Z1 (zri Q)
    refine z0 (op := 3) (a := 1) (b := 0) (by rfl) (by rfl) (?_ : TZ (d + 1) 142 17 [some (.inr 0), some (.inl x1), some (.inl r2), none, none] [.inl x1] Z1 (zri Q))
    obtain ⟨c5, v1, v2⟩ := v
    refine z_if0 (a := 1) (t := 31) (by rfl) (by rfl) c5 (fun h6 => ?_) (fun h6 => ?_)
    · have v := v1 h6; clear v1 v2
      show TZ (d + 1) 142 31 [some (.inr 0), some (.inl x1), some (.inl r2), none, none] [] Z1 (zri Q)
      refine z0 (op := 3) (a := 1) (b := 0) (by rfl) (by rfl) (?_ : TZ (d + 1) 142 32 [some (.inr 0), some (.inl x1), some (.inl r2), none, none] [.inl x1] Z1 (zri Q))
      refine z0 (op := 0) (a := 0) (b := 2) (by rfl) (by rfl) (?_ : TZ (d + 1) 142 33 [some (.inr 0), some (.inl x1), some (.inl r2), none, none] [.inl 2, .inl x1] Z1 (zri Q))
      obtain ⟨c7, v1, v2⟩ := v
      refine z_if2 (a := 1) (t := 41) (by rfl) (by rfl) c7 (by decide) (fun h8 => ?_) (fun h8 => ?_)
      · have v := v1 h8; clear v1 v2
        show TZ (d + 1) 142 41 [some (.inr 0), some (.inl x1), some (.inl r2), none, none] [] Z1 (zri Q)
        refine z0 (op := 0) (a := 0) (b := 0) (by rfl) (by rfl) (?_ : TZ (d + 1) 142 42 [some (.inr 0), some (.inl x1), some (.inl r2), none, none] [.inl 0] Z1 (zri Q))
        refine z0 (op := 7) (a := 3) (b := 0) (by rfl) (by rfl) (?_ : TZ (d + 1) 142 43 [some (.inr 0), some (.inl x1), some (.inl r2), some (.inl 0), none] [] Z1 (zri Q))
        refine z0 (op := 0) (a := 0) (b := 0) (by rfl) (by rfl) (?_ : TZ (d + 1) 142 44 [some (.inr 0), some (.inl x1), some (.inl r2), some (.inl 0), none] [.inl 0] Z1 (zri Q))
        refine z0 (op := 8) (a := 4) (b := 0) (by rfl) (by rfl) (?_ : TZ (d + 1) 142 46 [some (.inr 0), some (.inl x1), some (.inl r2), some (.inl 0), some (.inl 0)] [] Z1 (zri Q))
        exact v
      · have v := v2 h8; clear v1 v2
        show TZ (d + 1) 142 36 [some (.inr 0), some (.inl x1), some (.inl r2), none, none] [] Z1 (zri Q)
        refine z0 (op := 5) (a := 0) (b := 0) (by rfl) (by rfl) (?_ : TZ (d + 1) 142 37 [some (.inr 0), some (.inl x1), some (.inl r2), none, none] [.inr 0] Z1 (zri Q))
        refine z_vi (by rfl) (by rfl) cl_0 (TI.mono v fun r10 Z9 v => ?_)
        show TZ (d + 1) 142 40 [some (.inr 0), some (.inl x1), some (.inl r2), none, none] [.inl r10] Z9 (zri Q)
        exact z_reti (by rfl) (by rfl) v
    · have v := v2 h6; clear v1 v2
      show TZ (d + 1) 142 20 [some (.inr 0), some (.inl x1), some (.inl r2), none, none] [] Z1 (zri Q)
      refine z0 (op := 5) (a := 0) (b := 0) (by rfl) (by rfl) (?_ : TZ (d + 1) 142 21 [some (.inr 0), some (.inl x1), some (.inl r2), none, none] [.inr 0] Z1 (zri Q))
      refine z_fr (by rfl) fr50_0 (?_ : TZ (d + 1) 142 24 [some (.inr 0), some (.inl x1), some (.inl r2), none, none] [.inr 1] Z1 (zri Q))
      refine z_vi (by rfl) (by rfl) cl_1 (TI.mono v fun r12 Z11 v => ?_)
      show TZ (d + 1) 142 27 [some (.inr 0), some (.inl x1), some (.inl r2), none, none] [.inl r12] Z11 (zri Q)
      refine z_si (by rfl) (by rfl) (TI.mono v fun r14 Z13 v => ?_)
      show TZ (d + 1) 142 30 [some (.inr 0), some (.inl x1), some (.inl r2), none, none] [.inl r14] Z13 (zri Q)
      exact z_reti (by rfl) (by rfl) v
  · have v := v2 h4; clear v1 v2
    show TZ (d + 1) 142 10 [some (.inr 0), some (.inl x1), some (.inl r2), none, none] [] Z1 (zri Q)
    refine z0 (op := 5) (a := 0) (b := 0) (by rfl) (by rfl) (?_ : TZ (d + 1) 142 11 [some (.inr 0), some (.inl x1), some (.inl r2), none, none] [.inr 0] Z1 (zri Q))
    refine z0 (op := 3) (a := 2) (b := 0) (by rfl) (by rfl) (?_ : TZ (d + 1) 142 12 [some (.inr 0), some (.inl x1), some (.inl r2), none, none] [.inl r2, .inr 0] Z1 (zri Q))
    refine z_vi (by rfl) (by rfl) cl_0 (TI.mono v fun r16 Z15 v => ?_)
    show TZ (d + 1) 142 15 [some (.inr 0), some (.inl x1), some (.inl r2), none, none] [.inl r16] Z15 (zri Q)
    exact z_reti (by rfl) (by rfl) v
theorem w142_46 {d : Nat} {x1 x2 x3 x4 : Int} {Z : zM} {Q : Int → zM → Prop}
    (v : zR x4 ∧
      zR (Z 1 6) ∧
      ((Z 1 6) ≤ x4 → Q x3 Z) ∧
      (¬ (Z 1 6) ≤ x4 → ((0 ≤ x4 ∧ x4 < 6) ∧
          zR x3 ∧
          zR (Z 5 x4) ∧ TZ (d + 1) 142 46 [some (.inr 0), some (.inl x1), some (.inl x2), some (.inl (max x3 (Z 5 x4))), some (.inl (x4 + 1))] [] Z (zri Q)))) :
    TZ (d + 1) 142 46 [some (.inr 0), some (.inl x1), some (.inl x2), some (.inl x3), some (.inl x4)] [] Z (zri Q) := by
  refine z0 (op := 4) (a := 4) (b := 0) (by rfl) (by rfl) (?_ : TZ (d + 1) 142 48 [some (.inr 0), some (.inl x1), some (.inl x2), some (.inl x3), some (.inl x4)] [.inl x4] Z (zri Q))
  refine z0 (op := 5) (a := 0) (b := 0) (by rfl) (by rfl) (?_ : TZ (d + 1) 142 49 [some (.inr 0), some (.inl x1), some (.inl x2), some (.inl x3), some (.inl x4)] [.inr 0, .inl x4] Z (zri Q))
  refine z_fr (by rfl) fr50_0 (?_ : TZ (d + 1) 142 52 [some (.inr 0), some (.inl x1), some (.inl x2), some (.inl x3), some (.inl x4)] [.inr 1, .inl x4] Z (zri Q))
  refine z_fi (by rfl) fi69_1 (?_ : TZ (d + 1) 142 55 [some (.inr 0), some (.inl x1), some (.inl x2), some (.inl x3), some (.inl x4)] [.inl (Z 1 6), .inl x4] Z (zri Q))
  obtain ⟨c1, c2, v1, v2⟩ := v
  refine z_if2 (a := 3) (t := 79) (by rfl) (by rfl) c1 c2 (fun h3 => ?_) (fun h3 => ?_)
  · have v := v1 h3; clear v1 v2
    show TZ (d + 1) 142 79 [some (.inr 0), some (.inl x1), some (.inl x2), some (.inl x3), some (.inl x4)] [] Z (zri Q)
    refine z0 (op := 3) (a := 3) (b := 0) (by rfl) (by rfl) (?_ : TZ (d + 1) 142 80 [some (.inr 0), some (.inl x1), some (.inl x2), some (.inl x3), some (.inl x4)] [.inl x3] Z (zri Q))
    exact z_reti (by rfl) (by rfl) v
  · have v := v2 h3; clear v1 v2
    show TZ (d + 1) 142 58 [some (.inr 0), some (.inl x1), some (.inl x2), some (.inl x3), some (.inl x4)] [] Z (zri Q)
    refine z0 (op := 3) (a := 3) (b := 0) (by rfl) (by rfl) (?_ : TZ (d + 1) 142 59 [some (.inr 0), some (.inl x1), some (.inl x2), some (.inl x3), some (.inl x4)] [.inl x3] Z (zri Q))
    refine z0 (op := 5) (a := 0) (b := 0) (by rfl) (by rfl) (?_ : TZ (d + 1) 142 60 [some (.inr 0), some (.inl x1), some (.inl x2), some (.inl x3), some (.inl x4)] [.inr 0, .inl x3] Z (zri Q))
    refine z_fr (by rfl) fr50_0 (?_ : TZ (d + 1) 142 63 [some (.inr 0), some (.inl x1), some (.inl x2), some (.inl x3), some (.inl x4)] [.inr 1, .inl x3] Z (zri Q))
    refine z_fr (by rfl) fr76_1 (?_ : TZ (d + 1) 142 66 [some (.inr 0), some (.inl x1), some (.inl x2), some (.inl x3), some (.inl x4)] [.inr 5, .inl x3] Z (zri Q))
    refine z0 (op := 4) (a := 4) (b := 0) (by rfl) (by rfl) (?_ : TZ (d + 1) 142 68 [some (.inr 0), some (.inl x1), some (.inl x2), some (.inl x3), some (.inl x4)] [.inl x4, .inr 5, .inl x3] Z (zri Q))
    obtain ⟨c4, v⟩ := v
    refine z_al (by rfl) ln_5 c4 (?_ : TZ (d + 1) 142 69 [some (.inr 0), some (.inl x1), some (.inl x2), some (.inl x3), some (.inl x4)] [.inl (Z 5 x4), .inl x3] Z (zri Q))
    obtain ⟨c5, c6, v⟩ := v
    refine z_max (by rfl) (by rfl) (Nat.le_of_ble_eq_true rfl) c5 c6 (?_ : TZ (d + 1) 142 72 [some (.inr 0), some (.inl x1), some (.inl x2), some (.inl x3), some (.inl x4)] [.inl (max x3 (Z 5 x4))] Z (zri Q))
    refine z0 (op := 7) (a := 3) (b := 0) (by rfl) (by rfl) (?_ : TZ (d + 1) 142 73 [some (.inr 0), some (.inl x1), some (.inl x2), some (.inl (max x3 (Z 5 x4))), some (.inl x4)] [] Z (zri Q))
    refine z0 (op := 11) (a := 4) (b := 1) (by rfl) (by rfl) (?_ : TZ (d + 1) 142 76 [some (.inr 0), some (.inl x1), some (.inl x2), some (.inl (max x3 (Z 5 x4))), some (.inl (x4 + 1))] [] Z (zri Q))
    refine z_goto (t := 46) (by rfl) (by rfl) (?_ : TZ (d + 1) 142 46 [some (.inr 0), some (.inl x1), some (.inl x2), some (.inl (max x3 (Z 5 x4))), some (.inl (x4 + 1))] [] Z (zri Q))
    exact v
theorem w143_0 {d : Nat} {Z : zM} {Q : Int → zM → Prop}
    (v : zR (Z 1 6) ∧ TZ (d + 1) 143 18 [some (.inr 0), some (.inl (max 1 (Z 1 6))), some (.inl 1000000), some (.inl 0)] [] Z (zri Q)) :
    TZ (d + 1) 143 0 [some (.inr 0), none, none, none] [] Z (zri Q) := by
  refine z0 (op := 0) (a := 0) (b := 1) (by rfl) (by rfl) (?_ : TZ (d + 1) 143 1 [some (.inr 0), none, none, none] [.inl 1] Z (zri Q))
  refine z0 (op := 5) (a := 0) (b := 0) (by rfl) (by rfl) (?_ : TZ (d + 1) 143 2 [some (.inr 0), none, none, none] [.inr 0, .inl 1] Z (zri Q))
  refine z_fr (by rfl) fr50_0 (?_ : TZ (d + 1) 143 5 [some (.inr 0), none, none, none] [.inr 1, .inl 1] Z (zri Q))
  refine z_fi (by rfl) fi69_1 (?_ : TZ (d + 1) 143 8 [some (.inr 0), none, none, none] [.inl (Z 1 6), .inl 1] Z (zri Q))
  obtain ⟨c1, v⟩ := v
  refine z_max (by rfl) (by rfl) (Nat.le_of_ble_eq_true rfl) (by decide) c1 (?_ : TZ (d + 1) 143 11 [some (.inr 0), none, none, none] [.inl (max 1 (Z 1 6))] Z (zri Q))
  refine z0 (op := 7) (a := 1) (b := 0) (by rfl) (by rfl) (?_ : TZ (d + 1) 143 12 [some (.inr 0), some (.inl (max 1 (Z 1 6))), none, none] [] Z (zri Q))
  refine z_con (op := 1) (a := 11) (b := 0) (by rfl) (by rfl) (by decide) (?_ : TZ (d + 1) 143 15 [some (.inr 0), some (.inl (max 1 (Z 1 6))), none, none] [.inl 1000000] Z (zri Q))
  refine z0 (op := 7) (a := 2) (b := 0) (by rfl) (by rfl) (?_ : TZ (d + 1) 143 16 [some (.inr 0), some (.inl (max 1 (Z 1 6))), some (.inl 1000000), none] [] Z (zri Q))
  refine z0 (op := 0) (a := 0) (b := 0) (by rfl) (by rfl) (?_ : TZ (d + 1) 143 17 [some (.inr 0), some (.inl (max 1 (Z 1 6))), some (.inl 1000000), none] [.inl 0] Z (zri Q))
  refine z0 (op := 7) (a := 3) (b := 0) (by rfl) (by rfl) (?_ : TZ (d + 1) 143 18 [some (.inr 0), some (.inl (max 1 (Z 1 6))), some (.inl 1000000), some (.inl 0)] [] Z (zri Q))
  exact v
theorem w143_18 {d : Nat} {x1 x2 x3 : Int} {Z : zM} {Q : Int → zM → Prop}
    (v : zR x3 ∧
      zR (zbit 6 1 x1) ∧
      ((zbit 6 1 x1) ≤ x3 → Q x2 Z) ∧
      (¬ (zbit 6 1 x1) ≤ x3 → TI d 0 [.inl x3] Z (fun r5 Z4 =>
          zR (Z4 1 5) ∧
            (1 ≤ x1 ∧ x1 ≤ 2147483647) ∧
            zR r5 ∧
            zR (Int.tmod (Z4 1 5) x1) ∧
            (r5 ≠ (Int.tmod (Z4 1 5) x1) → TZ (d + 1) 143 18 [some (.inr 0), some (.inl x1), some (.inl x2), some (.inl (x3 + 1))] [] Z4 (zri Q)) ∧
            (¬ r5 ≠ (Int.tmod (Z4 1 5) x1) → (zR (Z4 1 5) ∧
                (1 ≤ x1 ∧ x1 ≤ 2147483647) ∧
                TI d 144 [.inr 0, .inl (Int.tdiv (Z4 1 5) x1), .inl x3] Z4 (fun r14 Z13 =>
                zR x2 ∧
                  zR r14 ∧ TZ (d + 1) 143 18 [some (.inr 0), some (.inl x1), some (.inl (min x2 r14)), some (.inl (x3 + 1))] [] Z13 (zri Q))))))) :
    TZ (d + 1) 143 18 [some (.inr 0), some (.inl x1), some (.inl x2), some (.inl x3)] [] Z (zri Q) := by
  refine z0 (op := 3) (a := 3) (b := 0) (by rfl) (by rfl) (?_ : TZ (d + 1) 143 19 [some (.inr 0), some (.inl x1), some (.inl x2), some (.inl x3)] [.inl x3] Z (zri Q))
  refine z0 (op := 0) (a := 0) (b := 1) (by rfl) (by rfl) (?_ : TZ (d + 1) 143 20 [some (.inr 0), some (.inl x1), some (.inl x2), some (.inl x3)] [.inl 1, .inl x3] Z (zri Q))
  refine z0 (op := 3) (a := 1) (b := 0) (by rfl) (by rfl) (?_ : TZ (d + 1) 143 21 [some (.inr 0), some (.inl x1), some (.inl x2), some (.inl x3)] [.inl x1, .inl 1, .inl x3] Z (zri Q))
  refine z0 (op := 12) (a := 6) (b := 0) (by rfl) (by rfl) (?_ : TZ (d + 1) 143 22 [some (.inr 0), some (.inl x1), some (.inl x2), some (.inl x3)] [.inl (zbit 6 1 x1), .inl x3] Z (zri Q))
  obtain ⟨c1, c2, v1, v2⟩ := v
  refine z_if2 (a := 3) (t := 66) (by rfl) (by rfl) c1 c2 (fun h3 => ?_) (fun h3 => ?_)
  · have v := v1 h3; clear v1 v2
    show TZ (d + 1) 143 66 [some (.inr 0), some (.inl x1), some (.inl x2), some (.inl x3)] [] Z (zri Q)
    refine z0 (op := 3) (a := 2) (b := 0) (by rfl) (by rfl) (?_ : TZ (d + 1) 143 67 [some (.inr 0), some (.inl x1), some (.inl x2), some (.inl x3)] [.inl x2] Z (zri Q))
    exact z_reti (by rfl) (by rfl) v
  · have v := v2 h3; clear v1 v2
    show TZ (d + 1) 143 25 [some (.inr 0), some (.inl x1), some (.inl x2), some (.inl x3)] [] Z (zri Q)
    refine z0 (op := 3) (a := 3) (b := 0) (by rfl) (by rfl) (?_ : TZ (d + 1) 143 26 [some (.inr 0), some (.inl x1), some (.inl x2), some (.inl x3)] [.inl x3] Z (zri Q))
    refine z_si (by rfl) (by rfl) (TI.mono v fun r5 Z4 v => ?_)
    show TZ (d + 1) 143 29 [some (.inr 0), some (.inl x1), some (.inl x2), some (.inl x3)] [.inl r5] Z4 (zri Q)
    refine z0 (op := 5) (a := 0) (b := 0) (by rfl) (by rfl) (?_ : TZ (d + 1) 143 30 [some (.inr 0), some (.inl x1), some (.inl x2), some (.inl x3)] [.inr 0, .inl r5] Z4 (zri Q))
    refine z_fr (by rfl) fr50_0 (?_ : TZ (d + 1) 143 33 [some (.inr 0), some (.inl x1), some (.inl x2), some (.inl x3)] [.inr 1, .inl r5] Z4 (zri Q))
    refine z_fi (by rfl) fi70_1 (?_ : TZ (d + 1) 143 36 [some (.inr 0), some (.inl x1), some (.inl x2), some (.inl x3)] [.inl (Z4 1 5), .inl r5] Z4 (zri Q))
    refine z0 (op := 3) (a := 1) (b := 0) (by rfl) (by rfl) (?_ : TZ (d + 1) 143 37 [some (.inr 0), some (.inl x1), some (.inl x2), some (.inl x3)] [.inl x1, .inl (Z4 1 5), .inl r5] Z4 (zri Q))
    obtain ⟨c6, c7, v⟩ := v
    refine z_rem (by rfl) c6 c7 (?_ : TZ (d + 1) 143 38 [some (.inr 0), some (.inl x1), some (.inl x2), some (.inl x3)] [.inl (Int.tmod (Z4 1 5) x1), .inl r5] Z4 (zri Q))
    obtain ⟨c8, c9, v1, v2⟩ := v
    refine z_if2 (a := 1) (t := 60) (by rfl) (by rfl) c8 c9 (fun h10 => ?_) (fun h10 => ?_)
    · have v := v1 h10; clear v1 v2
      show TZ (d + 1) 143 60 [some (.inr 0), some (.inl x1), some (.inl x2), some (.inl x3)] [] Z4 (zri Q)
      refine z0 (op := 11) (a := 3) (b := 1) (by rfl) (by rfl) (?_ : TZ (d + 1) 143 63 [some (.inr 0), some (.inl x1), some (.inl x2), some (.inl (x3 + 1))] [] Z4 (zri Q))
      refine z_goto (t := 18) (by rfl) (by rfl) (?_ : TZ (d + 1) 143 18 [some (.inr 0), some (.inl x1), some (.inl x2), some (.inl (x3 + 1))] [] Z4 (zri Q))
      exact v
    · have v := v2 h10; clear v1 v2
      show TZ (d + 1) 143 41 [some (.inr 0), some (.inl x1), some (.inl x2), some (.inl x3)] [] Z4 (zri Q)
      refine z0 (op := 3) (a := 2) (b := 0) (by rfl) (by rfl) (?_ : TZ (d + 1) 143 42 [some (.inr 0), some (.inl x1), some (.inl x2), some (.inl x3)] [.inl x2] Z4 (zri Q))
      refine z0 (op := 5) (a := 0) (b := 0) (by rfl) (by rfl) (?_ : TZ (d + 1) 143 43 [some (.inr 0), some (.inl x1), some (.inl x2), some (.inl x3)] [.inr 0, .inl x2] Z4 (zri Q))
      refine z0 (op := 5) (a := 0) (b := 0) (by rfl) (by rfl) (?_ : TZ (d + 1) 143 44 [some (.inr 0), some (.inl x1), some (.inl x2), some (.inl x3)] [.inr 0, .inr 0, .inl x2] Z4 (zri Q))
      refine z_fr (by rfl) fr50_0 (?_ : TZ (d + 1) 143 47 [some (.inr 0), some (.inl x1), some (.inl x2), some (.inl x3)] [.inr 1, .inr 0, .inl x2] Z4 (zri Q))
      refine z_fi (by rfl) fi70_1 (?_ : TZ (d + 1) 143 50 [some (.inr 0), some (.inl x1), some (.inl x2), some (.inl x3)] [.inl (Z4 1 5), .inr 0, .inl x2] Z4 (zri Q))
      refine z0 (op := 3) (a := 1) (b := 0) (by rfl) (by rfl) (?_ : TZ (d + 1) 143 51 [some (.inr 0), some (.inl x1), some (.inl x2), some (.inl x3)] [.inl x1, .inl (Z4 1 5), .inr 0, .inl x2] Z4 (zri Q))
      obtain ⟨c11, c12, v⟩ := v
      refine z_div (by rfl) c11 c12 (?_ : TZ (d + 1) 143 52 [some (.inr 0), some (.inl x1), some (.inl x2), some (.inl x3)] [.inl (Int.tdiv (Z4 1 5) x1), .inr 0, .inl x2] Z4 (zri Q))
      refine z0 (op := 3) (a := 3) (b := 0) (by rfl) (by rfl) (?_ : TZ (d + 1) 143 53 [some (.inr 0), some (.inl x1), some (.inl x2), some (.inl x3)] [.inl x3, .inl (Int.tdiv (Z4 1 5) x1), .inr 0, .inl x2] Z4 (zri Q))
      refine z_vi (by rfl) (by rfl) cl_0 (TI.mono v fun r14 Z13 v => ?_)
      show TZ (d + 1) 143 56 [some (.inr 0), some (.inl x1), some (.inl x2), some (.inl x3)] [.inl r14, .inl x2] Z13 (zri Q)
      obtain ⟨c15, c16, v⟩ := v
      refine z_min (by rfl) (by rfl) (Nat.le_of_ble_eq_true rfl) c15 c16 (?_ : TZ (d + 1) 143 59 [some (.inr 0), some (.inl x1), some (.inl x2), some (.inl x3)] [.inl (min x2 r14)] Z13 (zri Q))
      refine z0 (op := 7) (a := 2) (b := 0) (by rfl) (by rfl) (?_ : TZ (d + 1) 143 60 [some (.inr 0), some (.inl x1), some (.inl (min x2 r14)), some (.inl x3)] [] Z13 (zri Q))
      refine z0 (op := 11) (a := 3) (b := 1) (by rfl) (by rfl) (?_ : TZ (d + 1) 143 63 [some (.inr 0), some (.inl x1), some (.inl (min x2 r14)), some (.inl (x3 + 1))] [] Z13 (zri Q))
      refine z_goto (t := 18) (by rfl) (by rfl) (?_ : TZ (d + 1) 143 18 [some (.inr 0), some (.inl x1), some (.inl (min x2 r14)), some (.inl (x3 + 1))] [] Z13 (zri Q))
      exact v
theorem w144_0 {d : Nat} {x1 x2 : Int} {Z : zM} {Q : Int → zM → Prop}
    (v : TZ d 144 8 [some (.inr 0), some (.inl x1), some (.inl x2), some (.inl 0), some (.inl 0), some (.inl 0)] [] Z (zri Q)) :
    TZ d 144 0 [some (.inr 0), some (.inl x1), some (.inl x2), none, none, none] [] Z (zri Q) := by
  refine z0 (op := 0) (a := 0) (b := 0) (by rfl) (by rfl) (?_ : TZ d 144 1 [some (.inr 0), some (.inl x1), some (.inl x2), none, none, none] [.inl 0] Z (zri Q))
  refine z0 (op := 7) (a := 3) (b := 0) (by rfl) (by rfl) (?_ : TZ d 144 2 [some (.inr 0), some (.inl x1), some (.inl x2), some (.inl 0), none, none] [] Z (zri Q))
  refine z0 (op := 0) (a := 0) (b := 0) (by rfl) (by rfl) (?_ : TZ d 144 3 [some (.inr 0), some (.inl x1), some (.inl x2), some (.inl 0), none, none] [.inl 0] Z (zri Q))
  refine z0 (op := 8) (a := 4) (b := 0) (by rfl) (by rfl) (?_ : TZ d 144 5 [some (.inr 0), some (.inl x1), some (.inl x2), some (.inl 0), some (.inl 0), none] [] Z (zri Q))
  refine z0 (op := 0) (a := 0) (b := 0) (by rfl) (by rfl) (?_ : TZ d 144 6 [some (.inr 0), some (.inl x1), some (.inl x2), some (.inl 0), some (.inl 0), none] [.inl 0] Z (zri Q))
  refine z0 (op := 8) (a := 5) (b := 0) (by rfl) (by rfl) (?_ : TZ d 144 8 [some (.inr 0), some (.inl x1), some (.inl x2), some (.inl 0), some (.inl 0), some (.inl 0)] [] Z (zri Q))
  exact v
theorem w144_8 {d : Nat} {x1 x2 x3 x4 x5 : Int} {Z : zM} {Q : Int → zM → Prop}
    (v : zR x5 ∧
      zR (Z 1 6) ∧
      ((Z 1 6) ≤ x5 → Q x3 Z) ∧
      (¬ (Z 1 6) ≤ x5 → ((0 ≤ x5 ∧ x5 < 6) ∧
          zR (x4 + (((Z 5 x5) - x1) - (zbit 3 (zbit 7 x2 x5) 1))) ∧ TZ (d + 1) 144 8 [some (.inr 0), some (.inl x1), some (.inl x2), some (.inl (x3 + (if 0 ≤ (x4 + (((Z 5 x5) - x1) - (zbit 3 (zbit 7 x2 x5) 1))) then (x4 + (((Z 5 x5) - x1) - (zbit 3 (zbit 7 x2 x5) 1))) else -(x4 + (((Z 5 x5) - x1) - (zbit 3 (zbit 7 x2 x5) 1)))))), some (.inl (x4 + (((Z 5 x5) - x1) - (zbit 3 (zbit 7 x2 x5) 1)))), some (.inl (x5 + 1))] [] Z (zri Q)))) :
    TZ (d + 1) 144 8 [some (.inr 0), some (.inl x1), some (.inl x2), some (.inl x3), some (.inl x4), some (.inl x5)] [] Z (zri Q) := by
  refine z0 (op := 4) (a := 5) (b := 0) (by rfl) (by rfl) (?_ : TZ (d + 1) 144 10 [some (.inr 0), some (.inl x1), some (.inl x2), some (.inl x3), some (.inl x4), some (.inl x5)] [.inl x5] Z (zri Q))
  refine z0 (op := 5) (a := 0) (b := 0) (by rfl) (by rfl) (?_ : TZ (d + 1) 144 11 [some (.inr 0), some (.inl x1), some (.inl x2), some (.inl x3), some (.inl x4), some (.inl x5)] [.inr 0, .inl x5] Z (zri Q))
  refine z_fr (by rfl) fr50_0 (?_ : TZ (d + 1) 144 14 [some (.inr 0), some (.inl x1), some (.inl x2), some (.inl x3), some (.inl x4), some (.inl x5)] [.inr 1, .inl x5] Z (zri Q))
  refine z_fi (by rfl) fi69_1 (?_ : TZ (d + 1) 144 17 [some (.inr 0), some (.inl x1), some (.inl x2), some (.inl x3), some (.inl x4), some (.inl x5)] [.inl (Z 1 6), .inl x5] Z (zri Q))
  obtain ⟨c1, c2, v1, v2⟩ := v
  refine z_if2 (a := 3) (t := 58) (by rfl) (by rfl) c1 c2 (fun h3 => ?_) (fun h3 => ?_)
  · have v := v1 h3; clear v1 v2
    show TZ (d + 1) 144 58 [some (.inr 0), some (.inl x1), some (.inl x2), some (.inl x3), some (.inl x4), some (.inl x5)] [] Z (zri Q)
    refine z0 (op := 3) (a := 3) (b := 0) (by rfl) (by rfl) (?_ : TZ (d + 1) 144 59 [some (.inr 0), some (.inl x1), some (.inl x2), some (.inl x3), some (.inl x4), some (.inl x5)] [.inl x3] Z (zri Q))
    exact z_reti (by rfl) (by rfl) v
  · have v := v2 h3; clear v1 v2
    show TZ (d + 1) 144 20 [some (.inr 0), some (.inl x1), some (.inl x2), some (.inl x3), some (.inl x4), some (.inl x5)] [] Z (zri Q)
    refine z0 (op := 4) (a := 4) (b := 0) (by rfl) (by rfl) (?_ : TZ (d + 1) 144 22 [some (.inr 0), some (.inl x1), some (.inl x2), some (.inl x3), some (.inl x4), some (.inl x5)] [.inl x4] Z (zri Q))
    refine z0 (op := 5) (a := 0) (b := 0) (by rfl) (by rfl) (?_ : TZ (d + 1) 144 23 [some (.inr 0), some (.inl x1), some (.inl x2), some (.inl x3), some (.inl x4), some (.inl x5)] [.inr 0, .inl x4] Z (zri Q))
    refine z_fr (by rfl) fr50_0 (?_ : TZ (d + 1) 144 26 [some (.inr 0), some (.inl x1), some (.inl x2), some (.inl x3), some (.inl x4), some (.inl x5)] [.inr 1, .inl x4] Z (zri Q))
    refine z_fr (by rfl) fr76_1 (?_ : TZ (d + 1) 144 29 [some (.inr 0), some (.inl x1), some (.inl x2), some (.inl x3), some (.inl x4), some (.inl x5)] [.inr 5, .inl x4] Z (zri Q))
    refine z0 (op := 4) (a := 5) (b := 0) (by rfl) (by rfl) (?_ : TZ (d + 1) 144 31 [some (.inr 0), some (.inl x1), some (.inl x2), some (.inl x3), some (.inl x4), some (.inl x5)] [.inl x5, .inr 5, .inl x4] Z (zri Q))
    obtain ⟨c4, v⟩ := v
    refine z_al (by rfl) ln_5 c4 (?_ : TZ (d + 1) 144 32 [some (.inr 0), some (.inl x1), some (.inl x2), some (.inl x3), some (.inl x4), some (.inl x5)] [.inl (Z 5 x5), .inl x4] Z (zri Q))
    refine z0 (op := 3) (a := 1) (b := 0) (by rfl) (by rfl) (?_ : TZ (d + 1) 144 33 [some (.inr 0), some (.inl x1), some (.inl x2), some (.inl x3), some (.inl x4), some (.inl x5)] [.inl x1, .inl (Z 5 x5), .inl x4] Z (zri Q))
    refine z0 (op := 12) (a := 1) (b := 0) (by rfl) (by rfl) (?_ : TZ (d + 1) 144 34 [some (.inr 0), some (.inl x1), some (.inl x2), some (.inl x3), some (.inl x4), some (.inl x5)] [.inl ((Z 5 x5) - x1), .inl x4] Z (zri Q))
    refine z0 (op := 3) (a := 2) (b := 0) (by rfl) (by rfl) (?_ : TZ (d + 1) 144 35 [some (.inr 0), some (.inl x1), some (.inl x2), some (.inl x3), some (.inl x4), some (.inl x5)] [.inl x2, .inl ((Z 5 x5) - x1), .inl x4] Z (zri Q))
    refine z0 (op := 4) (a := 5) (b := 0) (by rfl) (by rfl) (?_ : TZ (d + 1) 144 37 [some (.inr 0), some (.inl x1), some (.inl x2), some (.inl x3), some (.inl x4), some (.inl x5)] [.inl x5, .inl x2, .inl ((Z 5 x5) - x1), .inl x4] Z (zri Q))
    refine z0 (op := 12) (a := 7) (b := 0) (by rfl) (by rfl) (?_ : TZ (d + 1) 144 38 [some (.inr 0), some (.inl x1), some (.inl x2), some (.inl x3), some (.inl x4), some (.inl x5)] [.inl (zbit 7 x2 x5), .inl ((Z 5 x5) - x1), .inl x4] Z (zri Q))
    refine z0 (op := 0) (a := 0) (b := 1) (by rfl) (by rfl) (?_ : TZ (d + 1) 144 39 [some (.inr 0), some (.inl x1), some (.inl x2), some (.inl x3), some (.inl x4), some (.inl x5)] [.inl 1, .inl (zbit 7 x2 x5), .inl ((Z 5 x5) - x1), .inl x4] Z (zri Q))
    refine z0 (op := 12) (a := 3) (b := 0) (by rfl) (by rfl) (?_ : TZ (d + 1) 144 40 [some (.inr 0), some (.inl x1), some (.inl x2), some (.inl x3), some (.inl x4), some (.inl x5)] [.inl (zbit 3 (zbit 7 x2 x5) 1), .inl ((Z 5 x5) - x1), .inl x4] Z (zri Q))
    refine z0 (op := 12) (a := 1) (b := 0) (by rfl) (by rfl) (?_ : TZ (d + 1) 144 41 [some (.inr 0), some (.inl x1), some (.inl x2), some (.inl x3), some (.inl x4), some (.inl x5)] [.inl (((Z 5 x5) - x1) - (zbit 3 (zbit 7 x2 x5) 1)), .inl x4] Z (zri Q))
    refine z0 (op := 12) (a := 0) (b := 0) (by rfl) (by rfl) (?_ : TZ (d + 1) 144 42 [some (.inr 0), some (.inl x1), some (.inl x2), some (.inl x3), some (.inl x4), some (.inl x5)] [.inl (x4 + (((Z 5 x5) - x1) - (zbit 3 (zbit 7 x2 x5) 1)))] Z (zri Q))
    refine z0 (op := 8) (a := 4) (b := 0) (by rfl) (by rfl) (?_ : TZ (d + 1) 144 44 [some (.inr 0), some (.inl x1), some (.inl x2), some (.inl x3), some (.inl (x4 + (((Z 5 x5) - x1) - (zbit 3 (zbit 7 x2 x5) 1)))), some (.inl x5)] [] Z (zri Q))
    refine z0 (op := 3) (a := 3) (b := 0) (by rfl) (by rfl) (?_ : TZ (d + 1) 144 45 [some (.inr 0), some (.inl x1), some (.inl x2), some (.inl x3), some (.inl (x4 + (((Z 5 x5) - x1) - (zbit 3 (zbit 7 x2 x5) 1)))), some (.inl x5)] [.inl x3] Z (zri Q))
    refine z0 (op := 4) (a := 4) (b := 0) (by rfl) (by rfl) (?_ : TZ (d + 1) 144 47 [some (.inr 0), some (.inl x1), some (.inl x2), some (.inl x3), some (.inl (x4 + (((Z 5 x5) - x1) - (zbit 3 (zbit 7 x2 x5) 1)))), some (.inl x5)] [.inl (x4 + (((Z 5 x5) - x1) - (zbit 3 (zbit 7 x2 x5) 1))), .inl x3] Z (zri Q))
    obtain ⟨c5, v⟩ := v
    refine z_abs (by rfl) (by rfl) (Nat.le_of_ble_eq_true rfl) c5 (?_ : TZ (d + 1) 144 50 [some (.inr 0), some (.inl x1), some (.inl x2), some (.inl x3), some (.inl (x4 + (((Z 5 x5) - x1) - (zbit 3 (zbit 7 x2 x5) 1)))), some (.inl x5)] [.inl (if 0 ≤ (x4 + (((Z 5 x5) - x1) - (zbit 3 (zbit 7 x2 x5) 1))) then (x4 + (((Z 5 x5) - x1) - (zbit 3 (zbit 7 x2 x5) 1))) else -(x4 + (((Z 5 x5) - x1) - (zbit 3 (zbit 7 x2 x5) 1)))), .inl x3] Z (zri Q))
    refine z0 (op := 12) (a := 0) (b := 0) (by rfl) (by rfl) (?_ : TZ (d + 1) 144 51 [some (.inr 0), some (.inl x1), some (.inl x2), some (.inl x3), some (.inl (x4 + (((Z 5 x5) - x1) - (zbit 3 (zbit 7 x2 x5) 1)))), some (.inl x5)] [.inl (x3 + (if 0 ≤ (x4 + (((Z 5 x5) - x1) - (zbit 3 (zbit 7 x2 x5) 1))) then (x4 + (((Z 5 x5) - x1) - (zbit 3 (zbit 7 x2 x5) 1))) else -(x4 + (((Z 5 x5) - x1) - (zbit 3 (zbit 7 x2 x5) 1)))))] Z (zri Q))
    refine z0 (op := 7) (a := 3) (b := 0) (by rfl) (by rfl) (?_ : TZ (d + 1) 144 52 [some (.inr 0), some (.inl x1), some (.inl x2), some (.inl (x3 + (if 0 ≤ (x4 + (((Z 5 x5) - x1) - (zbit 3 (zbit 7 x2 x5) 1))) then (x4 + (((Z 5 x5) - x1) - (zbit 3 (zbit 7 x2 x5) 1))) else -(x4 + (((Z 5 x5) - x1) - (zbit 3 (zbit 7 x2 x5) 1)))))), some (.inl (x4 + (((Z 5 x5) - x1) - (zbit 3 (zbit 7 x2 x5) 1)))), some (.inl x5)] [] Z (zri Q))
    refine z0 (op := 11) (a := 5) (b := 1) (by rfl) (by rfl) (?_ : TZ (d + 1) 144 55 [some (.inr 0), some (.inl x1), some (.inl x2), some (.inl (x3 + (if 0 ≤ (x4 + (((Z 5 x5) - x1) - (zbit 3 (zbit 7 x2 x5) 1))) then (x4 + (((Z 5 x5) - x1) - (zbit 3 (zbit 7 x2 x5) 1))) else -(x4 + (((Z 5 x5) - x1) - (zbit 3 (zbit 7 x2 x5) 1)))))), some (.inl (x4 + (((Z 5 x5) - x1) - (zbit 3 (zbit 7 x2 x5) 1)))), some (.inl (x5 + 1))] [] Z (zri Q))
    refine z_goto (t := 8) (by rfl) (by rfl) (?_ : TZ (d + 1) 144 8 [some (.inr 0), some (.inl x1), some (.inl x2), some (.inl (x3 + (if 0 ≤ (x4 + (((Z 5 x5) - x1) - (zbit 3 (zbit 7 x2 x5) 1))) then (x4 + (((Z 5 x5) - x1) - (zbit 3 (zbit 7 x2 x5) 1))) else -(x4 + (((Z 5 x5) - x1) - (zbit 3 (zbit 7 x2 x5) 1)))))), some (.inl (x4 + (((Z 5 x5) - x1) - (zbit 3 (zbit 7 x2 x5) 1)))), some (.inl (x5 + 1))] [] Z (zri Q))
    exact v
theorem w145_0 {d : Nat} {x1 : Int} {Z : zM} {Q : Int → zM → Prop}
    (v : TI d 73 [.inl x1, .inl 0, .inl 99] Z (fun r2 Z1 =>
      zR r2 ∧
        (r2 ≠ 0 → (zR r2 ∧
            (r2 = 0 → TI d 58 [.inr 39, .inl x1] Z1 (fun r8 Z7 =>
                Q r8 Z7)) ∧
            (¬ r2 = 0 → TI d 71 [.inr 0, .inl r2] Z1 (fun r10 Z9 =>
                Q r10 Z9)))) ∧
        (¬ r2 ≠ 0 → (zR (Z1 39 3) ∧
            ((Z1 39 3) < 12 → (zR r2 ∧
                (r2 = 0 → TI d 58 [.inr 39, .inl x1] Z1 (fun r16 Z15 =>
                    Q r16 Z15)) ∧
                (¬ r2 = 0 → TI d 71 [.inr 0, .inl r2] Z1 (fun r18 Z17 =>
                    Q r18 Z17)))) ∧
            (¬ (Z1 39 3) < 12 → TI d 71 [.inr 0, .inl (-6)] Z1 (fun r20 Z19 =>
                Q r20 Z19)))))) :
    TZ (d + 1) 145 0 [some (.inr 0), some (.inl x1), none] [] Z (zri Q) := by
  refine z0 (op := 3) (a := 1) (b := 0) (by rfl) (by rfl) (?_ : TZ (d + 1) 145 1 [some (.inr 0), some (.inl x1), none] [.inl x1] Z (zri Q))
  refine z0 (op := 0) (a := 0) (b := 0) (by rfl) (by rfl) (?_ : TZ (d + 1) 145 2 [some (.inr 0), some (.inl x1), none] [.inl 0, .inl x1] Z (zri Q))
  refine z0 (op := 1) (a := 0) (b := 99) (by rfl) (by rfl) (?_ : TZ (d + 1) 145 4 [some (.inr 0), some (.inl x1), none] [.inl 99, .inl 0, .inl x1] Z (zri Q))
  refine z_si (by rfl) (by rfl) (TI.mono v fun r2 Z1 v => ?_)
  show TZ (d + 1) 145 7 [some (.inr 0), some (.inl x1), none] [.inl r2] Z1 (zri Q)
  refine z0 (op := 7) (a := 2) (b := 0) (by rfl) (by rfl) (?_ : TZ (d + 1) 145 8 [some (.inr 0), some (.inl x1), some (.inl r2)] [] Z1 (zri Q))
  refine z0 (op := 3) (a := 2) (b := 0) (by rfl) (by rfl) (?_ : TZ (d + 1) 145 9 [some (.inr 0), some (.inl x1), some (.inl r2)] [.inl r2] Z1 (zri Q))
  obtain ⟨c3, v1, v2⟩ := v
  refine z_if0 (a := 1) (t := 27) (by rfl) (by rfl) c3 (fun h4 => ?_) (fun h4 => ?_)
  · have v := v1 h4; clear v1 v2
    show TZ (d + 1) 145 27 [some (.inr 0), some (.inl x1), some (.inl r2)] [] Z1 (zri Q)
    refine z0 (op := 3) (a := 2) (b := 0) (by rfl) (by rfl) (?_ : TZ (d + 1) 145 28 [some (.inr 0), some (.inl x1), some (.inl r2)] [.inl r2] Z1 (zri Q))
    obtain ⟨c5, v1, v2⟩ := v
    refine z_if0 (a := 0) (t := 37) (by rfl) (by rfl) c5 (fun h6 => ?_) (fun h6 => ?_)
    · have v := v1 h6; clear v1 v2
      show TZ (d + 1) 145 37 [some (.inr 0), some (.inl x1), some (.inl r2)] [] Z1 (zri Q)
      refine z0 (op := 5) (a := 0) (b := 0) (by rfl) (by rfl) (?_ : TZ (d + 1) 145 38 [some (.inr 0), some (.inl x1), some (.inl r2)] [.inr 0] Z1 (zri Q))
      refine z_fr (by rfl) fr57_0 (?_ : TZ (d + 1) 145 41 [some (.inr 0), some (.inl x1), some (.inl r2)] [.inr 39] Z1 (zri Q))
      refine z0 (op := 3) (a := 1) (b := 0) (by rfl) (by rfl) (?_ : TZ (d + 1) 145 42 [some (.inr 0), some (.inl x1), some (.inl r2)] [.inl x1, .inr 39] Z1 (zri Q))
      refine z_vi (by rfl) (by rfl) cl_39 (TI.mono v fun r8 Z7 v => ?_)
      show TZ (d + 1) 145 45 [some (.inr 0), some (.inl x1), some (.inl r2)] [.inl r8] Z7 (zri Q)
      exact z_reti (by rfl) (by rfl) v
    · have v := v2 h6; clear v1 v2
      show TZ (d + 1) 145 31 [some (.inr 0), some (.inl x1), some (.inl r2)] [] Z1 (zri Q)
      refine z0 (op := 5) (a := 0) (b := 0) (by rfl) (by rfl) (?_ : TZ (d + 1) 145 32 [some (.inr 0), some (.inl x1), some (.inl r2)] [.inr 0] Z1 (zri Q))
      refine z0 (op := 3) (a := 2) (b := 0) (by rfl) (by rfl) (?_ : TZ (d + 1) 145 33 [some (.inr 0), some (.inl x1), some (.inl r2)] [.inl r2, .inr 0] Z1 (zri Q))
      refine z_vi (by rfl) (by rfl) cl_0 (TI.mono v fun r10 Z9 v => ?_)
      show TZ (d + 1) 145 36 [some (.inr 0), some (.inl x1), some (.inl r2)] [.inl r10] Z9 (zri Q)
      exact z_reti (by rfl) (by rfl) v
  · have v := v2 h4; clear v1 v2
    show TZ (d + 1) 145 12 [some (.inr 0), some (.inl x1), some (.inl r2)] [] Z1 (zri Q)
    refine z0 (op := 5) (a := 0) (b := 0) (by rfl) (by rfl) (?_ : TZ (d + 1) 145 13 [some (.inr 0), some (.inl x1), some (.inl r2)] [.inr 0] Z1 (zri Q))
    refine z_fr (by rfl) fr57_0 (?_ : TZ (d + 1) 145 16 [some (.inr 0), some (.inl x1), some (.inl r2)] [.inr 39] Z1 (zri Q))
    refine z_fi (by rfl) fi67_39 (?_ : TZ (d + 1) 145 19 [some (.inr 0), some (.inl x1), some (.inl r2)] [.inl (Z1 39 3)] Z1 (zri Q))
    refine z0 (op := 1) (a := 0) (b := 12) (by rfl) (by rfl) (?_ : TZ (d + 1) 145 21 [some (.inr 0), some (.inl x1), some (.inl r2)] [.inl 12, .inl (Z1 39 3)] Z1 (zri Q))
    obtain ⟨c11, v1, v2⟩ := v
    refine z_if2 (a := 2) (t := 27) (by rfl) (by rfl) c11 (by decide) (fun h12 => ?_) (fun h12 => ?_)
    · have v := v1 h12; clear v1 v2
      show TZ (d + 1) 145 27 [some (.inr 0), some (.inl x1), some (.inl r2)] [] Z1 (zri Q)
      refine z0 (op := 3) (a := 2) (b := 0) (by rfl) (by rfl) (?_ : TZ (d + 1) 145 28 [some (.inr 0), some (.inl x1), some (.inl r2)] [.inl r2] Z1 (zri Q))
      obtain ⟨c13, v1, v2⟩ := v
      refine z_if0 (a := 0) (t := 37) (by rfl) (by rfl) c13 (fun h14 => ?_) (fun h14 => ?_)
      · have v := v1 h14; clear v1 v2
        show TZ (d + 1) 145 37 [some (.inr 0), some (.inl x1), some (.inl r2)] [] Z1 (zri Q)
        refine z0 (op := 5) (a := 0) (b := 0) (by rfl) (by rfl) (?_ : TZ (d + 1) 145 38 [some (.inr 0), some (.inl x1), some (.inl r2)] [.inr 0] Z1 (zri Q))
        refine z_fr (by rfl) fr57_0 (?_ : TZ (d + 1) 145 41 [some (.inr 0), some (.inl x1), some (.inl r2)] [.inr 39] Z1 (zri Q))
        refine z0 (op := 3) (a := 1) (b := 0) (by rfl) (by rfl) (?_ : TZ (d + 1) 145 42 [some (.inr 0), some (.inl x1), some (.inl r2)] [.inl x1, .inr 39] Z1 (zri Q))
        refine z_vi (by rfl) (by rfl) cl_39 (TI.mono v fun r16 Z15 v => ?_)
        show TZ (d + 1) 145 45 [some (.inr 0), some (.inl x1), some (.inl r2)] [.inl r16] Z15 (zri Q)
        exact z_reti (by rfl) (by rfl) v
      · have v := v2 h14; clear v1 v2
        show TZ (d + 1) 145 31 [some (.inr 0), some (.inl x1), some (.inl r2)] [] Z1 (zri Q)
        refine z0 (op := 5) (a := 0) (b := 0) (by rfl) (by rfl) (?_ : TZ (d + 1) 145 32 [some (.inr 0), some (.inl x1), some (.inl r2)] [.inr 0] Z1 (zri Q))
        refine z0 (op := 3) (a := 2) (b := 0) (by rfl) (by rfl) (?_ : TZ (d + 1) 145 33 [some (.inr 0), some (.inl x1), some (.inl r2)] [.inl r2, .inr 0] Z1 (zri Q))
        refine z_vi (by rfl) (by rfl) cl_0 (TI.mono v fun r18 Z17 v => ?_)
        show TZ (d + 1) 145 36 [some (.inr 0), some (.inl x1), some (.inl r2)] [.inl r18] Z17 (zri Q)
        exact z_reti (by rfl) (by rfl) v
    · have v := v2 h12; clear v1 v2
      show TZ (d + 1) 145 24 [some (.inr 0), some (.inl x1), some (.inl r2)] [] Z1 (zri Q)
      refine z0 (op := 1) (a := 0) (b := (-6)) (by rfl) (by rfl) (?_ : TZ (d + 1) 145 26 [some (.inr 0), some (.inl x1), some (.inl r2)] [.inl (-6)] Z1 (zri Q))
      refine z0 (op := 7) (a := 2) (b := 0) (by rfl) (by rfl) (?_ : TZ (d + 1) 145 27 [some (.inr 0), some (.inl x1), some (.inl (-6))] [] Z1 (zri Q))
      refine z0 (op := 3) (a := 2) (b := 0) (by rfl) (by rfl) (?_ : TZ (d + 1) 145 28 [some (.inr 0), some (.inl x1), some (.inl (-6))] [.inl (-6)] Z1 (zri Q))
      refine z_if0 (a := 0) (t := 37) (by rfl) (by rfl) (by decide) (fun h => absurd (show ((-6) : Int) = (0 : Int) from h) (by decide)) (fun _ => ?_)
      show TZ (d + 1) 145 31 [some (.inr 0), some (.inl x1), some (.inl (-6))] [] Z1 (zri Q)
      refine z0 (op := 5) (a := 0) (b := 0) (by rfl) (by rfl) (?_ : TZ (d + 1) 145 32 [some (.inr 0), some (.inl x1), some (.inl (-6))] [.inr 0] Z1 (zri Q))
      refine z0 (op := 3) (a := 2) (b := 0) (by rfl) (by rfl) (?_ : TZ (d + 1) 145 33 [some (.inr 0), some (.inl x1), some (.inl (-6))] [.inl (-6), .inr 0] Z1 (zri Q))
      refine z_vi (by rfl) (by rfl) cl_0 (TI.mono v fun r20 Z19 v => ?_)
      show TZ (d + 1) 145 36 [some (.inr 0), some (.inl x1), some (.inl (-6))] [.inl r20] Z19 (zri Q)
      exact z_reti (by rfl) (by rfl) v
theorem w146_0 {d : Nat} {Z : zM} {Q : Int → zM → Prop}
    (v : TR d 97 [.inr 0] Z (fun r2 Z1 =>
      r2 = 19 ∧
        TI d 111 [.inr 0, .inr 19] Z1 (fun r4 Z3 =>
        ∀ Z5, Z5 = zup Z3 39 3 0 →
          Q r4 Z5))) :
    TZ (d + 1) 146 0 [some (.inr 0), none] [] Z (zri Q) := by
  refine z0 (op := 5) (a := 0) (b := 0) (by rfl) (by rfl) (?_ : TZ (d + 1) 146 1 [some (.inr 0), none] [.inr 0] Z (zri Q))
  refine z0 (op := 5) (a := 0) (b := 0) (by rfl) (by rfl) (?_ : TZ (d + 1) 146 2 [some (.inr 0), none] [.inr 0, .inr 0] Z (zri Q))
  refine z_vr (by rfl) (by rfl) cl_0 (TR.mono v fun r2 Z1 v => ?_)
  obtain ⟨er2, v⟩ := v
  subst er2
  show TZ (d + 1) 146 5 [some (.inr 0), none] [.inr 19, .inr 0] Z1 (zri Q)
  refine z_vi (by rfl) (by rfl) cl_0 (TI.mono v fun r4 Z3 v => ?_)
  show TZ (d + 1) 146 8 [some (.inr 0), none] [.inl r4] Z3 (zri Q)
  refine z0 (op := 7) (a := 1) (b := 0) (by rfl) (by rfl) (?_ : TZ (d + 1) 146 9 [some (.inr 0), some (.inl r4)] [] Z3 (zri Q))
  refine z0 (op := 5) (a := 0) (b := 0) (by rfl) (by rfl) (?_ : TZ (d + 1) 146 10 [some (.inr 0), some (.inl r4)] [.inr 0] Z3 (zri Q))
  refine z_fr (by rfl) fr57_0 (?_ : TZ (d + 1) 146 13 [some (.inr 0), some (.inl r4)] [.inr 39] Z3 (zri Q))
  refine z0 (op := 0) (a := 0) (b := 0) (by rfl) (by rfl) (?_ : TZ (d + 1) 146 14 [some (.inr 0), some (.inl r4)] [.inl 0, .inr 39] Z3 (zri Q))
  obtain ⟨Z5, eZ5⟩ : ∃ zz, zz = zup Z3 39 3 0 := ⟨_, rfl⟩
  have v := v Z5 eZ5
  refine z_pf (by rfl) pf67_39 (fun h => nomatch h) ?_
  show TZ (d + 1) 146 17 [some (.inr 0), some (.inl r4)] [] (zup Z3 39 3 0) _
  rw [← eZ5]
  refine z0 (op := 3) (a := 1) (b := 0) (by rfl) (by rfl) (?_ : TZ (d + 1) 146 18 [some (.inr 0), some (.inl r4)] [.inl r4] Z5 (zri Q))
  exact z_reti (by rfl) (by rfl) v
theorem w147_0 {d : Nat} {Z : zM} {Q : Int → zM → Prop}
    (v : ∀ Z1, Z1 = zup Z 39 3 0 →
      Q (Z 39 3) Z1) :
    TZ d 147 0 [some (.inr 0), none] [] Z (zri Q) := by
  refine z0 (op := 5) (a := 0) (b := 0) (by rfl) (by rfl) (?_ : TZ d 147 1 [some (.inr 0), none] [.inr 0] Z (zri Q))
  refine z_fr (by rfl) fr57_0 (?_ : TZ d 147 4 [some (.inr 0), none] [.inr 39] Z (zri Q))
  refine z_fi (by rfl) fi67_39 (?_ : TZ d 147 7 [some (.inr 0), none] [.inl (Z 39 3)] Z (zri Q))
  refine z0 (op := 7) (a := 1) (b := 0) (by rfl) (by rfl) (?_ : TZ d 147 8 [some (.inr 0), some (.inl (Z 39 3))] [] Z (zri Q))
  refine z0 (op := 5) (a := 0) (b := 0) (by rfl) (by rfl) (?_ : TZ d 147 9 [some (.inr 0), some (.inl (Z 39 3))] [.inr 0] Z (zri Q))
  refine z_fr (by rfl) fr57_0 (?_ : TZ d 147 12 [some (.inr 0), some (.inl (Z 39 3))] [.inr 39] Z (zri Q))
  refine z0 (op := 0) (a := 0) (b := 0) (by rfl) (by rfl) (?_ : TZ d 147 13 [some (.inr 0), some (.inl (Z 39 3))] [.inl 0, .inr 39] Z (zri Q))
  obtain ⟨Z1, eZ1⟩ : ∃ zz, zz = zup Z 39 3 0 := ⟨_, rfl⟩
  have v := v Z1 eZ1
  refine z_pf (by rfl) pf67_39 (fun h => nomatch h) ?_
  show TZ d 147 16 [some (.inr 0), some (.inl (Z 39 3))] [] (zup Z 39 3 0) _
  rw [← eZ1]
  refine z0 (op := 3) (a := 1) (b := 0) (by rfl) (by rfl) (?_ : TZ d 147 17 [some (.inr 0), some (.inl (Z 39 3))] [.inl (Z 39 3)] Z1 (zri Q))
  exact z_reti (by rfl) (by rfl) v
theorem w148_0 {d : Nat} {x1 : Int} {Z : zM} {Q : Int → zM → Prop}
    (v : TI d 75 [.inl x1, .inl 1] Z (fun r2 Z1 =>
      zR (Z1 39 3) ∧
        ((Z1 39 3) ≠ 0 → TI d 72 [.inl r2, .inl 0] Z1 (fun r6 Z5 =>
            zR r6 ∧
              (r6 = 0 → TI d 60 [.inr 39] Z5 (fun r10 Z9 =>
                  zR x1 ∧
                    (x1 ≠ 0 → TI d 63 [.inr 39] Z9 (fun r14 Z13 =>
                        Q r14 Z13)) ∧
                    (¬ x1 ≠ 0 → Q r10 Z9))) ∧
              (¬ r6 = 0 → TI d 71 [.inr 0, .inl r6] Z5 (fun r16 Z15 =>
                  Q r16 Z15)))) ∧
        (¬ (Z1 39 3) ≠ 0 → TI d 72 [.inl r2, .inl (-3)] Z1 (fun r18 Z17 =>
            zR r18 ∧
              (r18 = 0 → TI d 60 [.inr 39] Z17 (fun r22 Z21 =>
                  zR x1 ∧
                    (x1 ≠ 0 → TI d 63 [.inr 39] Z21 (fun r26 Z25 =>
                        Q r26 Z25)) ∧
                    (¬ x1 ≠ 0 → Q r22 Z21))) ∧
              (¬ r18 = 0 → TI d 71 [.inr 0, .inl r18] Z17 (fun r28 Z27 =>
                  Q r28 Z27)))))) :
    TZ (d + 1) 148 0 [some (.inr 0), some (.inl x1), none, none] [] Z (zri Q) := by
  refine z0 (op := 3) (a := 1) (b := 0) (by rfl) (by rfl) (?_ : TZ (d + 1) 148 1 [some (.inr 0), some (.inl x1), none, none] [.inl x1] Z (zri Q))
  refine z0 (op := 0) (a := 0) (b := 1) (by rfl) (by rfl) (?_ : TZ (d + 1) 148 2 [some (.inr 0), some (.inl x1), none, none] [.inl 1, .inl x1] Z (zri Q))
  refine z_si (by rfl) (by rfl) (TI.mono v fun r2 Z1 v => ?_)
  show TZ (d + 1) 148 5 [some (.inr 0), some (.inl x1), none, none] [.inl r2] Z1 (zri Q)
  refine z0 (op := 5) (a := 0) (b := 0) (by rfl) (by rfl) (?_ : TZ (d + 1) 148 6 [some (.inr 0), some (.inl x1), none, none] [.inr 0, .inl r2] Z1 (zri Q))
  refine z_fr (by rfl) fr57_0 (?_ : TZ (d + 1) 148 9 [some (.inr 0), some (.inl x1), none, none] [.inr 39, .inl r2] Z1 (zri Q))
  refine z_fi (by rfl) fi67_39 (?_ : TZ (d + 1) 148 12 [some (.inr 0), some (.inl x1), none, none] [.inl (Z1 39 3), .inl r2] Z1 (zri Q))
  obtain ⟨c3, v1, v2⟩ := v
  refine z_if0 (a := 1) (t := 20) (by rfl) (by rfl) c3 (fun h4 => ?_) (fun h4 => ?_)
  · have v := v1 h4; clear v1 v2
    show TZ (d + 1) 148 20 [some (.inr 0), some (.inl x1), none, none] [.inl r2] Z1 (zri Q)
    refine z0 (op := 0) (a := 0) (b := 0) (by rfl) (by rfl) (?_ : TZ (d + 1) 148 21 [some (.inr 0), some (.inl x1), none, none] [.inl 0, .inl r2] Z1 (zri Q))
    refine z_si (by rfl) (by rfl) (TI.mono v fun r6 Z5 v => ?_)
    show TZ (d + 1) 148 24 [some (.inr 0), some (.inl x1), none, none] [.inl r6] Z5 (zri Q)
    refine z0 (op := 7) (a := 2) (b := 0) (by rfl) (by rfl) (?_ : TZ (d + 1) 148 25 [some (.inr 0), some (.inl x1), some (.inl r6), none] [] Z5 (zri Q))
    refine z0 (op := 3) (a := 2) (b := 0) (by rfl) (by rfl) (?_ : TZ (d + 1) 148 26 [some (.inr 0), some (.inl x1), some (.inl r6), none] [.inl r6] Z5 (zri Q))
    obtain ⟨c7, v1, v2⟩ := v
    refine z_if0 (a := 0) (t := 35) (by rfl) (by rfl) c7 (fun h8 => ?_) (fun h8 => ?_)
    · have v := v1 h8; clear v1 v2
      show TZ (d + 1) 148 35 [some (.inr 0), some (.inl x1), some (.inl r6), none] [] Z5 (zri Q)
      refine z0 (op := 5) (a := 0) (b := 0) (by rfl) (by rfl) (?_ : TZ (d + 1) 148 36 [some (.inr 0), some (.inl x1), some (.inl r6), none] [.inr 0] Z5 (zri Q))
      refine z_fr (by rfl) fr57_0 (?_ : TZ (d + 1) 148 39 [some (.inr 0), some (.inl x1), some (.inl r6), none] [.inr 39] Z5 (zri Q))
      refine z_vi (by rfl) (by rfl) cl_39 (TI.mono v fun r10 Z9 v => ?_)
      show TZ (d + 1) 148 42 [some (.inr 0), some (.inl x1), some (.inl r6), none] [.inl r10] Z9 (zri Q)
      refine z0 (op := 7) (a := 3) (b := 0) (by rfl) (by rfl) (?_ : TZ (d + 1) 148 43 [some (.inr 0), some (.inl x1), some (.inl r6), some (.inl r10)] [] Z9 (zri Q))
      refine z0 (op := 3) (a := 1) (b := 0) (by rfl) (by rfl) (?_ : TZ (d + 1) 148 44 [some (.inr 0), some (.inl x1), some (.inl r6), some (.inl r10)] [.inl x1] Z9 (zri Q))
      obtain ⟨c11, v1, v2⟩ := v
      refine z_if0 (a := 1) (t := 51) (by rfl) (by rfl) c11 (fun h12 => ?_) (fun h12 => ?_)
      · have v := v1 h12; clear v1 v2
        show TZ (d + 1) 148 51 [some (.inr 0), some (.inl x1), some (.inl r6), some (.inl r10)] [] Z9 (zri Q)
        refine z0 (op := 5) (a := 0) (b := 0) (by rfl) (by rfl) (?_ : TZ (d + 1) 148 52 [some (.inr 0), some (.inl x1), some (.inl r6), some (.inl r10)] [.inr 0] Z9 (zri Q))
        refine z_fr (by rfl) fr57_0 (?_ : TZ (d + 1) 148 55 [some (.inr 0), some (.inl x1), some (.inl r6), some (.inl r10)] [.inr 39] Z9 (zri Q))
        refine z_vi (by rfl) (by rfl) cl_39 (TI.mono v fun r14 Z13 v => ?_)
        show TZ (d + 1) 148 58 [some (.inr 0), some (.inl x1), some (.inl r6), some (.inl r10)] [.inl r14] Z13 (zri Q)
        exact z_reti (by rfl) (by rfl) v
      · have v := v2 h12; clear v1 v2
        show TZ (d + 1) 148 47 [some (.inr 0), some (.inl x1), some (.inl r6), some (.inl r10)] [] Z9 (zri Q)
        refine z0 (op := 3) (a := 3) (b := 0) (by rfl) (by rfl) (?_ : TZ (d + 1) 148 48 [some (.inr 0), some (.inl x1), some (.inl r6), some (.inl r10)] [.inl r10] Z9 (zri Q))
        refine z_goto (t := 58) (by rfl) (by rfl) (?_ : TZ (d + 1) 148 58 [some (.inr 0), some (.inl x1), some (.inl r6), some (.inl r10)] [.inl r10] Z9 (zri Q))
        exact z_reti (by rfl) (by rfl) v
    · have v := v2 h8; clear v1 v2
      show TZ (d + 1) 148 29 [some (.inr 0), some (.inl x1), some (.inl r6), none] [] Z5 (zri Q)
      refine z0 (op := 5) (a := 0) (b := 0) (by rfl) (by rfl) (?_ : TZ (d + 1) 148 30 [some (.inr 0), some (.inl x1), some (.inl r6), none] [.inr 0] Z5 (zri Q))
      refine z0 (op := 3) (a := 2) (b := 0) (by rfl) (by rfl) (?_ : TZ (d + 1) 148 31 [some (.inr 0), some (.inl x1), some (.inl r6), none] [.inl r6, .inr 0] Z5 (zri Q))
      refine z_vi (by rfl) (by rfl) cl_0 (TI.mono v fun r16 Z15 v => ?_)
      show TZ (d + 1) 148 34 [some (.inr 0), some (.inl x1), some (.inl r6), none] [.inl r16] Z15 (zri Q)
      exact z_reti (by rfl) (by rfl) v
  · have v := v2 h4; clear v1 v2
    show TZ (d + 1) 148 15 [some (.inr 0), some (.inl x1), none, none] [.inl r2] Z1 (zri Q)
    refine z0 (op := 1) (a := 0) (b := (-3)) (by rfl) (by rfl) (?_ : TZ (d + 1) 148 17 [some (.inr 0), some (.inl x1), none, none] [.inl (-3), .inl r2] Z1 (zri Q))
    refine z_goto (t := 21) (by rfl) (by rfl) (?_ : TZ (d + 1) 148 21 [some (.inr 0), some (.inl x1), none, none] [.inl (-3), .inl r2] Z1 (zri Q))
    refine z_si (by rfl) (by rfl) (TI.mono v fun r18 Z17 v => ?_)
    show TZ (d + 1) 148 24 [some (.inr 0), some (.inl x1), none, none] [.inl r18] Z17 (zri Q)
    refine z0 (op := 7) (a := 2) (b := 0) (by rfl) (by rfl) (?_ : TZ (d + 1) 148 25 [some (.inr 0), some (.inl x1), some (.inl r18), none] [] Z17 (zri Q))
    refine z0 (op := 3) (a := 2) (b := 0) (by rfl) (by rfl) (?_ : TZ (d + 1) 148 26 [some (.inr 0), some (.inl x1), some (.inl r18), none] [.inl r18] Z17 (zri Q))
    obtain ⟨c19, v1, v2⟩ := v
    refine z_if0 (a := 0) (t := 35) (by rfl) (by rfl) c19 (fun h20 => ?_) (fun h20 => ?_)
    · have v := v1 h20; clear v1 v2
      show TZ (d + 1) 148 35 [some (.inr 0), some (.inl x1), some (.inl r18), none] [] Z17 (zri Q)
      refine z0 (op := 5) (a := 0) (b := 0) (by rfl) (by rfl) (?_ : TZ (d + 1) 148 36 [some (.inr 0), some (.inl x1), some (.inl r18), none] [.inr 0] Z17 (zri Q))
      refine z_fr (by rfl) fr57_0 (?_ : TZ (d + 1) 148 39 [some (.inr 0), some (.inl x1), some (.inl r18), none] [.inr 39] Z17 (zri Q))
      refine z_vi (by rfl) (by rfl) cl_39 (TI.mono v fun r22 Z21 v => ?_)
      show TZ (d + 1) 148 42 [some (.inr 0), some (.inl x1), some (.inl r18), none] [.inl r22] Z21 (zri Q)
      refine z0 (op := 7) (a := 3) (b := 0) (by rfl) (by rfl) (?_ : TZ (d + 1) 148 43 [some (.inr 0), some (.inl x1), some (.inl r18), some (.inl r22)] [] Z21 (zri Q))
      refine z0 (op := 3) (a := 1) (b := 0) (by rfl) (by rfl) (?_ : TZ (d + 1) 148 44 [some (.inr 0), some (.inl x1), some (.inl r18), some (.inl r22)] [.inl x1] Z21 (zri Q))
      obtain ⟨c23, v1, v2⟩ := v
      refine z_if0 (a := 1) (t := 51) (by rfl) (by rfl) c23 (fun h24 => ?_) (fun h24 => ?_)
      · have v := v1 h24; clear v1 v2
        show TZ (d + 1) 148 51 [some (.inr 0), some (.inl x1), some (.inl r18), some (.inl r22)] [] Z21 (zri Q)
        refine z0 (op := 5) (a := 0) (b := 0) (by rfl) (by rfl) (?_ : TZ (d + 1) 148 52 [some (.inr 0), some (.inl x1), some (.inl r18), some (.inl r22)] [.inr 0] Z21 (zri Q))
        refine z_fr (by rfl) fr57_0 (?_ : TZ (d + 1) 148 55 [some (.inr 0), some (.inl x1), some (.inl r18), some (.inl r22)] [.inr 39] Z21 (zri Q))
        refine z_vi (by rfl) (by rfl) cl_39 (TI.mono v fun r26 Z25 v => ?_)
        show TZ (d + 1) 148 58 [some (.inr 0), some (.inl x1), some (.inl r18), some (.inl r22)] [.inl r26] Z25 (zri Q)
        exact z_reti (by rfl) (by rfl) v
      · have v := v2 h24; clear v1 v2
        show TZ (d + 1) 148 47 [some (.inr 0), some (.inl x1), some (.inl r18), some (.inl r22)] [] Z21 (zri Q)
        refine z0 (op := 3) (a := 3) (b := 0) (by rfl) (by rfl) (?_ : TZ (d + 1) 148 48 [some (.inr 0), some (.inl x1), some (.inl r18), some (.inl r22)] [.inl r22] Z21 (zri Q))
        refine z_goto (t := 58) (by rfl) (by rfl) (?_ : TZ (d + 1) 148 58 [some (.inr 0), some (.inl x1), some (.inl r18), some (.inl r22)] [.inl r22] Z21 (zri Q))
        exact z_reti (by rfl) (by rfl) v
    · have v := v2 h20; clear v1 v2
      show TZ (d + 1) 148 29 [some (.inr 0), some (.inl x1), some (.inl r18), none] [] Z17 (zri Q)
      refine z0 (op := 5) (a := 0) (b := 0) (by rfl) (by rfl) (?_ : TZ (d + 1) 148 30 [some (.inr 0), some (.inl x1), some (.inl r18), none] [.inr 0] Z17 (zri Q))
      refine z0 (op := 3) (a := 2) (b := 0) (by rfl) (by rfl) (?_ : TZ (d + 1) 148 31 [some (.inr 0), some (.inl x1), some (.inl r18), none] [.inl r18, .inr 0] Z17 (zri Q))
      refine z_vi (by rfl) (by rfl) cl_0 (TI.mono v fun r28 Z27 v => ?_)
      show TZ (d + 1) 148 34 [some (.inr 0), some (.inl x1), some (.inl r18), none] [.inl r28] Z27 (zri Q)
      exact z_reti (by rfl) (by rfl) v
theorem w151_0 {d : Nat} {x1 : Int} {Z : zM} {Q : Int → zM → Prop}
    (v : zR x1 ∧
      (x1 ≤ 10 → (zR x1 ∧
          (x1 = 0 → Q (Z 1 5) Z) ∧
          (x1 = 1 → Q (Z 1 6) Z) ∧
          (x1 = 2 → Q (Z 1 7) Z) ∧
          (x1 = 3 → TI d 22 [.inr 1] Z (fun r5 Z4 =>
              Q r5 Z4)) ∧
          (x1 = 4 → TI d 23 [.inr 1] Z (fun r7 Z6 =>
              Q r7 Z6)) ∧
          (x1 = 5 → Q (Z 37 1) Z) ∧
          (x1 = 6 → Q (Z 39 3) Z) ∧
          (x1 = 7 → Q (Z 26 3) Z) ∧
          ((x1 ≠ 0 ∧ x1 ≠ 1 ∧ x1 ≠ 2 ∧ x1 ≠ 3 ∧ x1 ≠ 4 ∧ x1 ≠ 5 ∧ x1 ≠ 6 ∧ x1 ≠ 7) → Q (-9) Z))) ∧
      (¬ x1 ≤ 10 → (zR x1 ∧
          (16 < x1 → (zR x1 ∧
              (x1 = 0 → Q (Z 1 5) Z) ∧
              (x1 = 1 → Q (Z 1 6) Z) ∧
              (x1 = 2 → Q (Z 1 7) Z) ∧
              (x1 = 3 → TI d 22 [.inr 1] Z (fun r12 Z11 =>
                  Q r12 Z11)) ∧
              (x1 = 4 → TI d 23 [.inr 1] Z (fun r14 Z13 =>
                  Q r14 Z13)) ∧
              (x1 = 5 → Q (Z 37 1) Z) ∧
              (x1 = 6 → Q (Z 39 3) Z) ∧
              (x1 = 7 → Q (Z 26 3) Z) ∧
              ((x1 ≠ 0 ∧ x1 ≠ 1 ∧ x1 ≠ 2 ∧ x1 ≠ 3 ∧ x1 ≠ 4 ∧ x1 ≠ 5 ∧ x1 ≠ 6 ∧ x1 ≠ 7) → Q (-9) Z))) ∧
          (¬ 16 < x1 → ((0 ≤ (x1 - 10) ∧ (x1 - 10) < 7) ∧ Q (Z 43 (x1 - 10)) Z))))) :
    TZ (d + 1) 151 0 [some (.inr 0), some (.inl x1)] [] Z (zri Q) := by
  refine z0 (op := 3) (a := 1) (b := 0) (by rfl) (by rfl) (?_ : TZ (d + 1) 151 1 [some (.inr 0), some (.inl x1)] [.inl x1] Z (zri Q))
  refine z0 (op := 1) (a := 0) (b := 10) (by rfl) (by rfl) (?_ : TZ (d + 1) 151 3 [some (.inr 0), some (.inl x1)] [.inl 10, .inl x1] Z (zri Q))
  obtain ⟨c1, v1, v2⟩ := v
  refine z_if2 (a := 5) (t := 22) (by rfl) (by rfl) c1 (by decide) (fun h2 => ?_) (fun h2 => ?_)
  · have v := v1 h2; clear v1 v2
    show TZ (d + 1) 151 22 [some (.inr 0), some (.inl x1)] [] Z (zri Q)
    refine z0 (op := 3) (a := 1) (b := 0) (by rfl) (by rfl) (?_ : TZ (d + 1) 151 23 [some (.inr 0), some (.inl x1)] [.inl x1] Z (zri Q))
    obtain ⟨c3, v⟩ := v
    obtain ⟨w0, w1, w2, w3, w4, w5, w6, w7, w8⟩ := v
    have hd : x1 ≠ 0 ∧ x1 ≠ 1 ∧ x1 ≠ 2 ∧ x1 ≠ 3 ∧ x1 ≠ 4 ∧ x1 ≠ 5 ∧ x1 ≠ 6 ∧ x1 ≠ 7 → TZ (d + 1) 151 132 [some (.inr 0), some (.inl x1)] [] Z (zri Q) := fun hh => by
      have v := w8 hh; clear w0 w1 w2 w3 w4 w5 w6 w7 w8
      refine z0 (op := 1) (a := 0) (b := (-9)) (by rfl) (by rfl) (?_ : TZ (d + 1) 151 134 [some (.inr 0), some (.inl x1)] [.inl (-9)] Z (zri Q))
      exact z_reti (by rfl) (by rfl) v
    have hc0 : x1 = 0 → TZ (d + 1) 151 68 [some (.inr 0), some (.inl x1)] [] Z (zri Q) := fun hh => by
      have v := w0 hh; clear w0 w1 w2 w3 w4 w5 w6 w7 w8 hd
      refine z0 (op := 5) (a := 0) (b := 0) (by rfl) (by rfl) (?_ : TZ (d + 1) 151 69 [some (.inr 0), some (.inl x1)] [.inr 0] Z (zri Q))
      refine z_fr (by rfl) fr50_0 (?_ : TZ (d + 1) 151 72 [some (.inr 0), some (.inl x1)] [.inr 1] Z (zri Q))
      refine z_fi (by rfl) fi70_1 (?_ : TZ (d + 1) 151 75 [some (.inr 0), some (.inl x1)] [.inl (Z 1 5)] Z (zri Q))
      exact z_reti (by rfl) (by rfl) v
    have hc1 : x1 = 1 → TZ (d + 1) 151 76 [some (.inr 0), some (.inl x1)] [] Z (zri Q) := fun hh => by
      have v := w1 hh; clear w0 w1 w2 w3 w4 w5 w6 w7 w8 hd hc0
      refine z0 (op := 5) (a := 0) (b := 0) (by rfl) (by rfl) (?_ : TZ (d + 1) 151 77 [some (.inr 0), some (.inl x1)] [.inr 0] Z (zri Q))
      refine z_fr (by rfl) fr50_0 (?_ : TZ (d + 1) 151 80 [some (.inr 0), some (.inl x1)] [.inr 1] Z (zri Q))
      refine z_fi (by rfl) fi69_1 (?_ : TZ (d + 1) 151 83 [some (.inr 0), some (.inl x1)] [.inl (Z 1 6)] Z (zri Q))
      exact z_reti (by rfl) (by rfl) v
    have hc2 : x1 = 2 → TZ (d + 1) 151 84 [some (.inr 0), some (.inl x1)] [] Z (zri Q) := fun hh => by
      have v := w2 hh; clear w0 w1 w2 w3 w4 w5 w6 w7 w8 hd hc0 hc1
      refine z0 (op := 5) (a := 0) (b := 0) (by rfl) (by rfl) (?_ : TZ (d + 1) 151 85 [some (.inr 0), some (.inl x1)] [.inr 0] Z (zri Q))
      refine z_fr (by rfl) fr50_0 (?_ : TZ (d + 1) 151 88 [some (.inr 0), some (.inl x1)] [.inr 1] Z (zri Q))
      refine z_fi (by rfl) fi72_1 (?_ : TZ (d + 1) 151 91 [some (.inr 0), some (.inl x1)] [.inl (Z 1 7)] Z (zri Q))
      exact z_reti (by rfl) (by rfl) v
    have hc3 : x1 = 3 → TZ (d + 1) 151 92 [some (.inr 0), some (.inl x1)] [] Z (zri Q) := fun hh => by
      have v := w3 hh; clear w0 w1 w2 w3 w4 w5 w6 w7 w8 hd hc0 hc1 hc2
      refine z0 (op := 5) (a := 0) (b := 0) (by rfl) (by rfl) (?_ : TZ (d + 1) 151 93 [some (.inr 0), some (.inl x1)] [.inr 0] Z (zri Q))
      refine z_fr (by rfl) fr50_0 (?_ : TZ (d + 1) 151 96 [some (.inr 0), some (.inl x1)] [.inr 1] Z (zri Q))
      refine z_vi (by rfl) (by rfl) cl_1 (TI.mono v fun r5 Z4 v => ?_)
      show TZ (d + 1) 151 99 [some (.inr 0), some (.inl x1)] [.inl r5] Z4 (zri Q)
      exact z_reti (by rfl) (by rfl) v
    have hc4 : x1 = 4 → TZ (d + 1) 151 100 [some (.inr 0), some (.inl x1)] [] Z (zri Q) := fun hh => by
      have v := w4 hh; clear w0 w1 w2 w3 w4 w5 w6 w7 w8 hd hc0 hc1 hc2 hc3
      refine z0 (op := 5) (a := 0) (b := 0) (by rfl) (by rfl) (?_ : TZ (d + 1) 151 101 [some (.inr 0), some (.inl x1)] [.inr 0] Z (zri Q))
      refine z_fr (by rfl) fr50_0 (?_ : TZ (d + 1) 151 104 [some (.inr 0), some (.inl x1)] [.inr 1] Z (zri Q))
      refine z_vi (by rfl) (by rfl) cl_1 (TI.mono v fun r7 Z6 v => ?_)
      show TZ (d + 1) 151 107 [some (.inr 0), some (.inl x1)] [.inl r7] Z6 (zri Q)
      exact z_reti (by rfl) (by rfl) v
    have hc5 : x1 = 5 → TZ (d + 1) 151 108 [some (.inr 0), some (.inl x1)] [] Z (zri Q) := fun hh => by
      have v := w5 hh; clear w0 w1 w2 w3 w4 w5 w6 w7 w8 hd hc0 hc1 hc2 hc3 hc4
      refine z0 (op := 5) (a := 0) (b := 0) (by rfl) (by rfl) (?_ : TZ (d + 1) 151 109 [some (.inr 0), some (.inl x1)] [.inr 0] Z (zri Q))
      refine z_fr (by rfl) fr56_0 (?_ : TZ (d + 1) 151 112 [some (.inr 0), some (.inl x1)] [.inr 37] Z (zri Q))
      refine z_fi (by rfl) fi68_37 (?_ : TZ (d + 1) 151 115 [some (.inr 0), some (.inl x1)] [.inl (Z 37 1)] Z (zri Q))
      exact z_reti (by rfl) (by rfl) v
    have hc6 : x1 = 6 → TZ (d + 1) 151 116 [some (.inr 0), some (.inl x1)] [] Z (zri Q) := fun hh => by
      have v := w6 hh; clear w0 w1 w2 w3 w4 w5 w6 w7 w8 hd hc0 hc1 hc2 hc3 hc4 hc5
      refine z0 (op := 5) (a := 0) (b := 0) (by rfl) (by rfl) (?_ : TZ (d + 1) 151 117 [some (.inr 0), some (.inl x1)] [.inr 0] Z (zri Q))
      refine z_fr (by rfl) fr57_0 (?_ : TZ (d + 1) 151 120 [some (.inr 0), some (.inl x1)] [.inr 39] Z (zri Q))
      refine z_fi (by rfl) fi67_39 (?_ : TZ (d + 1) 151 123 [some (.inr 0), some (.inl x1)] [.inl (Z 39 3)] Z (zri Q))
      exact z_reti (by rfl) (by rfl) v
    have hc7 : x1 = 7 → TZ (d + 1) 151 124 [some (.inr 0), some (.inl x1)] [] Z (zri Q) := fun hh => by
      have v := w7 hh; clear w0 w1 w2 w3 w4 w5 w6 w7 w8 hd hc0 hc1 hc2 hc3 hc4 hc5 hc6
      refine z0 (op := 5) (a := 0) (b := 0) (by rfl) (by rfl) (?_ : TZ (d + 1) 151 125 [some (.inr 0), some (.inl x1)] [.inr 0] Z (zri Q))
      refine z_fr (by rfl) fr55_0 (?_ : TZ (d + 1) 151 128 [some (.inr 0), some (.inl x1)] [.inr 26] Z (zri Q))
      refine z_fi (by rfl) fi77_26 (?_ : TZ (d + 1) 151 131 [some (.inr 0), some (.inl x1)] [.inl (Z 26 3)] Z (zri Q))
      exact z_reti (by rfl) (by rfl) v
    refine z_tsw (t := 132) (by rfl) (by rfl) (by decide) (by rfl) c3 (fun n o hn hx => ?_) (fun hx => hd (by omega))
    match n, hn with
    | 0, hn => have e := Option.some.inj hn; subst e; exact ⟨68, by rfl, hc0 (by omega)⟩
    | 1, hn => have e := Option.some.inj hn; subst e; exact ⟨76, by rfl, hc1 (by omega)⟩
    | 2, hn => have e := Option.some.inj hn; subst e; exact ⟨84, by rfl, hc2 (by omega)⟩
    | 3, hn => have e := Option.some.inj hn; subst e; exact ⟨92, by rfl, hc3 (by omega)⟩
    | 4, hn => have e := Option.some.inj hn; subst e; exact ⟨100, by rfl, hc4 (by omega)⟩
    | 5, hn => have e := Option.some.inj hn; subst e; exact ⟨108, by rfl, hc5 (by omega)⟩
    | 6, hn => have e := Option.some.inj hn; subst e; exact ⟨116, by rfl, hc6 (by omega)⟩
    | 7, hn => have e := Option.some.inj hn; subst e; exact ⟨124, by rfl, hc7 (by omega)⟩
    | n + 8, hn => exact absurd hn (by simp)
  · have v := v2 h2; clear v1 v2
    show TZ (d + 1) 151 6 [some (.inr 0), some (.inl x1)] [] Z (zri Q)
    refine z0 (op := 3) (a := 1) (b := 0) (by rfl) (by rfl) (?_ : TZ (d + 1) 151 7 [some (.inr 0), some (.inl x1)] [.inl x1] Z (zri Q))
    refine z0 (op := 1) (a := 0) (b := 16) (by rfl) (by rfl) (?_ : TZ (d + 1) 151 9 [some (.inr 0), some (.inl x1)] [.inl 16, .inl x1] Z (zri Q))
    obtain ⟨c8, v1, v2⟩ := v
    refine z_if2 (a := 4) (t := 22) (by rfl) (by rfl) c8 (by decide) (fun h9 => ?_) (fun h9 => ?_)
    · have v := v1 h9; clear v1 v2
      show TZ (d + 1) 151 22 [some (.inr 0), some (.inl x1)] [] Z (zri Q)
      refine z0 (op := 3) (a := 1) (b := 0) (by rfl) (by rfl) (?_ : TZ (d + 1) 151 23 [some (.inr 0), some (.inl x1)] [.inl x1] Z (zri Q))
      obtain ⟨c10, v⟩ := v
      obtain ⟨w0, w1, w2, w3, w4, w5, w6, w7, w8⟩ := v
      have hd : x1 ≠ 0 ∧ x1 ≠ 1 ∧ x1 ≠ 2 ∧ x1 ≠ 3 ∧ x1 ≠ 4 ∧ x1 ≠ 5 ∧ x1 ≠ 6 ∧ x1 ≠ 7 → TZ (d + 1) 151 132 [some (.inr 0), some (.inl x1)] [] Z (zri Q) := fun hh => by
        have v := w8 hh; clear w0 w1 w2 w3 w4 w5 w6 w7 w8
        refine z0 (op := 1) (a := 0) (b := (-9)) (by rfl) (by rfl) (?_ : TZ (d + 1) 151 134 [some (.inr 0), some (.inl x1)] [.inl (-9)] Z (zri Q))
        exact z_reti (by rfl) (by rfl) v
      have hc0 : x1 = 0 → TZ (d + 1) 151 68 [some (.inr 0), some (.inl x1)] [] Z (zri Q) := fun hh => by
        have v := w0 hh; clear w0 w1 w2 w3 w4 w5 w6 w7 w8 hd
        refine z0 (op := 5) (a := 0) (b := 0) (by rfl) (by rfl) (?_ : TZ (d + 1) 151 69 [some (.inr 0), some (.inl x1)] [.inr 0] Z (zri Q))
        refine z_fr (by rfl) fr50_0 (?_ : TZ (d + 1) 151 72 [some (.inr 0), some (.inl x1)] [.inr 1] Z (zri Q))
        refine z_fi (by rfl) fi70_1 (?_ : TZ (d + 1) 151 75 [some (.inr 0), some (.inl x1)] [.inl (Z 1 5)] Z (zri Q))
        exact z_reti (by rfl) (by rfl) v
      have hc1 : x1 = 1 → TZ (d + 1) 151 76 [some (.inr 0), some (.inl x1)] [] Z (zri Q) := fun hh => by
        have v := w1 hh; clear w0 w1 w2 w3 w4 w5 w6 w7 w8 hd hc0
        refine z0 (op := 5) (a := 0) (b := 0) (by rfl) (by rfl) (?_ : TZ (d + 1) 151 77 [some (.inr 0), some (.inl x1)] [.inr 0] Z (zri Q))
        refine z_fr (by rfl) fr50_0 (?_ : TZ (d + 1) 151 80 [some (.inr 0), some (.inl x1)] [.inr 1] Z (zri Q))
        refine z_fi (by rfl) fi69_1 (?_ : TZ (d + 1) 151 83 [some (.inr 0), some (.inl x1)] [.inl (Z 1 6)] Z (zri Q))
        exact z_reti (by rfl) (by rfl) v
      have hc2 : x1 = 2 → TZ (d + 1) 151 84 [some (.inr 0), some (.inl x1)] [] Z (zri Q) := fun hh => by
        have v := w2 hh; clear w0 w1 w2 w3 w4 w5 w6 w7 w8 hd hc0 hc1
        refine z0 (op := 5) (a := 0) (b := 0) (by rfl) (by rfl) (?_ : TZ (d + 1) 151 85 [some (.inr 0), some (.inl x1)] [.inr 0] Z (zri Q))
        refine z_fr (by rfl) fr50_0 (?_ : TZ (d + 1) 151 88 [some (.inr 0), some (.inl x1)] [.inr 1] Z (zri Q))
        refine z_fi (by rfl) fi72_1 (?_ : TZ (d + 1) 151 91 [some (.inr 0), some (.inl x1)] [.inl (Z 1 7)] Z (zri Q))
        exact z_reti (by rfl) (by rfl) v
      have hc3 : x1 = 3 → TZ (d + 1) 151 92 [some (.inr 0), some (.inl x1)] [] Z (zri Q) := fun hh => by
        have v := w3 hh; clear w0 w1 w2 w3 w4 w5 w6 w7 w8 hd hc0 hc1 hc2
        refine z0 (op := 5) (a := 0) (b := 0) (by rfl) (by rfl) (?_ : TZ (d + 1) 151 93 [some (.inr 0), some (.inl x1)] [.inr 0] Z (zri Q))
        refine z_fr (by rfl) fr50_0 (?_ : TZ (d + 1) 151 96 [some (.inr 0), some (.inl x1)] [.inr 1] Z (zri Q))
        refine z_vi (by rfl) (by rfl) cl_1 (TI.mono v fun r12 Z11 v => ?_)
        show TZ (d + 1) 151 99 [some (.inr 0), some (.inl x1)] [.inl r12] Z11 (zri Q)
        exact z_reti (by rfl) (by rfl) v
      have hc4 : x1 = 4 → TZ (d + 1) 151 100 [some (.inr 0), some (.inl x1)] [] Z (zri Q) := fun hh => by
        have v := w4 hh; clear w0 w1 w2 w3 w4 w5 w6 w7 w8 hd hc0 hc1 hc2 hc3
        refine z0 (op := 5) (a := 0) (b := 0) (by rfl) (by rfl) (?_ : TZ (d + 1) 151 101 [some (.inr 0), some (.inl x1)] [.inr 0] Z (zri Q))
        refine z_fr (by rfl) fr50_0 (?_ : TZ (d + 1) 151 104 [some (.inr 0), some (.inl x1)] [.inr 1] Z (zri Q))
        refine z_vi (by rfl) (by rfl) cl_1 (TI.mono v fun r14 Z13 v => ?_)
        show TZ (d + 1) 151 107 [some (.inr 0), some (.inl x1)] [.inl r14] Z13 (zri Q)
        exact z_reti (by rfl) (by rfl) v
      have hc5 : x1 = 5 → TZ (d + 1) 151 108 [some (.inr 0), some (.inl x1)] [] Z (zri Q) := fun hh => by
        have v := w5 hh; clear w0 w1 w2 w3 w4 w5 w6 w7 w8 hd hc0 hc1 hc2 hc3 hc4
        refine z0 (op := 5) (a := 0) (b := 0) (by rfl) (by rfl) (?_ : TZ (d + 1) 151 109 [some (.inr 0), some (.inl x1)] [.inr 0] Z (zri Q))
        refine z_fr (by rfl) fr56_0 (?_ : TZ (d + 1) 151 112 [some (.inr 0), some (.inl x1)] [.inr 37] Z (zri Q))
        refine z_fi (by rfl) fi68_37 (?_ : TZ (d + 1) 151 115 [some (.inr 0), some (.inl x1)] [.inl (Z 37 1)] Z (zri Q))
        exact z_reti (by rfl) (by rfl) v
      have hc6 : x1 = 6 → TZ (d + 1) 151 116 [some (.inr 0), some (.inl x1)] [] Z (zri Q) := fun hh => by
        have v := w6 hh; clear w0 w1 w2 w3 w4 w5 w6 w7 w8 hd hc0 hc1 hc2 hc3 hc4 hc5
        refine z0 (op := 5) (a := 0) (b := 0) (by rfl) (by rfl) (?_ : TZ (d + 1) 151 117 [some (.inr 0), some (.inl x1)] [.inr 0] Z (zri Q))
        refine z_fr (by rfl) fr57_0 (?_ : TZ (d + 1) 151 120 [some (.inr 0), some (.inl x1)] [.inr 39] Z (zri Q))
        refine z_fi (by rfl) fi67_39 (?_ : TZ (d + 1) 151 123 [some (.inr 0), some (.inl x1)] [.inl (Z 39 3)] Z (zri Q))
        exact z_reti (by rfl) (by rfl) v
      have hc7 : x1 = 7 → TZ (d + 1) 151 124 [some (.inr 0), some (.inl x1)] [] Z (zri Q) := fun hh => by
        have v := w7 hh; clear w0 w1 w2 w3 w4 w5 w6 w7 w8 hd hc0 hc1 hc2 hc3 hc4 hc5 hc6
        refine z0 (op := 5) (a := 0) (b := 0) (by rfl) (by rfl) (?_ : TZ (d + 1) 151 125 [some (.inr 0), some (.inl x1)] [.inr 0] Z (zri Q))
        refine z_fr (by rfl) fr55_0 (?_ : TZ (d + 1) 151 128 [some (.inr 0), some (.inl x1)] [.inr 26] Z (zri Q))
        refine z_fi (by rfl) fi77_26 (?_ : TZ (d + 1) 151 131 [some (.inr 0), some (.inl x1)] [.inl (Z 26 3)] Z (zri Q))
        exact z_reti (by rfl) (by rfl) v
      refine z_tsw (t := 132) (by rfl) (by rfl) (by decide) (by rfl) c10 (fun n o hn hx => ?_) (fun hx => hd (by omega))
      match n, hn with
      | 0, hn => have e := Option.some.inj hn; subst e; exact ⟨68, by rfl, hc0 (by omega)⟩
      | 1, hn => have e := Option.some.inj hn; subst e; exact ⟨76, by rfl, hc1 (by omega)⟩
      | 2, hn => have e := Option.some.inj hn; subst e; exact ⟨84, by rfl, hc2 (by omega)⟩
      | 3, hn => have e := Option.some.inj hn; subst e; exact ⟨92, by rfl, hc3 (by omega)⟩
      | 4, hn => have e := Option.some.inj hn; subst e; exact ⟨100, by rfl, hc4 (by omega)⟩
      | 5, hn => have e := Option.some.inj hn; subst e; exact ⟨108, by rfl, hc5 (by omega)⟩
      | 6, hn => have e := Option.some.inj hn; subst e; exact ⟨116, by rfl, hc6 (by omega)⟩
      | 7, hn => have e := Option.some.inj hn; subst e; exact ⟨124, by rfl, hc7 (by omega)⟩
      | n + 8, hn => exact absurd hn (by simp)
    · have v := v2 h9; clear v1 v2
      show TZ (d + 1) 151 12 [some (.inr 0), some (.inl x1)] [] Z (zri Q)
      refine z0 (op := 5) (a := 0) (b := 0) (by rfl) (by rfl) (?_ : TZ (d + 1) 151 13 [some (.inr 0), some (.inl x1)] [.inr 0] Z (zri Q))
      refine z_fr (by rfl) fr58_0 (?_ : TZ (d + 1) 151 16 [some (.inr 0), some (.inl x1)] [.inr 43] Z (zri Q))
      refine z0 (op := 3) (a := 1) (b := 0) (by rfl) (by rfl) (?_ : TZ (d + 1) 151 17 [some (.inr 0), some (.inl x1)] [.inl x1, .inr 43] Z (zri Q))
      refine z0 (op := 1) (a := 0) (b := 10) (by rfl) (by rfl) (?_ : TZ (d + 1) 151 19 [some (.inr 0), some (.inl x1)] [.inl 10, .inl x1, .inr 43] Z (zri Q))
      refine z0 (op := 12) (a := 1) (b := 0) (by rfl) (by rfl) (?_ : TZ (d + 1) 151 20 [some (.inr 0), some (.inl x1)] [.inl (x1 - 10), .inr 43] Z (zri Q))
      obtain ⟨c15, v⟩ := v
      refine z_al (by rfl) ln_43 c15 (?_ : TZ (d + 1) 151 21 [some (.inr 0), some (.inl x1)] [.inl (Z 43 (x1 - 10))] Z (zri Q))
      exact z_reti (by rfl) (by rfl) v
theorem w1_0_44 {d : Nat} {x1 : Int} {Z : zM} {Q : zM → Prop}
    (v : TZ d 1 5 [some (.inr 44), some (.inl x1), some (.inl 0), some (.inl 12)] [] Z (zrv Q)) :
    TZ d 1 0 [some (.inr 44), some (.inl x1), none, none] [] Z (zrv Q) := by
  refine z0 (op := 0) (a := 0) (b := 0) (by rfl) (by rfl) (?_ : TZ d 1 1 [some (.inr 44), some (.inl x1), none, none] [.inl 0] Z (zrv Q))
  refine z0 (op := 7) (a := 2) (b := 0) (by rfl) (by rfl) (?_ : TZ d 1 2 [some (.inr 44), some (.inl x1), some (.inl 0), none] [] Z (zrv Q))
  refine z0 (op := 5) (a := 0) (b := 0) (by rfl) (by rfl) (?_ : TZ d 1 3 [some (.inr 44), some (.inl x1), some (.inl 0), none] [.inr 44] Z (zrv Q))
  refine z_len (by rfl) le_44 (?_ : TZ d 1 4 [some (.inr 44), some (.inl x1), some (.inl 0), none] [.inl 12] Z (zrv Q))
  refine z0 (op := 7) (a := 3) (b := 0) (by rfl) (by rfl) (?_ : TZ d 1 5 [some (.inr 44), some (.inl x1), some (.inl 0), some (.inl 12)] [] Z (zrv Q))
  exact v
theorem w1_5_44 {d : Nat} {x1 x2 x3 : Int} {Z : zM} {Q : zM → Prop}
    (v : zR x2 ∧
      zR x3 ∧
      (x3 ≤ x2 → Q Z) ∧
      (¬ x3 ≤ x2 → ((0 ≤ x2 ∧ x2 < 12) ∧
          ∀ Z5, Z5 = zup Z 44 x2 x1 →
          TZ d 1 5 [some (.inr 44), some (.inl x1), some (.inl (x2 + 1)), some (.inl x3)] [] Z5 (zrv Q)))) :
    TZ d 1 5 [some (.inr 44), some (.inl x1), some (.inl x2), some (.inl x3)] [] Z (zrv Q) := by
  refine z0 (op := 3) (a := 2) (b := 0) (by rfl) (by rfl) (?_ : TZ d 1 6 [some (.inr 44), some (.inl x1), some (.inl x2), some (.inl x3)] [.inl x2] Z (zrv Q))
  refine z0 (op := 3) (a := 3) (b := 0) (by rfl) (by rfl) (?_ : TZ d 1 7 [some (.inr 44), some (.inl x1), some (.inl x2), some (.inl x3)] [.inl x3, .inl x2] Z (zrv Q))
  obtain ⟨c1, c2, v1, v2⟩ := v
  refine z_if2 (a := 3) (t := 20) (by rfl) (by rfl) c1 c2 (fun h3 => ?_) (fun h3 => ?_)
  · have v := v1 h3; clear v1 v2
    show TZ d 1 20 [some (.inr 44), some (.inl x1), some (.inl x2), some (.inl x3)] [] Z (zrv Q)
    exact z_retv (by rfl) (by rfl) v
  · have v := v2 h3; clear v1 v2
    show TZ d 1 10 [some (.inr 44), some (.inl x1), some (.inl x2), some (.inl x3)] [] Z (zrv Q)
    refine z0 (op := 5) (a := 0) (b := 0) (by rfl) (by rfl) (?_ : TZ d 1 11 [some (.inr 44), some (.inl x1), some (.inl x2), some (.inl x3)] [.inr 44] Z (zrv Q))
    refine z0 (op := 3) (a := 2) (b := 0) (by rfl) (by rfl) (?_ : TZ d 1 12 [some (.inr 44), some (.inl x1), some (.inl x2), some (.inl x3)] [.inl x2, .inr 44] Z (zrv Q))
    refine z0 (op := 3) (a := 1) (b := 0) (by rfl) (by rfl) (?_ : TZ d 1 13 [some (.inr 44), some (.inl x1), some (.inl x2), some (.inl x3)] [.inl x1, .inl x2, .inr 44] Z (zrv Q))
    obtain ⟨c4, v⟩ := v
    obtain ⟨Z5, eZ5⟩ : ∃ zz, zz = zup Z 44 x2 x1 := ⟨_, rfl⟩
    have v := v Z5 eZ5
    refine z_as (by rfl) ln_44 c4 ?_
    show TZ d 1 14 [some (.inr 44), some (.inl x1), some (.inl x2), some (.inl x3)] [] (zup Z 44 x2 x1) _
    rw [← eZ5]
    refine z0 (op := 11) (a := 2) (b := 1) (by rfl) (by rfl) (?_ : TZ d 1 17 [some (.inr 44), some (.inl x1), some (.inl (x2 + 1)), some (.inl x3)] [] Z5 (zrv Q))
    refine z_goto (t := 5) (by rfl) (by rfl) (?_ : TZ d 1 5 [some (.inr 44), some (.inl x1), some (.inl (x2 + 1)), some (.inl x3)] [] Z5 (zrv Q))
    exact v
theorem w1_0_45 {d : Nat} {x1 : Int} {Z : zM} {Q : zM → Prop}
    (v : TZ d 1 5 [some (.inr 45), some (.inl x1), some (.inl 0), some (.inl 72)] [] Z (zrv Q)) :
    TZ d 1 0 [some (.inr 45), some (.inl x1), none, none] [] Z (zrv Q) := by
  refine z0 (op := 0) (a := 0) (b := 0) (by rfl) (by rfl) (?_ : TZ d 1 1 [some (.inr 45), some (.inl x1), none, none] [.inl 0] Z (zrv Q))
  refine z0 (op := 7) (a := 2) (b := 0) (by rfl) (by rfl) (?_ : TZ d 1 2 [some (.inr 45), some (.inl x1), some (.inl 0), none] [] Z (zrv Q))
  refine z0 (op := 5) (a := 0) (b := 0) (by rfl) (by rfl) (?_ : TZ d 1 3 [some (.inr 45), some (.inl x1), some (.inl 0), none] [.inr 45] Z (zrv Q))
  refine z_len (by rfl) le_45 (?_ : TZ d 1 4 [some (.inr 45), some (.inl x1), some (.inl 0), none] [.inl 72] Z (zrv Q))
  refine z0 (op := 7) (a := 3) (b := 0) (by rfl) (by rfl) (?_ : TZ d 1 5 [some (.inr 45), some (.inl x1), some (.inl 0), some (.inl 72)] [] Z (zrv Q))
  exact v
theorem w1_5_45 {d : Nat} {x1 x2 x3 : Int} {Z : zM} {Q : zM → Prop}
    (v : zR x2 ∧
      zR x3 ∧
      (x3 ≤ x2 → Q Z) ∧
      (¬ x3 ≤ x2 → ((0 ≤ x2 ∧ x2 < 72) ∧
          ∀ Z5, Z5 = zup Z 45 x2 x1 →
          TZ d 1 5 [some (.inr 45), some (.inl x1), some (.inl (x2 + 1)), some (.inl x3)] [] Z5 (zrv Q)))) :
    TZ d 1 5 [some (.inr 45), some (.inl x1), some (.inl x2), some (.inl x3)] [] Z (zrv Q) := by
  refine z0 (op := 3) (a := 2) (b := 0) (by rfl) (by rfl) (?_ : TZ d 1 6 [some (.inr 45), some (.inl x1), some (.inl x2), some (.inl x3)] [.inl x2] Z (zrv Q))
  refine z0 (op := 3) (a := 3) (b := 0) (by rfl) (by rfl) (?_ : TZ d 1 7 [some (.inr 45), some (.inl x1), some (.inl x2), some (.inl x3)] [.inl x3, .inl x2] Z (zrv Q))
  obtain ⟨c1, c2, v1, v2⟩ := v
  refine z_if2 (a := 3) (t := 20) (by rfl) (by rfl) c1 c2 (fun h3 => ?_) (fun h3 => ?_)
  · have v := v1 h3; clear v1 v2
    show TZ d 1 20 [some (.inr 45), some (.inl x1), some (.inl x2), some (.inl x3)] [] Z (zrv Q)
    exact z_retv (by rfl) (by rfl) v
  · have v := v2 h3; clear v1 v2
    show TZ d 1 10 [some (.inr 45), some (.inl x1), some (.inl x2), some (.inl x3)] [] Z (zrv Q)
    refine z0 (op := 5) (a := 0) (b := 0) (by rfl) (by rfl) (?_ : TZ d 1 11 [some (.inr 45), some (.inl x1), some (.inl x2), some (.inl x3)] [.inr 45] Z (zrv Q))
    refine z0 (op := 3) (a := 2) (b := 0) (by rfl) (by rfl) (?_ : TZ d 1 12 [some (.inr 45), some (.inl x1), some (.inl x2), some (.inl x3)] [.inl x2, .inr 45] Z (zrv Q))
    refine z0 (op := 3) (a := 1) (b := 0) (by rfl) (by rfl) (?_ : TZ d 1 13 [some (.inr 45), some (.inl x1), some (.inl x2), some (.inl x3)] [.inl x1, .inl x2, .inr 45] Z (zrv Q))
    obtain ⟨c4, v⟩ := v
    obtain ⟨Z5, eZ5⟩ : ∃ zz, zz = zup Z 45 x2 x1 := ⟨_, rfl⟩
    have v := v Z5 eZ5
    refine z_as (by rfl) ln_45 c4 ?_
    show TZ d 1 14 [some (.inr 45), some (.inl x1), some (.inl x2), some (.inl x3)] [] (zup Z 45 x2 x1) _
    rw [← eZ5]
    refine z0 (op := 11) (a := 2) (b := 1) (by rfl) (by rfl) (?_ : TZ d 1 17 [some (.inr 45), some (.inl x1), some (.inl (x2 + 1)), some (.inl x3)] [] Z5 (zrv Q))
    refine z_goto (t := 5) (by rfl) (by rfl) (?_ : TZ d 1 5 [some (.inr 45), some (.inl x1), some (.inl (x2 + 1)), some (.inl x3)] [] Z5 (zrv Q))
    exact v
