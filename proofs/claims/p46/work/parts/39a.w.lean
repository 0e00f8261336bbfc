/-! what further stretches of code need of integers -/
theorem w207_0 {d : Nat} {x1 x2 : Int} {Z : zM} {Q : Int → zM → Prop}
    (v : TI d 206 [.inl x1] Z (fun r2 Z1 =>
      zR r2 ∧
        (r2 ≠ 0 → (zR r2 ∧
            (r2 = 0 → TV d 205 [.inr 100, .inl x1] Z1 (fun Z7 =>
                zR x2 ∧
                  (x2 ≠ 0 → ((0 ≤ x1 ∧ x1 < 64) ∧ Q (Z7 112 x1) Z7)) ∧
                  (¬ x2 ≠ 0 → ((0 ≤ x1 ∧ x1 < 64) ∧ Q (Z7 111 x1) Z7)))) ∧
            (¬ r2 = 0 → TI d 154 [.inr 100, .inl r2] Z1 (fun r13 Z12 =>
                Q r13 Z12)))) ∧
        (¬ r2 ≠ 0 → TI d 155 [.inl x2, .inl 0, .inl 1] Z1 (fun r15 Z14 =>
            zR r15 ∧
              (r15 ≠ 0 → (zR r2 ∧
                  (r2 = 0 → TV d 205 [.inr 100, .inl x1] Z14 (fun Z20 =>
                      zR x2 ∧
                        (x2 ≠ 0 → ((0 ≤ x1 ∧ x1 < 64) ∧ Q (Z20 112 x1) Z20)) ∧
                        (¬ x2 ≠ 0 → ((0 ≤ x1 ∧ x1 < 64) ∧ Q (Z20 111 x1) Z20)))) ∧
                  (¬ r2 = 0 → TI d 154 [.inr 100, .inl r2] Z14 (fun r26 Z25 =>
                      Q r26 Z25)))) ∧
              (¬ r15 ≠ 0 → TI d 154 [.inr 100, .inl (-2)] Z14 (fun r28 Z27 =>
                  Q r28 Z27)))))) :
    TZ (d + 1) 207 0 [some (.inr 100), some (.inl x1), some (.inl x2), none] [] Z (zri Q) := by
  refine z0 (op := 3) (a := 1) (b := 0) (by rfl) (by rfl) (?_ : TZ (d + 1) 207 1 [some (.inr 100), some (.inl x1), some (.inl x2), none] [.inl x1] Z (zri Q))
  refine z_si (by rfl) (by rfl) (TI.mono v fun r2 Z1 v => ?_)
  show TZ (d + 1) 207 4 [some (.inr 100), some (.inl x1), some (.inl x2), none] [.inl r2] Z1 (zri Q)
  refine z0 (op := 7) (a := 3) (b := 0) (by rfl) (by rfl) (?_ : TZ (d + 1) 207 5 [some (.inr 100), some (.inl x1), some (.inl x2), some (.inl r2)] [] Z1 (zri Q))
  refine z0 (op := 3) (a := 3) (b := 0) (by rfl) (by rfl) (?_ : TZ (d + 1) 207 6 [some (.inr 100), some (.inl x1), some (.inl x2), some (.inl r2)] [.inl r2] Z1 (zri Q))
  obtain ⟨c3, v1, v2⟩ := v
  refine z_if0 (a := 1) (t := 21) (by rfl) (by rfl) c3 (fun h4 => ?_) (fun h4 => ?_)
  · have v := v1 h4; clear v1 v2
    show TZ (d + 1) 207 21 [some (.inr 100), some (.inl x1), some (.inl x2), some (.inl r2)] [] Z1 (zri Q)
    refine z0 (op := 3) (a := 3) (b := 0) (by rfl) (by rfl) (?_ : TZ (d + 1) 207 22 [some (.inr 100), some (.inl x1), some (.inl x2), some (.inl r2)] [.inl r2] Z1 (zri Q))
    obtain ⟨c5, v1, v2⟩ := v
    refine z_if0 (a := 0) (t := 31) (by rfl) (by rfl) c5 (fun h6 => ?_) (fun h6 => ?_)
    · have v := v1 h6; clear v1 v2
      show TZ (d + 1) 207 31 [some (.inr 100), some (.inl x1), some (.inl x2), some (.inl r2)] [] Z1 (zri Q)
      refine z0 (op := 5) (a := 0) (b := 0) (by rfl) (by rfl) (?_ : TZ (d + 1) 207 32 [some (.inr 100), some (.inl x1), some (.inl x2), some (.inl r2)] [.inr 100] Z1 (zri Q))
      refine z0 (op := 3) (a := 1) (b := 0) (by rfl) (by rfl) (?_ : TZ (d + 1) 207 33 [some (.inr 100), some (.inl x1), some (.inl x2), some (.inl r2)] [.inl x1, .inr 100] Z1 (zri Q))
      refine z_vv (by rfl) (by rfl) cl_100 (TV.mono v fun Z7 v => ?_)
      show TZ (d + 1) 207 36 [some (.inr 100), some (.inl x1), some (.inl x2), some (.inl r2)] [] Z7 (zri Q)
      refine z0 (op := 3) (a := 2) (b := 0) (by rfl) (by rfl) (?_ : TZ (d + 1) 207 37 [some (.inr 100), some (.inl x1), some (.inl x2), some (.inl r2)] [.inl x2] Z7 (zri Q))
      obtain ⟨c8, v1, v2⟩ := v
      refine z_if0 (a := 1) (t := 49) (by rfl) (by rfl) c8 (fun h9 => ?_) (fun h9 => ?_)
      · have v := v1 h9; clear v1 v2
        show TZ (d + 1) 207 49 [some (.inr 100), some (.inl x1), some (.inl x2), some (.inl r2)] [] Z7 (zri Q)
        refine z0 (op := 5) (a := 0) (b := 0) (by rfl) (by rfl) (?_ : TZ (d + 1) 207 50 [some (.inr 100), some (.inl x1), some (.inl x2), some (.inl r2)] [.inr 100] Z7 (zri Q))
        refine z_fr (by rfl) fr99_100 (?_ : TZ (d + 1) 207 53 [some (.inr 100), some (.inl x1), some (.inl x2), some (.inl r2)] [.inr 112] Z7 (zri Q))
        refine z0 (op := 3) (a := 1) (b := 0) (by rfl) (by rfl) (?_ : TZ (d + 1) 207 54 [some (.inr 100), some (.inl x1), some (.inl x2), some (.inl r2)] [.inl x1, .inr 112] Z7 (zri Q))
        obtain ⟨c10, v⟩ := v
        refine z_al (by rfl) ln_112 c10 (?_ : TZ (d + 1) 207 55 [some (.inr 100), some (.inl x1), some (.inl x2), some (.inl r2)] [.inl (Z7 112 x1)] Z7 (zri Q))
        exact z_reti (by rfl) (by rfl) v
      · have v := v2 h9; clear v1 v2
        show TZ (d + 1) 207 40 [some (.inr 100), some (.inl x1), some (.inl x2), some (.inl r2)] [] Z7 (zri Q)
        refine z0 (op := 5) (a := 0) (b := 0) (by rfl) (by rfl) (?_ : TZ (d + 1) 207 41 [some (.inr 100), some (.inl x1), some (.inl x2), some (.inl r2)] [.inr 100] Z7 (zri Q))
        refine z_fr (by rfl) fr98_100 (?_ : TZ (d + 1) 207 44 [some (.inr 100), some (.inl x1), some (.inl x2), some (.inl r2)] [.inr 111] Z7 (zri Q))
        refine z0 (op := 3) (a := 1) (b := 0) (by rfl) (by rfl) (?_ : TZ (d + 1) 207 45 [some (.inr 100), some (.inl x1), some (.inl x2), some (.inl r2)] [.inl x1, .inr 111] Z7 (zri Q))
        obtain ⟨c11, v⟩ := v
        refine z_al (by rfl) ln_111 c11 (?_ : TZ (d + 1) 207 46 [some (.inr 100), some (.inl x1), some (.inl x2), some (.inl r2)] [.inl (Z7 111 x1)] Z7 (zri Q))
        refine z_goto (t := 55) (by rfl) (by rfl) (?_ : TZ (d + 1) 207 55 [some (.inr 100), some (.inl x1), some (.inl x2), some (.inl r2)] [.inl (Z7 111 x1)] Z7 (zri Q))
        exact z_reti (by rfl) (by rfl) v
    · have v := v2 h6; clear v1 v2
      show TZ (d + 1) 207 25 [some (.inr 100), some (.inl x1), some (.inl x2), some (.inl r2)] [] Z1 (zri Q)
      refine z0 (op := 5) (a := 0) (b := 0) (by rfl) (by rfl) (?_ : TZ (d + 1) 207 26 [some (.inr 100), some (.inl x1), some (.inl x2), some (.inl r2)] [.inr 100] Z1 (zri Q))
      refine z0 (op := 3) (a := 3) (b := 0) (by rfl) (by rfl) (?_ : TZ (d + 1) 207 27 [some (.inr 100), some (.inl x1), some (.inl x2), some (.inl r2)] [.inl r2, .inr 100] Z1 (zri Q))
      refine z_vi (by rfl) (by rfl) cl_100 (TI.mono v fun r13 Z12 v => ?_)
      show TZ (d + 1) 207 30 [some (.inr 100), some (.inl x1), some (.inl x2), some (.inl r2)] [.inl r13] Z12 (zri Q)
      exact z_reti (by rfl) (by rfl) v
  · have v := v2 h4; clear v1 v2
    show TZ (d + 1) 207 9 [some (.inr 100), some (.inl x1), some (.inl x2), some (.inl r2)] [] Z1 (zri Q)
    refine z0 (op := 3) (a := 2) (b := 0) (by rfl) (by rfl) (?_ : TZ (d + 1) 207 10 [some (.inr 100), some (.inl x1), some (.inl x2), some (.inl r2)] [.inl x2] Z1 (zri Q))
    refine z0 (op := 0) (a := 0) (b := 0) (by rfl) (by rfl) (?_ : TZ (d + 1) 207 11 [some (.inr 100), some (.inl x1), some (.inl x2), some (.inl r2)] [.inl 0, .inl x2] Z1 (zri Q))
    refine z0 (op := 0) (a := 0) (b := 1) (by rfl) (by rfl) (?_ : TZ (d + 1) 207 12 [some (.inr 100), some (.inl x1), some (.inl x2), some (.inl r2)] [.inl 1, .inl 0, .inl x2] Z1 (zri Q))
    refine z_si (by rfl) (by rfl) (TI.mono v fun r15 Z14 v => ?_)
    show TZ (d + 1) 207 15 [some (.inr 100), some (.inl x1), some (.inl x2), some (.inl r2)] [.inl r15] Z14 (zri Q)
    obtain ⟨c16, v1, v2⟩ := v
    refine z_if0 (a := 1) (t := 21) (by rfl) (by rfl) c16 (fun h17 => ?_) (fun h17 => ?_)
    · have v := v1 h17; clear v1 v2
      show TZ (d + 1) 207 21 [some (.inr 100), some (.inl x1), some (.inl x2), some (.inl r2)] [] Z14 (zri Q)
      refine z0 (op := 3) (a := 3) (b := 0) (by rfl) (by rfl) (?_ : TZ (d + 1) 207 22 [some (.inr 100), some (.inl x1), some (.inl x2), some (.inl r2)] [.inl r2] Z14 (zri Q))
      obtain ⟨c18, v1, v2⟩ := v
      refine z_if0 (a := 0) (t := 31) (by rfl) (by rfl) c18 (fun h19 => ?_) (fun h19 => ?_)
      · have v := v1 h19; clear v1 v2
        show TZ (d + 1) 207 31 [some (.inr 100), some (.inl x1), some (.inl x2), some (.inl r2)] [] Z14 (zri Q)
        refine z0 (op := 5) (a := 0) (b := 0) (by rfl) (by rfl) (?_ : TZ (d + 1) 207 32 [some (.inr 100), some (.inl x1), some (.inl x2), some (.inl r2)] [.inr 100] Z14 (zri Q))
        refine z0 (op := 3) (a := 1) (b := 0) (by rfl) (by rfl) (?_ : TZ (d + 1) 207 33 [some (.inr 100), some (.inl x1), some (.inl x2), some (.inl r2)] [.inl x1, .inr 100] Z14 (zri Q))
        refine z_vv (by rfl) (by rfl) cl_100 (TV.mono v fun Z20 v => ?_)
        show TZ (d + 1) 207 36 [some (.inr 100), some (.inl x1), some (.inl x2), some (.inl r2)] [] Z20 (zri Q)
        refine z0 (op := 3) (a := 2) (b := 0) (by rfl) (by rfl) (?_ : TZ (d + 1) 207 37 [some (.inr 100), some (.inl x1), some (.inl x2), some (.inl r2)] [.inl x2] Z20 (zri Q))
        obtain ⟨c21, v1, v2⟩ := v
        refine z_if0 (a := 1) (t := 49) (by rfl) (by rfl) c21 (fun h22 => ?_) (fun h22 => ?_)
        · have v := v1 h22; clear v1 v2
          show TZ (d + 1) 207 49 [some (.inr 100), some (.inl x1), some (.inl x2), some (.inl r2)] [] Z20 (zri Q)
          refine z0 (op := 5) (a := 0) (b := 0) (by rfl) (by rfl) (?_ : TZ (d + 1) 207 50 [some (.inr 100), some (.inl x1), some (.inl x2), some (.inl r2)] [.inr 100] Z20 (zri Q))
          refine z_fr (by rfl) fr99_100 (?_ : TZ (d + 1) 207 53 [some (.inr 100), some (.inl x1), some (.inl x2), some (.inl r2)] [.inr 112] Z20 (zri Q))
          refine z0 (op := 3) (a := 1) (b := 0) (by rfl) (by rfl) (?_ : TZ (d + 1) 207 54 [some (.inr 100), some (.inl x1), some (.inl x2), some (.inl r2)] [.inl x1, .inr 112] Z20 (zri Q))
          obtain ⟨c23, v⟩ := v
          refine z_al (by rfl) ln_112 c23 (?_ : TZ (d + 1) 207 55 [some (.inr 100), some (.inl x1), some (.inl x2), some (.inl r2)] [.inl (Z20 112 x1)] Z20 (zri Q))
          exact z_reti (by rfl) (by rfl) v
        · have v := v2 h22; clear v1 v2
          show TZ (d + 1) 207 40 [some (.inr 100), some (.inl x1), some (.inl x2), some (.inl r2)] [] Z20 (zri Q)
          refine z0 (op := 5) (a := 0) (b := 0) (by rfl) (by rfl) (?_ : TZ (d + 1) 207 41 [some (.inr 100), some (.inl x1), some (.inl x2), some (.inl r2)] [.inr 100] Z20 (zri Q))
          refine z_fr (by rfl) fr98_100 (?_ : TZ (d + 1) 207 44 [some (.inr 100), some (.inl x1), some (.inl x2), some (.inl r2)] [.inr 111] Z20 (zri Q))
          refine z0 (op := 3) (a := 1) (b := 0) (by rfl) (by rfl) (?_ : TZ (d + 1) 207 45 [some (.inr 100), some (.inl x1), some (.inl x2), some (.inl r2)] [.inl x1, .inr 111] Z20 (zri Q))
          obtain ⟨c24, v⟩ := v
          refine z_al (by rfl) ln_111 c24 (?_ : TZ (d + 1) 207 46 [some (.inr 100), some (.inl x1), some (.inl x2), some (.inl r2)] [.inl (Z20 111 x1)] Z20 (zri Q))
          refine z_goto (t := 55) (by rfl) (by rfl) (?_ : TZ (d + 1) 207 55 [some (.inr 100), some (.inl x1), some (.inl x2), some (.inl r2)] [.inl (Z20 111 x1)] Z20 (zri Q))
          exact z_reti (by rfl) (by rfl) v
      · have v := v2 h19; clear v1 v2
        show TZ (d + 1) 207 25 [some (.inr 100), some (.inl x1), some (.inl x2), some (.inl r2)] [] Z14 (zri Q)
        refine z0 (op := 5) (a := 0) (b := 0) (by rfl) (by rfl) (?_ : TZ (d + 1) 207 26 [some (.inr 100), some (.inl x1), some (.inl x2), some (.inl r2)] [.inr 100] Z14 (zri Q))
        refine z0 (op := 3) (a := 3) (b := 0) (by rfl) (by rfl) (?_ : TZ (d + 1) 207 27 [some (.inr 100), some (.inl x1), some (.inl x2), some (.inl r2)] [.inl r2, .inr 100] Z14 (zri Q))
        refine z_vi (by rfl) (by rfl) cl_100 (TI.mono v fun r26 Z25 v => ?_)
        show TZ (d + 1) 207 30 [some (.inr 100), some (.inl x1), some (.inl x2), some (.inl r2)] [.inl r26] Z25 (zri Q)
        exact z_reti (by rfl) (by rfl) v
    · have v := v2 h17; clear v1 v2
      show TZ (d + 1) 207 18 [some (.inr 100), some (.inl x1), some (.inl x2), some (.inl r2)] [] Z14 (zri Q)
      refine z0 (op := 1) (a := 0) (b := (-2)) (by rfl) (by rfl) (?_ : TZ (d + 1) 207 20 [some (.inr 100), some (.inl x1), some (.inl x2), some (.inl r2)] [.inl (-2)] Z14 (zri Q))
      refine z0 (op := 7) (a := 3) (b := 0) (by rfl) (by rfl) (?_ : TZ (d + 1) 207 21 [some (.inr 100), some (.inl x1), some (.inl x2), some (.inl (-2))] [] Z14 (zri Q))
      refine z0 (op := 3) (a := 3) (b := 0) (by rfl) (by rfl) (?_ : TZ (d + 1) 207 22 [some (.inr 100), some (.inl x1), some (.inl x2), some (.inl (-2))] [.inl (-2)] Z14 (zri Q))
      refine z_if0 (a := 0) (t := 31) (by rfl) (by rfl) (by decide) (fun h => absurd (show ((-2) : Int) = (0 : Int) from h) (by decide)) (fun _ => ?_)
      show TZ (d + 1) 207 25 [some (.inr 100), some (.inl x1), some (.inl x2), some (.inl (-2))] [] Z14 (zri Q)
      refine z0 (op := 5) (a := 0) (b := 0) (by rfl) (by rfl) (?_ : TZ (d + 1) 207 26 [some (.inr 100), some (.inl x1), some (.inl x2), some (.inl (-2))] [.inr 100] Z14 (zri Q))
      refine z0 (op := 3) (a := 3) (b := 0) (by rfl) (by rfl) (?_ : TZ (d + 1) 207 27 [some (.inr 100), some (.inl x1), some (.inl x2), some (.inl (-2))] [.inl (-2), .inr 100] Z14 (zri Q))
      refine z_vi (by rfl) (by rfl) cl_100 (TI.mono v fun r28 Z27 v => ?_)
      show TZ (d + 1) 207 30 [some (.inr 100), some (.inl x1), some (.inl x2), some (.inl (-2))] [.inl r28] Z27 (zri Q)
      exact z_reti (by rfl) (by rfl) v
theorem w208_0 {d : Nat} {x1 x2 : Int} {Z : zM} {Q : Int → zM → Prop}
    (v : TI d 158 [.inr 100, .inl x1] Z (fun r2 Z1 =>
      zR r2 ∧
        (r2 ≠ 0 → TI d 206 [.inl x2] Z1 (fun r6 Z5 =>
            zR r6 ∧
              (r6 = 0 → TV d 179 [.inr 100] Z5 (fun Z9 =>
                  TV d 189 [.inr 100, .inl x2, .inl (-1)] Z9 (fun Z10 =>
                    (0 ≤ x1 ∧ x1 < 8) ∧
                      TV d 180 [.inr 100] Z10 (fun Z12 =>
                      Q (Z10 105 x1) Z12)))) ∧
              (¬ r6 = 0 → TI d 154 [.inr 100, .inl r6] Z5 (fun r14 Z13 =>
                  Q r14 Z13)))) ∧
        (¬ r2 ≠ 0 → TI d 154 [.inr 100, .inl (-1)] Z1 (fun r16 Z15 =>
            Q r16 Z15)))) :
    TZ (d + 1) 208 0 [some (.inr 100), some (.inl x1), some (.inl x2), none, none] [] Z (zri Q) := by
  refine z0 (op := 5) (a := 0) (b := 0) (by rfl) (by rfl) (?_ : TZ (d + 1) 208 1 [some (.inr 100), some (.inl x1), some (.inl x2), none, none] [.inr 100] Z (zri Q))
  refine z0 (op := 3) (a := 1) (b := 0) (by rfl) (by rfl) (?_ : TZ (d + 1) 208 2 [some (.inr 100), some (.inl x1), some (.inl x2), none, none] [.inl x1, .inr 100] Z (zri Q))
  refine z_vi (by rfl) (by rfl) cl_100 (TI.mono v fun r2 Z1 v => ?_)
  show TZ (d + 1) 208 5 [some (.inr 100), some (.inl x1), some (.inl x2), none, none] [.inl r2] Z1 (zri Q)
  obtain ⟨c3, v1, v2⟩ := v
  refine z_if0 (a := 1) (t := 12) (by rfl) (by rfl) c3 (fun h4 => ?_) (fun h4 => ?_)
  · have v := v1 h4; clear v1 v2
    show TZ (d + 1) 208 12 [some (.inr 100), some (.inl x1), some (.inl x2), none, none] [] Z1 (zri Q)
    refine z0 (op := 3) (a := 2) (b := 0) (by rfl) (by rfl) (?_ : TZ (d + 1) 208 13 [some (.inr 100), some (.inl x1), some (.inl x2), none, none] [.inl x2] Z1 (zri Q))
    refine z_si (by rfl) (by rfl) (TI.mono v fun r6 Z5 v => ?_)
    show TZ (d + 1) 208 16 [some (.inr 100), some (.inl x1), some (.inl x2), none, none] [.inl r6] Z5 (zri Q)
    refine z0 (op := 7) (a := 3) (b := 0) (by rfl) (by rfl) (?_ : TZ (d + 1) 208 17 [some (.inr 100), some (.inl x1), some (.inl x2), some (.inl r6), none] [] Z5 (zri Q))
    refine z0 (op := 3) (a := 3) (b := 0) (by rfl) (by rfl) (?_ : TZ (d + 1) 208 18 [some (.inr 100), some (.inl x1), some (.inl x2), some (.inl r6), none] [.inl r6] Z5 (zri Q))
    obtain ⟨c7, v1, v2⟩ := v
    refine z_if0 (a := 0) (t := 27) (by rfl) (by rfl) c7 (fun h8 => ?_) (fun h8 => ?_)
    · have v := v1 h8; clear v1 v2
      show TZ (d + 1) 208 27 [some (.inr 100), some (.inl x1), some (.inl x2), some (.inl r6), none] [] Z5 (zri Q)
      refine z0 (op := 5) (a := 0) (b := 0) (by rfl) (by rfl) (?_ : TZ (d + 1) 208 28 [some (.inr 100), some (.inl x1), some (.inl x2), some (.inl r6), none] [.inr 100] Z5 (zri Q))
      refine z_vv (by rfl) (by rfl) cl_100 (TV.mono v fun Z9 v => ?_)
      show TZ (d + 1) 208 31 [some (.inr 100), some (.inl x1), some (.inl x2), some (.inl r6), none] [] Z9 (zri Q)
      refine z0 (op := 5) (a := 0) (b := 0) (by rfl) (by rfl) (?_ : TZ (d + 1) 208 32 [some (.inr 100), some (.inl x1), some (.inl x2), some (.inl r6), none] [.inr 100] Z9 (zri Q))
      refine z0 (op := 3) (a := 2) (b := 0) (by rfl) (by rfl) (?_ : TZ (d + 1) 208 33 [some (.inr 100), some (.inl x1), some (.inl x2), some (.inl r6), none] [.inl x2, .inr 100] Z9 (zri Q))
      refine z0 (op := 0) (a := 0) (b := (-1)) (by rfl) (by rfl) (?_ : TZ (d + 1) 208 34 [some (.inr 100), some (.inl x1), some (.inl x2), some (.inl r6), none] [.inl (-1), .inl x2, .inr 100] Z9 (zri Q))
      refine z_vv (by rfl) (by rfl) cl_100 (TV.mono v fun Z10 v => ?_)
      show TZ (d + 1) 208 37 [some (.inr 100), some (.inl x1), some (.inl x2), some (.inl r6), none] [] Z10 (zri Q)
      refine z0 (op := 5) (a := 0) (b := 0) (by rfl) (by rfl) (?_ : TZ (d + 1) 208 38 [some (.inr 100), some (.inl x1), some (.inl x2), some (.inl r6), none] [.inr 100] Z10 (zri Q))
      refine z_fr (by rfl) fr92_100 (?_ : TZ (d + 1) 208 41 [some (.inr 100), some (.inl x1), some (.inl x2), some (.inl r6), none] [.inr 105] Z10 (zri Q))
      refine z0 (op := 3) (a := 1) (b := 0) (by rfl) (by rfl) (?_ : TZ (d + 1) 208 42 [some (.inr 100), some (.inl x1), some (.inl x2), some (.inl r6), none] [.inl x1, .inr 105] Z10 (zri Q))
      obtain ⟨c11, v⟩ := v
      refine z_al (by rfl) ln_105 c11 (?_ : TZ (d + 1) 208 43 [some (.inr 100), some (.inl x1), some (.inl x2), some (.inl r6), none] [.inl (Z10 105 x1)] Z10 (zri Q))
      refine z0 (op := 8) (a := 4) (b := 0) (by rfl) (by rfl) (?_ : TZ (d + 1) 208 45 [some (.inr 100), some (.inl x1), some (.inl x2), some (.inl r6), some (.inl (Z10 105 x1))] [] Z10 (zri Q))
      refine z0 (op := 5) (a := 0) (b := 0) (by rfl) (by rfl) (?_ : TZ (d + 1) 208 46 [some (.inr 100), some (.inl x1), some (.inl x2), some (.inl r6), some (.inl (Z10 105 x1))] [.inr 100] Z10 (zri Q))
      refine z_vv (by rfl) (by rfl) cl_100 (TV.mono v fun Z12 v => ?_)
      show TZ (d + 1) 208 49 [some (.inr 100), some (.inl x1), some (.inl x2), some (.inl r6), some (.inl (Z10 105 x1))] [] Z12 (zri Q)
      refine z0 (op := 4) (a := 4) (b := 0) (by rfl) (by rfl) (?_ : TZ (d + 1) 208 51 [some (.inr 100), some (.inl x1), some (.inl x2), some (.inl r6), some (.inl (Z10 105 x1))] [.inl (Z10 105 x1)] Z12 (zri Q))
      exact z_reti (by rfl) (by rfl) v
    · have v := v2 h8; clear v1 v2
      show TZ (d + 1) 208 21 [some (.inr 100), some (.inl x1), some (.inl x2), some (.inl r6), none] [] Z5 (zri Q)
      refine z0 (op := 5) (a := 0) (b := 0) (by rfl) (by rfl) (?_ : TZ (d + 1) 208 22 [some (.inr 100), some (.inl x1), some (.inl x2), some (.inl r6), none] [.inr 100] Z5 (zri Q))
      refine z0 (op := 3) (a := 3) (b := 0) (by rfl) (by rfl) (?_ : TZ (d + 1) 208 23 [some (.inr 100), some (.inl x1), some (.inl x2), some (.inl r6), none] [.inl r6, .inr 100] Z5 (zri Q))
      refine z_vi (by rfl) (by rfl) cl_100 (TI.mono v fun r14 Z13 v => ?_)
      show TZ (d + 1) 208 26 [some (.inr 100), some (.inl x1), some (.inl x2), some (.inl r6), none] [.inl r14] Z13 (zri Q)
      exact z_reti (by rfl) (by rfl) v
  · have v := v2 h4; clear v1 v2
    show TZ (d + 1) 208 8 [some (.inr 100), some (.inl x1), some (.inl x2), none, none] [] Z1 (zri Q)
    refine z0 (op := 0) (a := 0) (b := (-1)) (by rfl) (by rfl) (?_ : TZ (d + 1) 208 9 [some (.inr 100), some (.inl x1), some (.inl x2), none, none] [.inl (-1)] Z1 (zri Q))
    refine z_goto (t := 16) (by rfl) (by rfl) (?_ : TZ (d + 1) 208 16 [some (.inr 100), some (.inl x1), some (.inl x2), none, none] [.inl (-1)] Z1 (zri Q))
    refine z0 (op := 7) (a := 3) (b := 0) (by rfl) (by rfl) (?_ : TZ (d + 1) 208 17 [some (.inr 100), some (.inl x1), some (.inl x2), some (.inl (-1)), none] [] Z1 (zri Q))
    refine z0 (op := 3) (a := 3) (b := 0) (by rfl) (by rfl) (?_ : TZ (d + 1) 208 18 [some (.inr 100), some (.inl x1), some (.inl x2), some (.inl (-1)), none] [.inl (-1)] Z1 (zri Q))
    refine z_if0 (a := 0) (t := 27) (by rfl) (by rfl) (by decide) (fun h => absurd (show ((-1) : Int) = (0 : Int) from h) (by decide)) (fun _ => ?_)
    show TZ (d + 1) 208 21 [some (.inr 100), some (.inl x1), some (.inl x2), some (.inl (-1)), none] [] Z1 (zri Q)
    refine z0 (op := 5) (a := 0) (b := 0) (by rfl) (by rfl) (?_ : TZ (d + 1) 208 22 [some (.inr 100), some (.inl x1), some (.inl x2), some (.inl (-1)), none] [.inr 100] Z1 (zri Q))
    refine z0 (op := 3) (a := 3) (b := 0) (by rfl) (by rfl) (?_ : TZ (d + 1) 208 23 [some (.inr 100), some (.inl x1), some (.inl x2), some (.inl (-1)), none] [.inl (-1), .inr 100] Z1 (zri Q))
    refine z_vi (by rfl) (by rfl) cl_100 (TI.mono v fun r16 Z15 v => ?_)
    show TZ (d + 1) 208 26 [some (.inr 100), some (.inl x1), some (.inl x2), some (.inl (-1)), none] [.inl r16] Z15 (zri Q)
    exact z_reti (by rfl) (by rfl) v
theorem w209_0 {d : Nat} {Z : zM} {Q : Int → zM → Prop}
    (v : TV d 205 [.inr 100, .inl 20] Z (fun Z1 =>
      TZ (d + 1) 209 8 [some (.inr 100), some (.inl 0)] [] Z1 (zri Q))) :
    TZ (d + 1) 209 0 [some (.inr 100), none] [] Z (zri Q) := by
  refine z0 (op := 5) (a := 0) (b := 0) (by rfl) (by rfl) (?_ : TZ (d + 1) 209 1 [some (.inr 100), none] [.inr 100] Z (zri Q))
  refine z0 (op := 1) (a := 0) (b := 20) (by rfl) (by rfl) (?_ : TZ (d + 1) 209 3 [some (.inr 100), none] [.inl 20, .inr 100] Z (zri Q))
  refine z_vv (by rfl) (by rfl) cl_100 (TV.mono v fun Z1 v => ?_)
  show TZ (d + 1) 209 6 [some (.inr 100), none] [] Z1 (zri Q)
  refine z0 (op := 0) (a := 0) (b := 0) (by rfl) (by rfl) (?_ : TZ (d + 1) 209 7 [some (.inr 100), none] [.inl 0] Z1 (zri Q))
  refine z0 (op := 7) (a := 1) (b := 0) (by rfl) (by rfl) (?_ : TZ (d + 1) 209 8 [some (.inr 100), some (.inl 0)] [] Z1 (zri Q))
  exact v
theorem w209_8 {d : Nat} {x1 : Int} {Z : zM} {Q : Int → zM → Prop}
    (v : zR x1 ∧
      (20 < x1 → Q (-9) Z) ∧
      (¬ 20 < x1 → ((0 ≤ x1 ∧ x1 < 64) ∧
          zR (Z 112 x1) ∧
          ((Z 112 x1) = 0 → TZ d 209 8 [some (.inr 100), some (.inl (x1 + 1))] [] Z (zri Q)) ∧
          (¬ (Z 112 x1) = 0 → Q x1 Z)))) :
    TZ d 209 8 [some (.inr 100), some (.inl x1)] [] Z (zri Q) := by
  refine z0 (op := 3) (a := 1) (b := 0) (by rfl) (by rfl) (?_ : TZ d 209 9 [some (.inr 100), some (.inl x1)] [.inl x1] Z (zri Q))
  refine z0 (op := 1) (a := 0) (b := 20) (by rfl) (by rfl) (?_ : TZ d 209 11 [some (.inr 100), some (.inl x1)] [.inl 20, .inl x1] Z (zri Q))
  obtain ⟨c1, v1, v2⟩ := v
  refine z_if2 (a := 4) (t := 31) (by rfl) (by rfl) c1 (by decide) (fun h2 => ?_) (fun h2 => ?_)
  · have v := v1 h2; clear v1 v2
    show TZ d 209 31 [some (.inr 100), some (.inl x1)] [] Z (zri Q)
    refine z0 (op := 1) (a := 0) (b := (-9)) (by rfl) (by rfl) (?_ : TZ d 209 33 [some (.inr 100), some (.inl x1)] [.inl (-9)] Z (zri Q))
    exact z_reti (by rfl) (by rfl) v
  · have v := v2 h2; clear v1 v2
    show TZ d 209 14 [some (.inr 100), some (.inl x1)] [] Z (zri Q)
    refine z0 (op := 5) (a := 0) (b := 0) (by rfl) (by rfl) (?_ : TZ d 209 15 [some (.inr 100), some (.inl x1)] [.inr 100] Z (zri Q))
    refine z_fr (by rfl) fr99_100 (?_ : TZ d 209 18 [some (.inr 100), some (.inl x1)] [.inr 112] Z (zri Q))
    refine z0 (op := 3) (a := 1) (b := 0) (by rfl) (by rfl) (?_ : TZ d 209 19 [some (.inr 100), some (.inl x1)] [.inl x1, .inr 112] Z (zri Q))
    obtain ⟨c3, v⟩ := v
    refine z_al (by rfl) ln_112 c3 (?_ : TZ d 209 20 [some (.inr 100), some (.inl x1)] [.inl (Z 112 x1)] Z (zri Q))
    obtain ⟨c4, v1, v2⟩ := v
    refine z_if0 (a := 0) (t := 25) (by rfl) (by rfl) c4 (fun h5 => ?_) (fun h5 => ?_)
    · have v := v1 h5; clear v1 v2
      show TZ d 209 25 [some (.inr 100), some (.inl x1)] [] Z (zri Q)
      refine z0 (op := 11) (a := 1) (b := 1) (by rfl) (by rfl) (?_ : TZ d 209 28 [some (.inr 100), some (.inl (x1 + 1))] [] Z (zri Q))
      refine z_goto (t := 8) (by rfl) (by rfl) (?_ : TZ d 209 8 [some (.inr 100), some (.inl (x1 + 1))] [] Z (zri Q))
      exact v
    · have v := v2 h5; clear v1 v2
      show TZ d 209 23 [some (.inr 100), some (.inl x1)] [] Z (zri Q)
      refine z0 (op := 3) (a := 1) (b := 0) (by rfl) (by rfl) (?_ : TZ d 209 24 [some (.inr 100), some (.inl x1)] [.inl x1] Z (zri Q))
      exact z_reti (by rfl) (by rfl) v
theorem w210_0 {d : Nat} {x1 : Int} {Z : zM} {Q : Int → zM → Prop}
    (v : TV d 205 [.inr 100, .inl x1] Z (fun Z1 =>
      TZ (d + 1) 210 9 [some (.inr 100), some (.inl x1), some (.inl 0), some (.inl 1)] [] Z1 (zri Q))) :
    TZ (d + 1) 210 0 [some (.inr 100), some (.inl x1), none, none] [] Z (zri Q) := by
  refine z0 (op := 5) (a := 0) (b := 0) (by rfl) (by rfl) (?_ : TZ (d + 1) 210 1 [some (.inr 100), some (.inl x1), none, none] [.inr 100] Z (zri Q))
  refine z0 (op := 3) (a := 1) (b := 0) (by rfl) (by rfl) (?_ : TZ (d + 1) 210 2 [some (.inr 100), some (.inl x1), none, none] [.inl x1, .inr 100] Z (zri Q))
  refine z_vv (by rfl) (by rfl) cl_100 (TV.mono v fun Z1 v => ?_)
  show TZ (d + 1) 210 5 [some (.inr 100), some (.inl x1), none, none] [] Z1 (zri Q)
  refine z0 (op := 0) (a := 0) (b := 0) (by rfl) (by rfl) (?_ : TZ (d + 1) 210 6 [some (.inr 100), some (.inl x1), none, none] [.inl 0] Z1 (zri Q))
  refine z0 (op := 7) (a := 2) (b := 0) (by rfl) (by rfl) (?_ : TZ (d + 1) 210 7 [some (.inr 100), some (.inl x1), some (.inl 0), none] [] Z1 (zri Q))
  refine z0 (op := 0) (a := 0) (b := 1) (by rfl) (by rfl) (?_ : TZ (d + 1) 210 8 [some (.inr 100), some (.inl x1), some (.inl 0), none] [.inl 1] Z1 (zri Q))
  refine z0 (op := 7) (a := 3) (b := 0) (by rfl) (by rfl) (?_ : TZ (d + 1) 210 9 [some (.inr 100), some (.inl x1), some (.inl 0), some (.inl 1)] [] Z1 (zri Q))
  exact v
theorem w210_9 {d : Nat} {x1 x2 x3 : Int} {Z : zM} {Q : Int → zM → Prop}
    (v : zR x3 ∧
      zR x1 ∧
      (x1 < x3 → Q x2 Z) ∧
      (¬ x1 < x3 → ((0 ≤ x3 ∧ x3 < 64) ∧ TZ d 210 9 [some (.inr 100), some (.inl x1), some (.inl (x2 + (Z 112 x3))), some (.inl (x3 + 1))] [] Z (zri Q)))) :
    TZ d 210 9 [some (.inr 100), some (.inl x1), some (.inl x2), some (.inl x3)] [] Z (zri Q) := by
  refine z0 (op := 3) (a := 3) (b := 0) (by rfl) (by rfl) (?_ : TZ d 210 10 [some (.inr 100), some (.inl x1), some (.inl x2), some (.inl x3)] [.inl x3] Z (zri Q))
  refine z0 (op := 3) (a := 1) (b := 0) (by rfl) (by rfl) (?_ : TZ d 210 11 [some (.inr 100), some (.inl x1), some (.inl x2), some (.inl x3)] [.inl x1, .inl x3] Z (zri Q))
  obtain ⟨c1, c2, v1, v2⟩ := v
  refine z_if2 (a := 4) (t := 29) (by rfl) (by rfl) c1 c2 (fun h3 => ?_) (fun h3 => ?_)
  · have v := v1 h3; clear v1 v2
    show TZ d 210 29 [some (.inr 100), some (.inl x1), some (.inl x2), some (.inl x3)] [] Z (zri Q)
    refine z0 (op := 3) (a := 2) (b := 0) (by rfl) (by rfl) (?_ : TZ d 210 30 [some (.inr 100), some (.inl x1), some (.inl x2), some (.inl x3)] [.inl x2] Z (zri Q))
    exact z_reti (by rfl) (by rfl) v
  · have v := v2 h3; clear v1 v2
    show TZ d 210 14 [some (.inr 100), some (.inl x1), some (.inl x2), some (.inl x3)] [] Z (zri Q)
    refine z0 (op := 3) (a := 2) (b := 0) (by rfl) (by rfl) (?_ : TZ d 210 15 [some (.inr 100), some (.inl x1), some (.inl x2), some (.inl x3)] [.inl x2] Z (zri Q))
    refine z0 (op := 5) (a := 0) (b := 0) (by rfl) (by rfl) (?_ : TZ d 210 16 [some (.inr 100), some (.inl x1), some (.inl x2), some (.inl x3)] [.inr 100, .inl x2] Z (zri Q))
    refine z_fr (by rfl) fr99_100 (?_ : TZ d 210 19 [some (.inr 100), some (.inl x1), some (.inl x2), some (.inl x3)] [.inr 112, .inl x2] Z (zri Q))
    refine z0 (op := 3) (a := 3) (b := 0) (by rfl) (by rfl) (?_ : TZ d 210 20 [some (.inr 100), some (.inl x1), some (.inl x2), some (.inl x3)] [.inl x3, .inr 112, .inl x2] Z (zri Q))
    obtain ⟨c4, v⟩ := v
    refine z_al (by rfl) ln_112 c4 (?_ : TZ d 210 21 [some (.inr 100), some (.inl x1), some (.inl x2), some (.inl x3)] [.inl (Z 112 x3), .inl x2] Z (zri Q))
    refine z0 (op := 12) (a := 0) (b := 0) (by rfl) (by rfl) (?_ : TZ d 210 22 [some (.inr 100), some (.inl x1), some (.inl x2), some (.inl x3)] [.inl (x2 + (Z 112 x3))] Z (zri Q))
    refine z0 (op := 7) (a := 2) (b := 0) (by rfl) (by rfl) (?_ : TZ d 210 23 [some (.inr 100), some (.inl x1), some (.inl (x2 + (Z 112 x3))), some (.inl x3)] [] Z (zri Q))
    refine z0 (op := 11) (a := 3) (b := 1) (by rfl) (by rfl) (?_ : TZ d 210 26 [some (.inr 100), some (.inl x1), some (.inl (x2 + (Z 112 x3))), some (.inl (x3 + 1))] [] Z (zri Q))
    refine z_goto (t := 9) (by rfl) (by rfl) (?_ : TZ d 210 9 [some (.inr 100), some (.inl x1), some (.inl (x2 + (Z 112 x3))), some (.inl (x3 + 1))] [] Z (zri Q))
    exact v
theorem w211_0 {d : Nat} {x1 : Int} {Z : zM} {Q : Int → zM → Prop}
    (v : TI d 206 [.inl x1] Z (fun r2 Z1 =>
      zR r2 ∧
        (r2 = 0 → TI d 210 [.inr 100, .inl x1] Z1 (fun r6 Z5 =>
            Q r6 Z5)) ∧
        (¬ r2 = 0 → TI d 154 [.inr 100, .inl r2] Z1 (fun r8 Z7 =>
            Q r8 Z7)))) :
    TZ (d + 1) 211 0 [some (.inr 100), some (.inl x1), none] [] Z (zri Q) := by
  refine z0 (op := 3) (a := 1) (b := 0) (by rfl) (by rfl) (?_ : TZ (d + 1) 211 1 [some (.inr 100), some (.inl x1), none] [.inl x1] Z (zri Q))
  refine z_si (by rfl) (by rfl) (TI.mono v fun r2 Z1 v => ?_)
  show TZ (d + 1) 211 4 [some (.inr 100), some (.inl x1), none] [.inl r2] Z1 (zri Q)
  refine z0 (op := 7) (a := 2) (b := 0) (by rfl) (by rfl) (?_ : TZ (d + 1) 211 5 [some (.inr 100), some (.inl x1), some (.inl r2)] [] Z1 (zri Q))
  refine z0 (op := 3) (a := 2) (b := 0) (by rfl) (by rfl) (?_ : TZ (d + 1) 211 6 [some (.inr 100), some (.inl x1), some (.inl r2)] [.inl r2] Z1 (zri Q))
  obtain ⟨c3, v1, v2⟩ := v
  refine z_if0 (a := 0) (t := 17) (by rfl) (by rfl) c3 (fun h4 => ?_) (fun h4 => ?_)
  · have v := v1 h4; clear v1 v2
    show TZ (d + 1) 211 17 [some (.inr 100), some (.inl x1), some (.inl r2)] [] Z1 (zri Q)
    refine z0 (op := 5) (a := 0) (b := 0) (by rfl) (by rfl) (?_ : TZ (d + 1) 211 18 [some (.inr 100), some (.inl x1), some (.inl r2)] [.inr 100] Z1 (zri Q))
    refine z0 (op := 3) (a := 1) (b := 0) (by rfl) (by rfl) (?_ : TZ (d + 1) 211 19 [some (.inr 100), some (.inl x1), some (.inl r2)] [.inl x1, .inr 100] Z1 (zri Q))
    refine z_vi (by rfl) (by rfl) cl_100 (TI.mono v fun r6 Z5 v => ?_)
    show TZ (d + 1) 211 22 [some (.inr 100), some (.inl x1), some (.inl r2)] [.inl r6] Z5 (zri Q)
    exact z_reti (by rfl) (by rfl) v
  · have v := v2 h4; clear v1 v2
    show TZ (d + 1) 211 9 [some (.inr 100), some (.inl x1), some (.inl r2)] [] Z1 (zri Q)
    refine z0 (op := 5) (a := 0) (b := 0) (by rfl) (by rfl) (?_ : TZ (d + 1) 211 10 [some (.inr 100), some (.inl x1), some (.inl r2)] [.inr 100] Z1 (zri Q))
    refine z0 (op := 3) (a := 2) (b := 0) (by rfl) (by rfl) (?_ : TZ (d + 1) 211 11 [some (.inr 100), some (.inl x1), some (.inl r2)] [.inl r2, .inr 100] Z1 (zri Q))
    refine z_vi (by rfl) (by rfl) cl_100 (TI.mono v fun r8 Z7 v => ?_)
    show TZ (d + 1) 211 14 [some (.inr 100), some (.inl x1), some (.inl r2)] [.inl r8] Z7 (zri Q)
    refine z_goto (t := 22) (by rfl) (by rfl) (?_ : TZ (d + 1) 211 22 [some (.inr 100), some (.inl x1), some (.inl r2)] [.inl r8] Z7 (zri Q))
    exact z_reti (by rfl) (by rfl) v
theorem w212_0 {d : Nat} {x1 : Int} {Z : zM} {Q : Int → zM → Prop}
    (v : TZ d 212 4 [some (.inr 100), some (.inl x1), some (.inl 1), some (.inl 0)] [] Z (zri Q)) :
    TZ d 212 0 [some (.inr 100), some (.inl x1), none, none] [] Z (zri Q) := by
  refine z0 (op := 0) (a := 0) (b := 1) (by rfl) (by rfl) (?_ : TZ d 212 1 [some (.inr 100), some (.inl x1), none, none] [.inl 1] Z (zri Q))
  refine z0 (op := 7) (a := 2) (b := 0) (by rfl) (by rfl) (?_ : TZ d 212 2 [some (.inr 100), some (.inl x1), some (.inl 1), none] [] Z (zri Q))
  refine z0 (op := 0) (a := 0) (b := 0) (by rfl) (by rfl) (?_ : TZ d 212 3 [some (.inr 100), some (.inl x1), some (.inl 1), none] [.inl 0] Z (zri Q))
  refine z0 (op := 7) (a := 3) (b := 0) (by rfl) (by rfl) (?_ : TZ d 212 4 [some (.inr 100), some (.inl x1), some (.inl 1), some (.inl 0)] [] Z (zri Q))
  exact v
theorem w212_4 {d : Nat} {x1 x2 x3 : Int} {Z : zM} {Q : Int → zM → Prop}
    (v : zR x3 ∧
      zR x1 ∧
      (x1 ≤ x3 → Q x2 Z) ∧
      (¬ x1 ≤ x3 → TZ d 212 4 [some (.inr 100), some (.inl x1), some (.inl (x2 * ((Z 100 6) + 1))), some (.inl (x3 + 1))] [] Z (zri Q))) :
    TZ d 212 4 [some (.inr 100), some (.inl x1), some (.inl x2), some (.inl x3)] [] Z (zri Q) := by
  refine z0 (op := 3) (a := 3) (b := 0) (by rfl) (by rfl) (?_ : TZ d 212 5 [some (.inr 100), some (.inl x1), some (.inl x2), some (.inl x3)] [.inl x3] Z (zri Q))
  refine z0 (op := 3) (a := 1) (b := 0) (by rfl) (by rfl) (?_ : TZ d 212 6 [some (.inr 100), some (.inl x1), some (.inl x2), some (.inl x3)] [.inl x1, .inl x3] Z (zri Q))
  obtain ⟨c1, c2, v1, v2⟩ := v
  refine z_if2 (a := 3) (t := 24) (by rfl) (by rfl) c1 c2 (fun h3 => ?_) (fun h3 => ?_)
  · have v := v1 h3; clear v1 v2
    show TZ d 212 24 [some (.inr 100), some (.inl x1), some (.inl x2), some (.inl x3)] [] Z (zri Q)
    refine z0 (op := 3) (a := 2) (b := 0) (by rfl) (by rfl) (?_ : TZ d 212 25 [some (.inr 100), some (.inl x1), some (.inl x2), some (.inl x3)] [.inl x2] Z (zri Q))
    exact z_reti (by rfl) (by rfl) v
  · have v := v2 h3; clear v1 v2
    show TZ d 212 9 [some (.inr 100), some (.inl x1), some (.inl x2), some (.inl x3)] [] Z (zri Q)
    refine z0 (op := 3) (a := 2) (b := 0) (by rfl) (by rfl) (?_ : TZ d 212 10 [some (.inr 100), some (.inl x1), some (.inl x2), some (.inl x3)] [.inl x2] Z (zri Q))
    refine z0 (op := 5) (a := 0) (b := 0) (by rfl) (by rfl) (?_ : TZ d 212 11 [some (.inr 100), some (.inl x1), some (.inl x2), some (.inl x3)] [.inr 100, .inl x2] Z (zri Q))
    refine z_fi (by rfl) fi110_100 (?_ : TZ d 212 14 [some (.inr 100), some (.inl x1), some (.inl x2), some (.inl x3)] [.inl (Z 100 6), .inl x2] Z (zri Q))
    refine z0 (op := 0) (a := 0) (b := 1) (by rfl) (by rfl) (?_ : TZ d 212 15 [some (.inr 100), some (.inl x1), some (.inl x2), some (.inl x3)] [.inl 1, .inl (Z 100 6), .inl x2] Z (zri Q))
    refine z0 (op := 12) (a := 0) (b := 0) (by rfl) (by rfl) (?_ : TZ d 212 16 [some (.inr 100), some (.inl x1), some (.inl x2), some (.inl x3)] [.inl ((Z 100 6) + 1), .inl x2] Z (zri Q))
    refine z0 (op := 12) (a := 2) (b := 0) (by rfl) (by rfl) (?_ : TZ d 212 17 [some (.inr 100), some (.inl x1), some (.inl x2), some (.inl x3)] [.inl (x2 * ((Z 100 6) + 1))] Z (zri Q))
    refine z0 (op := 7) (a := 2) (b := 0) (by rfl) (by rfl) (?_ : TZ d 212 18 [some (.inr 100), some (.inl x1), some (.inl (x2 * ((Z 100 6) + 1))), some (.inl x3)] [] Z (zri Q))
    refine z0 (op := 11) (a := 3) (b := 1) (by rfl) (by rfl) (?_ : TZ d 212 21 [some (.inr 100), some (.inl x1), some (.inl (x2 * ((Z 100 6) + 1))), some (.inl (x3 + 1))] [] Z (zri Q))
    refine z_goto (t := 4) (by rfl) (by rfl) (?_ : TZ d 212 4 [some (.inr 100), some (.inl x1), some (.inl (x2 * ((Z 100 6) + 1))), some (.inl (x3 + 1))] [] Z (zri Q))
    exact v
theorem w213_0 {d : Nat} {x1 x2 : Int} {Z : zM} {Q : zM → Prop}
    (v : TZ d 213 7 [some (.inr 100), some (.inl x1), some (.inl x2), some (.inl x1), some (.inl (x2 - 1))] [] Z (zrv Q)) :
    TZ d 213 0 [some (.inr 100), some (.inl x1), some (.inl x2), none, none] [] Z (zrv Q) := by
  refine z0 (op := 3) (a := 1) (b := 0) (by rfl) (by rfl) (?_ : TZ d 213 1 [some (.inr 100), some (.inl x1), some (.inl x2), none, none] [.inl x1] Z (zrv Q))
  refine z0 (op := 7) (a := 3) (b := 0) (by rfl) (by rfl) (?_ : TZ d 213 2 [some (.inr 100), some (.inl x1), some (.inl x2), some (.inl x1), none] [] Z (zrv Q))
  refine z0 (op := 3) (a := 2) (b := 0) (by rfl) (by rfl) (?_ : TZ d 213 3 [some (.inr 100), some (.inl x1), some (.inl x2), some (.inl x1), none] [.inl x2] Z (zrv Q))
  refine z0 (op := 0) (a := 0) (b := 1) (by rfl) (by rfl) (?_ : TZ d 213 4 [some (.inr 100), some (.inl x1), some (.inl x2), some (.inl x1), none] [.inl 1, .inl x2] Z (zrv Q))
  refine z0 (op := 12) (a := 1) (b := 0) (by rfl) (by rfl) (?_ : TZ d 213 5 [some (.inr 100), some (.inl x1), some (.inl x2), some (.inl x1), none] [.inl (x2 - 1)] Z (zrv Q))
  refine z0 (op := 8) (a := 4) (b := 0) (by rfl) (by rfl) (?_ : TZ d 213 7 [some (.inr 100), some (.inl x1), some (.inl x2), some (.inl x1), some (.inl (x2 - 1))] [] Z (zrv Q))
  exact v
theorem w213_7 {d : Nat} {x1 x2 x3 x4 : Int} {Z : zM} {Q : zM → Prop}
    (v : zR x4 ∧
      (x4 < 0 → Q Z) ∧
      (¬ x4 < 0 → (zR x3 ∧
          (1 ≤ ((Z 100 6) + 1) ∧ ((Z 100 6) + 1) ≤ 2147483647) ∧
          (0 ≤ x4 ∧ x4 < 4) ∧
          ∀ Z6, Z6 = zup Z 114 x4 (Int.tmod x3 ((Z 100 6) + 1)) →
          zR x3 ∧
          (1 ≤ ((Z6 100 6) + 1) ∧ ((Z6 100 6) + 1) ≤ 2147483647) ∧ TZ d 213 7 [some (.inr 100), some (.inl x1), some (.inl x2), some (.inl (Int.tdiv x3 ((Z6 100 6) + 1))), some (.inl (x4 + (-1)))] [] Z6 (zrv Q)))) :
    TZ d 213 7 [some (.inr 100), some (.inl x1), some (.inl x2), some (.inl x3), some (.inl x4)] [] Z (zrv Q) := by
  refine z0 (op := 4) (a := 4) (b := 0) (by rfl) (by rfl) (?_ : TZ d 213 9 [some (.inr 100), some (.inl x1), some (.inl x2), some (.inl x3), some (.inl x4)] [.inl x4] Z (zrv Q))
  obtain ⟨c1, v1, v2⟩ := v
  refine z_if0 (a := 2) (t := 42) (by rfl) (by rfl) c1 (fun h2 => ?_) (fun h2 => ?_)
  · have v := v1 h2; clear v1 v2
    show TZ d 213 42 [some (.inr 100), some (.inl x1), some (.inl x2), some (.inl x3), some (.inl x4)] [] Z (zrv Q)
    exact z_retv (by rfl) (by rfl) v
  · have v := v2 h2; clear v1 v2
    show TZ d 213 12 [some (.inr 100), some (.inl x1), some (.inl x2), some (.inl x3), some (.inl x4)] [] Z (zrv Q)
    refine z0 (op := 5) (a := 0) (b := 0) (by rfl) (by rfl) (?_ : TZ d 213 13 [some (.inr 100), some (.inl x1), some (.inl x2), some (.inl x3), some (.inl x4)] [.inr 100] Z (zrv Q))
    refine z_fr (by rfl) fr101_100 (?_ : TZ d 213 16 [some (.inr 100), some (.inl x1), some (.inl x2), some (.inl x3), some (.inl x4)] [.inr 114] Z (zrv Q))
    refine z0 (op := 4) (a := 4) (b := 0) (by rfl) (by rfl) (?_ : TZ d 213 18 [some (.inr 100), some (.inl x1), some (.inl x2), some (.inl x3), some (.inl x4)] [.inl x4, .inr 114] Z (zrv Q))
    refine z0 (op := 3) (a := 3) (b := 0) (by rfl) (by rfl) (?_ : TZ d 213 19 [some (.inr 100), some (.inl x1), some (.inl x2), some (.inl x3), some (.inl x4)] [.inl x3, .inl x4, .inr 114] Z (zrv Q))
    refine z0 (op := 5) (a := 0) (b := 0) (by rfl) (by rfl) (?_ : TZ d 213 20 [some (.inr 100), some (.inl x1), some (.inl x2), some (.inl x3), some (.inl x4)] [.inr 100, .inl x3, .inl x4, .inr 114] Z (zrv Q))
    refine z_fi (by rfl) fi110_100 (?_ : TZ d 213 23 [some (.inr 100), some (.inl x1), some (.inl x2), some (.inl x3), some (.inl x4)] [.inl (Z 100 6), .inl x3, .inl x4, .inr 114] Z (zrv Q))
    refine z0 (op := 0) (a := 0) (b := 1) (by rfl) (by rfl) (?_ : TZ d 213 24 [some (.inr 100), some (.inl x1), some (.inl x2), some (.inl x3), some (.inl x4)] [.inl 1, .inl (Z 100 6), .inl x3, .inl x4, .inr 114] Z (zrv Q))
    refine z0 (op := 12) (a := 0) (b := 0) (by rfl) (by rfl) (?_ : TZ d 213 25 [some (.inr 100), some (.inl x1), some (.inl x2), some (.inl x3), some (.inl x4)] [.inl ((Z 100 6) + 1), .inl x3, .inl x4, .inr 114] Z (zrv Q))
    obtain ⟨c3, c4, v⟩ := v
    refine z_rem (by rfl) c3 c4 (?_ : TZ d 213 26 [some (.inr 100), some (.inl x1), some (.inl x2), some (.inl x3), some (.inl x4)] [.inl (Int.tmod x3 ((Z 100 6) + 1)), .inl x4, .inr 114] Z (zrv Q))
    obtain ⟨c5, v⟩ := v
    obtain ⟨Z6, eZ6⟩ : ∃ zz, zz = zup Z 114 x4 (Int.tmod x3 ((Z 100 6) + 1)) := ⟨_, rfl⟩
    have v := v Z6 eZ6
    refine z_as (by rfl) ln_114 c5 ?_
    show TZ d 213 27 [some (.inr 100), some (.inl x1), some (.inl x2), some (.inl x3), some (.inl x4)] [] (zup Z 114 x4 (Int.tmod x3 ((Z 100 6) + 1))) _
    rw [← eZ6]
    refine z0 (op := 3) (a := 3) (b := 0) (by rfl) (by rfl) (?_ : TZ d 213 28 [some (.inr 100), some (.inl x1), some (.inl x2), some (.inl x3), some (.inl x4)] [.inl x3] Z6 (zrv Q))
    refine z0 (op := 5) (a := 0) (b := 0) (by rfl) (by rfl) (?_ : TZ d 213 29 [some (.inr 100), some (.inl x1), some (.inl x2), some (.inl x3), some (.inl x4)] [.inr 100, .inl x3] Z6 (zrv Q))
    refine z_fi (by rfl) fi110_100 (?_ : TZ d 213 32 [some (.inr 100), some (.inl x1), some (.inl x2), some (.inl x3), some (.inl x4)] [.inl (Z6 100 6), .inl x3] Z6 (zrv Q))
    refine z0 (op := 0) (a := 0) (b := 1) (by rfl) (by rfl) (?_ : TZ d 213 33 [some (.inr 100), some (.inl x1), some (.inl x2), some (.inl x3), some (.inl x4)] [.inl 1, .inl (Z6 100 6), .inl x3] Z6 (zrv Q))
    refine z0 (op := 12) (a := 0) (b := 0) (by rfl) (by rfl) (?_ : TZ d 213 34 [some (.inr 100), some (.inl x1), some (.inl x2), some (.inl x3), some (.inl x4)] [.inl ((Z6 100 6) + 1), .inl x3] Z6 (zrv Q))
    obtain ⟨c7, c8, v⟩ := v
    refine z_div (by rfl) c7 c8 (?_ : TZ d 213 35 [some (.inr 100), some (.inl x1), some (.inl x2), some (.inl x3), some (.inl x4)] [.inl (Int.tdiv x3 ((Z6 100 6) + 1))] Z6 (zrv Q))
    refine z0 (op := 7) (a := 3) (b := 0) (by rfl) (by rfl) (?_ : TZ d 213 36 [some (.inr 100), some (.inl x1), some (.inl x2), some (.inl (Int.tdiv x3 ((Z6 100 6) + 1))), some (.inl x4)] [] Z6 (zrv Q))
    refine z0 (op := 11) (a := 4) (b := (-1)) (by rfl) (by rfl) (?_ : TZ d 213 39 [some (.inr 100), some (.inl x1), some (.inl x2), some (.inl (Int.tdiv x3 ((Z6 100 6) + 1))), some (.inl (x4 + (-1)))] [] Z6 (zrv Q))
    refine z_goto (t := 7) (by rfl) (by rfl) (?_ : TZ d 213 7 [some (.inr 100), some (.inl x1), some (.inl x2), some (.inl (Int.tdiv x3 ((Z6 100 6) + 1))), some (.inl (x4 + (-1)))] [] Z6 (zrv Q))
    exact v
theorem w214_0 {d : Nat} {x1 : Int} {Z : zM} {Q : Int → zM → Prop}
    (v : TZ d 214 4 [some (.inr 100), some (.inl x1), some (.inl 0), some (.inl 0)] [] Z (zri Q)) :
    TZ d 214 0 [some (.inr 100), some (.inl x1), none, none] [] Z (zri Q) := by
  refine z0 (op := 0) (a := 0) (b := 0) (by rfl) (by rfl) (?_ : TZ d 214 1 [some (.inr 100), some (.inl x1), none, none] [.inl 0] Z (zri Q))
  refine z0 (op := 7) (a := 2) (b := 0) (by rfl) (by rfl) (?_ : TZ d 214 2 [some (.inr 100), some (.inl x1), some (.inl 0), none] [] Z (zri Q))
  refine z0 (op := 0) (a := 0) (b := 0) (by rfl) (by rfl) (?_ : TZ d 214 3 [some (.inr 100), some (.inl x1), some (.inl 0), none] [.inl 0] Z (zri Q))
  refine z0 (op := 7) (a := 3) (b := 0) (by rfl) (by rfl) (?_ : TZ d 214 4 [some (.inr 100), some (.inl x1), some (.inl 0), some (.inl 0)] [] Z (zri Q))
  exact v
theorem w214_4 {d : Nat} {x1 x2 x3 : Int} {Z : zM} {Q : Int → zM → Prop}
    (v : zR x3 ∧
      zR x1 ∧
      (x1 ≤ x3 → Q x2 Z) ∧
      (¬ x1 ≤ x3 → ((0 ≤ x3 ∧ x3 < 4) ∧ TZ d 214 4 [some (.inr 100), some (.inl x1), some (.inl (x2 + (Z 114 x3))), some (.inl (x3 + 1))] [] Z (zri Q)))) :
    TZ d 214 4 [some (.inr 100), some (.inl x1), some (.inl x2), some (.inl x3)] [] Z (zri Q) := by
  refine z0 (op := 3) (a := 3) (b := 0) (by rfl) (by rfl) (?_ : TZ d 214 5 [some (.inr 100), some (.inl x1), some (.inl x2), some (.inl x3)] [.inl x3] Z (zri Q))
  refine z0 (op := 3) (a := 1) (b := 0) (by rfl) (by rfl) (?_ : TZ d 214 6 [some (.inr 100), some (.inl x1), some (.inl x2), some (.inl x3)] [.inl x1, .inl x3] Z (zri Q))
  obtain ⟨c1, c2, v1, v2⟩ := v
  refine z_if2 (a := 3) (t := 24) (by rfl) (by rfl) c1 c2 (fun h3 => ?_) (fun h3 => ?_)
  · have v := v1 h3; clear v1 v2
    show TZ d 214 24 [some (.inr 100), some (.inl x1), some (.inl x2), some (.inl x3)] [] Z (zri Q)
    refine z0 (op := 3) (a := 2) (b := 0) (by rfl) (by rfl) (?_ : TZ d 214 25 [some (.inr 100), some (.inl x1), some (.inl x2), some (.inl x3)] [.inl x2] Z (zri Q))
    exact z_reti (by rfl) (by rfl) v
  · have v := v2 h3; clear v1 v2
    show TZ d 214 9 [some (.inr 100), some (.inl x1), some (.inl x2), some (.inl x3)] [] Z (zri Q)
    refine z0 (op := 3) (a := 2) (b := 0) (by rfl) (by rfl) (?_ : TZ d 214 10 [some (.inr 100), some (.inl x1), some (.inl x2), some (.inl x3)] [.inl x2] Z (zri Q))
    refine z0 (op := 5) (a := 0) (b := 0) (by rfl) (by rfl) (?_ : TZ d 214 11 [some (.inr 100), some (.inl x1), some (.inl x2), some (.inl x3)] [.inr 100, .inl x2] Z (zri Q))
    refine z_fr (by rfl) fr101_100 (?_ : TZ d 214 14 [some (.inr 100), some (.inl x1), some (.inl x2), some (.inl x3)] [.inr 114, .inl x2] Z (zri Q))
    refine z0 (op := 3) (a := 3) (b := 0) (by rfl) (by rfl) (?_ : TZ d 214 15 [some (.inr 100), some (.inl x1), some (.inl x2), some (.inl x3)] [.inl x3, .inr 114, .inl x2] Z (zri Q))
    obtain ⟨c4, v⟩ := v
    refine z_al (by rfl) ln_114 c4 (?_ : TZ d 214 16 [some (.inr 100), some (.inl x1), some (.inl x2), some (.inl x3)] [.inl (Z 114 x3), .inl x2] Z (zri Q))
    refine z0 (op := 12) (a := 0) (b := 0) (by rfl) (by rfl) (?_ : TZ d 214 17 [some (.inr 100), some (.inl x1), some (.inl x2), some (.inl x3)] [.inl (x2 + (Z 114 x3))] Z (zri Q))
    refine z0 (op := 7) (a := 2) (b := 0) (by rfl) (by rfl) (?_ : TZ d 214 18 [some (.inr 100), some (.inl x1), some (.inl (x2 + (Z 114 x3))), some (.inl x3)] [] Z (zri Q))
    refine z0 (op := 11) (a := 3) (b := 1) (by rfl) (by rfl) (?_ : TZ d 214 21 [some (.inr 100), some (.inl x1), some (.inl (x2 + (Z 114 x3))), some (.inl (x3 + 1))] [] Z (zri Q))
    refine z_goto (t := 4) (by rfl) (by rfl) (?_ : TZ d 214 4 [some (.inr 100), some (.inl x1), some (.inl (x2 + (Z 114 x3))), some (.inl (x3 + 1))] [] Z (zri Q))
    exact v
theorem w215_0 {d : Nat} {x0 x1 x2 : Int} {Z : zM} {Q : Int → zM → Prop}
    (v : zR x0 ∧
      (x0 ≠ 0 → (zR x0 ∧
          (x0 ≠ 1 → Q x2 Z) ∧
          (¬ x0 ≠ 1 → Q x1 Z))) ∧
      (¬ x0 ≠ 0 → (zR x1 ∧
          (x1 ≠ 0 → Q 0 Z) ∧
          (¬ x1 ≠ 0 → Q 1 Z)))) :
    TZ d 215 0 [some (.inl x0), some (.inl x1), some (.inl x2)] [] Z (zri Q) := by
  refine z0 (op := 3) (a := 0) (b := 0) (by rfl) (by rfl) (?_ : TZ d 215 1 [some (.inl x0), some (.inl x1), some (.inl x2)] [.inl x0] Z (zri Q))
  obtain ⟨c1, v1, v2⟩ := v
  refine z_if0 (a := 1) (t := 16) (by rfl) (by rfl) c1 (fun h2 => ?_) (fun h2 => ?_)
  · have v := v1 h2; clear v1 v2
    show TZ d 215 16 [some (.inl x0), some (.inl x1), some (.inl x2)] [] Z (zri Q)
    refine z0 (op := 3) (a := 0) (b := 0) (by rfl) (by rfl) (?_ : TZ d 215 17 [some (.inl x0), some (.inl x1), some (.inl x2)] [.inl x0] Z (zri Q))
    refine z0 (op := 0) (a := 0) (b := 1) (by rfl) (by rfl) (?_ : TZ d 215 18 [some (.inl x0), some (.inl x1), some (.inl x2)] [.inl 1, .inl x0] Z (zri Q))
    obtain ⟨c3, v1, v2⟩ := v
    refine z_if2 (a := 1) (t := 25) (by rfl) (by rfl) c3 (by decide) (fun h4 => ?_) (fun h4 => ?_)
    · have v := v1 h4; clear v1 v2
      show TZ d 215 25 [some (.inl x0), some (.inl x1), some (.inl x2)] [] Z (zri Q)
      refine z0 (op := 3) (a := 2) (b := 0) (by rfl) (by rfl) (?_ : TZ d 215 26 [some (.inl x0), some (.inl x1), some (.inl x2)] [.inl x2] Z (zri Q))
      exact z_reti (by rfl) (by rfl) v
    · have v := v2 h4; clear v1 v2
      show TZ d 215 21 [some (.inl x0), some (.inl x1), some (.inl x2)] [] Z (zri Q)
      refine z0 (op := 3) (a := 1) (b := 0) (by rfl) (by rfl) (?_ : TZ d 215 22 [some (.inl x0), some (.inl x1), some (.inl x2)] [.inl x1] Z (zri Q))
      refine z_goto (t := 26) (by rfl) (by rfl) (?_ : TZ d 215 26 [some (.inl x0), some (.inl x1), some (.inl x2)] [.inl x1] Z (zri Q))
      exact z_reti (by rfl) (by rfl) v
  · have v := v2 h2; clear v1 v2
    show TZ d 215 4 [some (.inl x0), some (.inl x1), some (.inl x2)] [] Z (zri Q)
    refine z0 (op := 3) (a := 1) (b := 0) (by rfl) (by rfl) (?_ : TZ d 215 5 [some (.inl x0), some (.inl x1), some (.inl x2)] [.inl x1] Z (zri Q))
    obtain ⟨c5, v1, v2⟩ := v
    refine z_if0 (a := 1) (t := 12) (by rfl) (by rfl) c5 (fun h6 => ?_) (fun h6 => ?_)
    · have v := v1 h6; clear v1 v2
      show TZ d 215 12 [some (.inl x0), some (.inl x1), some (.inl x2)] [] Z (zri Q)
      refine z0 (op := 0) (a := 0) (b := 0) (by rfl) (by rfl) (?_ : TZ d 215 13 [some (.inl x0), some (.inl x1), some (.inl x2)] [.inl 0] Z (zri Q))
      refine z_goto (t := 26) (by rfl) (by rfl) (?_ : TZ d 215 26 [some (.inl x0), some (.inl x1), some (.inl x2)] [.inl 0] Z (zri Q))
      exact z_reti (by rfl) (by rfl) v
    · have v := v2 h6; clear v1 v2
      show TZ d 215 8 [some (.inl x0), some (.inl x1), some (.inl x2)] [] Z (zri Q)
      refine z0 (op := 0) (a := 0) (b := 1) (by rfl) (by rfl) (?_ : TZ d 215 9 [some (.inl x0), some (.inl x1), some (.inl x2)] [.inl 1] Z (zri Q))
      refine z_goto (t := 26) (by rfl) (by rfl) (?_ : TZ d 215 26 [some (.inl x0), some (.inl x1), some (.inl x2)] [.inl 1] Z (zri Q))
      exact z_reti (by rfl) (by rfl) v
theorem w216_0 {d : Nat} {Z : zM} {Q : Int → zM → Prop}
    (v : TZ d 216 4 [some (.inr 100), some (.inl 0), some (.inl 0)] [] Z (zri Q)) :
    TZ d 216 0 [some (.inr 100), none, none] [] Z (zri Q) := by
  refine z0 (op := 0) (a := 0) (b := 0) (by rfl) (by rfl) (?_ : TZ d 216 1 [some (.inr 100), none, none] [.inl 0] Z (zri Q))
  refine z0 (op := 7) (a := 1) (b := 0) (by rfl) (by rfl) (?_ : TZ d 216 2 [some (.inr 100), some (.inl 0), none] [] Z (zri Q))
  refine z0 (op := 0) (a := 0) (b := 0) (by rfl) (by rfl) (?_ : TZ d 216 3 [some (.inr 100), some (.inl 0), none] [.inl 0] Z (zri Q))
  refine z0 (op := 7) (a := 2) (b := 0) (by rfl) (by rfl) (?_ : TZ d 216 4 [some (.inr 100), some (.inl 0), some (.inl 0)] [] Z (zri Q))
  exact v
theorem w216_4 {d : Nat} {x1 x2 : Int} {Z : zM} {Q : Int → zM → Prop}
    (v : zR x2 ∧
      zR (Z 100 5) ∧
      ((Z 100 5) ≤ x2 → Q x1 Z) ∧
      (¬ (Z 100 5) ≤ x2 → ((0 ≤ x2 ∧ x2 < 8) ∧
          zR (Z 105 x2) ∧
          (0 ≤ (Z 105 x2) → ((0 ≤ x2 ∧ x2 < 8) ∧ TZ d 216 4 [some (.inr 100), some (.inl (zbit 4 x1 (zbit 6 1 (Z 105 x2)))), some (.inl (x2 + 1))] [] Z (zri Q))) ∧
          (¬ 0 ≤ (Z 105 x2) → TZ d 216 4 [some (.inr 100), some (.inl (zbit 4 x1 0)), some (.inl (x2 + 1))] [] Z (zri Q))))) :
    TZ d 216 4 [some (.inr 100), some (.inl x1), some (.inl x2)] [] Z (zri Q) := by
  refine z0 (op := 3) (a := 2) (b := 0) (by rfl) (by rfl) (?_ : TZ d 216 5 [some (.inr 100), some (.inl x1), some (.inl x2)] [.inl x2] Z (zri Q))
  refine z0 (op := 5) (a := 0) (b := 0) (by rfl) (by rfl) (?_ : TZ d 216 6 [some (.inr 100), some (.inl x1), some (.inl x2)] [.inr 100, .inl x2] Z (zri Q))
  refine z_fi (by rfl) fi111_100 (?_ : TZ d 216 9 [some (.inr 100), some (.inl x1), some (.inl x2)] [.inl (Z 100 5), .inl x2] Z (zri Q))
  obtain ⟨c1, c2, v1, v2⟩ := v
  refine z_if2 (a := 3) (t := 42) (by rfl) (by rfl) c1 c2 (fun h3 => ?_) (fun h3 => ?_)
  · have v := v1 h3; clear v1 v2
    show TZ d 216 42 [some (.inr 100), some (.inl x1), some (.inl x2)] [] Z (zri Q)
    refine z0 (op := 3) (a := 1) (b := 0) (by rfl) (by rfl) (?_ : TZ d 216 43 [some (.inr 100), some (.inl x1), some (.inl x2)] [.inl x1] Z (zri Q))
    exact z_reti (by rfl) (by rfl) v
  · have v := v2 h3; clear v1 v2
    show TZ d 216 12 [some (.inr 100), some (.inl x1), some (.inl x2)] [] Z (zri Q)
    refine z0 (op := 3) (a := 1) (b := 0) (by rfl) (by rfl) (?_ : TZ d 216 13 [some (.inr 100), some (.inl x1), some (.inl x2)] [.inl x1] Z (zri Q))
    refine z0 (op := 5) (a := 0) (b := 0) (by rfl) (by rfl) (?_ : TZ d 216 14 [some (.inr 100), some (.inl x1), some (.inl x2)] [.inr 100, .inl x1] Z (zri Q))
    refine z_fr (by rfl) fr92_100 (?_ : TZ d 216 17 [some (.inr 100), some (.inl x1), some (.inl x2)] [.inr 105, .inl x1] Z (zri Q))
    refine z0 (op := 3) (a := 2) (b := 0) (by rfl) (by rfl) (?_ : TZ d 216 18 [some (.inr 100), some (.inl x1), some (.inl x2)] [.inl x2, .inr 105, .inl x1] Z (zri Q))
    obtain ⟨c4, v⟩ := v
    refine z_al (by rfl) ln_105 c4 (?_ : TZ d 216 19 [some (.inr 100), some (.inl x1), some (.inl x2)] [.inl (Z 105 x2), .inl x1] Z (zri Q))
    obtain ⟨c5, v1, v2⟩ := v
    refine z_if0 (a := 3) (t := 26) (by rfl) (by rfl) c5 (fun h6 => ?_) (fun h6 => ?_)
    · have v := v1 h6; clear v1 v2
      show TZ d 216 26 [some (.inr 100), some (.inl x1), some (.inl x2)] [.inl x1] Z (zri Q)
      refine z0 (op := 0) (a := 0) (b := 1) (by rfl) (by rfl) (?_ : TZ d 216 27 [some (.inr 100), some (.inl x1), some (.inl x2)] [.inl 1, .inl x1] Z (zri Q))
      refine z0 (op := 5) (a := 0) (b := 0) (by rfl) (by rfl) (?_ : TZ d 216 28 [some (.inr 100), some (.inl x1), some (.inl x2)] [.inr 100, .inl 1, .inl x1] Z (zri Q))
      refine z_fr (by rfl) fr92_100 (?_ : TZ d 216 31 [some (.inr 100), some (.inl x1), some (.inl x2)] [.inr 105, .inl 1, .inl x1] Z (zri Q))
      refine z0 (op := 3) (a := 2) (b := 0) (by rfl) (by rfl) (?_ : TZ d 216 32 [some (.inr 100), some (.inl x1), some (.inl x2)] [.inl x2, .inr 105, .inl 1, .inl x1] Z (zri Q))
      obtain ⟨c7, v⟩ := v
      refine z_al (by rfl) ln_105 c7 (?_ : TZ d 216 33 [some (.inr 100), some (.inl x1), some (.inl x2)] [.inl (Z 105 x2), .inl 1, .inl x1] Z (zri Q))
      refine z0 (op := 12) (a := 6) (b := 0) (by rfl) (by rfl) (?_ : TZ d 216 34 [some (.inr 100), some (.inl x1), some (.inl x2)] [.inl (zbit 6 1 (Z 105 x2)), .inl x1] Z (zri Q))
      refine z0 (op := 12) (a := 4) (b := 0) (by rfl) (by rfl) (?_ : TZ d 216 35 [some (.inr 100), some (.inl x1), some (.inl x2)] [.inl (zbit 4 x1 (zbit 6 1 (Z 105 x2)))] Z (zri Q))
      refine z0 (op := 7) (a := 1) (b := 0) (by rfl) (by rfl) (?_ : TZ d 216 36 [some (.inr 100), some (.inl (zbit 4 x1 (zbit 6 1 (Z 105 x2)))), some (.inl x2)] [] Z (zri Q))
      refine z0 (op := 11) (a := 2) (b := 1) (by rfl) (by rfl) (?_ : TZ d 216 39 [some (.inr 100), some (.inl (zbit 4 x1 (zbit 6 1 (Z 105 x2)))), some (.inl (x2 + 1))] [] Z (zri Q))
      refine z_goto (t := 4) (by rfl) (by rfl) (?_ : TZ d 216 4 [some (.inr 100), some (.inl (zbit 4 x1 (zbit 6 1 (Z 105 x2)))), some (.inl (x2 + 1))] [] Z (zri Q))
      exact v
    · have v := v2 h6; clear v1 v2
      show TZ d 216 22 [some (.inr 100), some (.inl x1), some (.inl x2)] [.inl x1] Z (zri Q)
      refine z0 (op := 0) (a := 0) (b := 0) (by rfl) (by rfl) (?_ : TZ d 216 23 [some (.inr 100), some (.inl x1), some (.inl x2)] [.inl 0, .inl x1] Z (zri Q))
      refine z_goto (t := 34) (by rfl) (by rfl) (?_ : TZ d 216 34 [some (.inr 100), some (.inl x1), some (.inl x2)] [.inl 0, .inl x1] Z (zri Q))
      refine z0 (op := 12) (a := 4) (b := 0) (by rfl) (by rfl) (?_ : TZ d 216 35 [some (.inr 100), some (.inl x1), some (.inl x2)] [.inl (zbit 4 x1 0)] Z (zri Q))
      refine z0 (op := 7) (a := 1) (b := 0) (by rfl) (by rfl) (?_ : TZ d 216 36 [some (.inr 100), some (.inl (zbit 4 x1 0)), some (.inl x2)] [] Z (zri Q))
      refine z0 (op := 11) (a := 2) (b := 1) (by rfl) (by rfl) (?_ : TZ d 216 39 [some (.inr 100), some (.inl (zbit 4 x1 0)), some (.inl (x2 + 1))] [] Z (zri Q))
      refine z_goto (t := 4) (by rfl) (by rfl) (?_ : TZ d 216 4 [some (.inr 100), some (.inl (zbit 4 x1 0)), some (.inl (x2 + 1))] [] Z (zri Q))
      exact v
theorem w217_0 {d : Nat} {x1 x2 : Int} {Z : zM} {Q : Int → zM → Prop}
    (v : TV d 179 [.inr 100] Z (fun Z1 =>
      TZ (d + 1) 217 9 [some (.inr 100), some (.inl x1), some (.inl x2), some (.inl 1), some (.inl 0)] [] Z1 (zri Q))) :
    TZ (d + 1) 217 0 [some (.inr 100), some (.inl x1), some (.inl x2), none, none] [] Z (zri Q) := by
  refine z0 (op := 5) (a := 0) (b := 0) (by rfl) (by rfl) (?_ : TZ (d + 1) 217 1 [some (.inr 100), some (.inl x1), some (.inl x2), none, none] [.inr 100] Z (zri Q))
  refine z_vv (by rfl) (by rfl) cl_100 (TV.mono v fun Z1 v => ?_)
  show TZ (d + 1) 217 4 [some (.inr 100), some (.inl x1), some (.inl x2), none, none] [] Z1 (zri Q)
  refine z0 (op := 0) (a := 0) (b := 1) (by rfl) (by rfl) (?_ : TZ (d + 1) 217 5 [some (.inr 100), some (.inl x1), some (.inl x2), none, none] [.inl 1] Z1 (zri Q))
  refine z0 (op := 7) (a := 3) (b := 0) (by rfl) (by rfl) (?_ : TZ (d + 1) 217 6 [some (.inr 100), some (.inl x1), some (.inl x2), some (.inl 1), none] [] Z1 (zri Q))
  refine z0 (op := 0) (a := 0) (b := 0) (by rfl) (by rfl) (?_ : TZ (d + 1) 217 7 [some (.inr 100), some (.inl x1), some (.inl x2), some (.inl 1), none] [.inl 0] Z1 (zri Q))
  refine z0 (op := 8) (a := 4) (b := 0) (by rfl) (by rfl) (?_ : TZ (d + 1) 217 9 [some (.inr 100), some (.inl x1), some (.inl x2), some (.inl 1), some (.inl 0)] [] Z1 (zri Q))
  exact v
theorem w217_9 {d : Nat} {x1 x2 x3 x4 : Int} {Z : zM} {Q : Int → zM → Prop}
    (v : zR x4 ∧
      zR x2 ∧
      (x2 ≤ x4 → TV d 180 [.inr 100] Z (fun Z4 =>
          (x3 = 0 ∨ x3 = 1) ∧ Q x3 Z4)) ∧
      (¬ x2 ≤ x4 → (zR x3 ∧
          (x3 = 0 → TV d 180 [.inr 100] Z (fun Z8 =>
              (x3 = 0 ∨ x3 = 1) ∧ Q x3 Z8)) ∧
          (¬ x3 = 0 → ((0 ≤ x4 ∧ x4 < 4) ∧
              TI d 188 [.inr 100, .inl ((Z 114 x4) - 1)] Z (fun r12 Z11 =>
              TI d 162 [.inr 100] Z11 (fun r14 Z13 =>
                TI d 216 [.inr 100] Z13 (fun r16 Z15 =>
                  TI d 215 [.inl x1, .inl r14, .inl r16] Z15 (fun r18 Z17 =>
                    zR x1 ∧
                      (x1 ≠ 0 → ((0 ≤ x4 ∧ x4 < 12) ∧
                          zR r18 ∧
                          zR (Z17 116 x4) ∧
                          (r18 ≠ (Z17 116 x4) → TZ (d + 1) 217 9 [some (.inr 100), some (.inl x1), some (.inl x2), some (.inl 0), some (.inl (x4 + 1))] [] Z17 (zri Q)) ∧
                          (¬ r18 ≠ (Z17 116 x4) → TZ (d + 1) 217 9 [some (.inr 100), some (.inl x1), some (.inl x2), some (.inl 1), some (.inl (x4 + 1))] [] Z17 (zri Q)))) ∧
                      (¬ x1 ≠ 0 → (zR r18 ∧
                          (r18 ≠ 1 → TZ (d + 1) 217 9 [some (.inr 100), some (.inl x1), some (.inl x2), some (.inl 0), some (.inl (x4 + 1))] [] Z17 (zri Q)) ∧
                          (¬ r18 ≠ 1 → TZ (d + 1) 217 9 [some (.inr 100), some (.inl x1), some (.inl x2), some (.inl 1), some (.inl (x4 + 1))] [] Z17 (zri Q))))))))))))) :
    TZ (d + 1) 217 9 [some (.inr 100), some (.inl x1), some (.inl x2), some (.inl x3), some (.inl x4)] [] Z (zri Q) := by
  refine z0 (op := 4) (a := 4) (b := 0) (by rfl) (by rfl) (?_ : TZ (d + 1) 217 11 [some (.inr 100), some (.inl x1), some (.inl x2), some (.inl x3), some (.inl x4)] [.inl x4] Z (zri Q))
  refine z0 (op := 3) (a := 2) (b := 0) (by rfl) (by rfl) (?_ : TZ (d + 1) 217 12 [some (.inr 100), some (.inl x1), some (.inl x2), some (.inl x3), some (.inl x4)] [.inl x2, .inl x4] Z (zri Q))
  obtain ⟨c1, c2, v1, v2⟩ := v
  refine z_if2 (a := 3) (t := 75) (by rfl) (by rfl) c1 c2 (fun h3 => ?_) (fun h3 => ?_)
  · have v := v1 h3; clear v1 v2
    show TZ (d + 1) 217 75 [some (.inr 100), some (.inl x1), some (.inl x2), some (.inl x3), some (.inl x4)] [] Z (zri Q)
    refine z0 (op := 5) (a := 0) (b := 0) (by rfl) (by rfl) (?_ : TZ (d + 1) 217 76 [some (.inr 100), some (.inl x1), some (.inl x2), some (.inl x3), some (.inl x4)] [.inr 100] Z (zri Q))
    refine z_vv (by rfl) (by rfl) cl_100 (TV.mono v fun Z4 v => ?_)
    show TZ (d + 1) 217 79 [some (.inr 100), some (.inl x1), some (.inl x2), some (.inl x3), some (.inl x4)] [] Z4 (zri Q)
    refine z0 (op := 3) (a := 3) (b := 0) (by rfl) (by rfl) (?_ : TZ (d + 1) 217 80 [some (.inr 100), some (.inl x1), some (.inl x2), some (.inl x3), some (.inl x4)] [.inl x3] Z4 (zri Q))
    obtain ⟨c5, v⟩ := v
    exact z_retb (by rfl) (by rfl) c5 v
  · have v := v2 h3; clear v1 v2
    show TZ (d + 1) 217 15 [some (.inr 100), some (.inl x1), some (.inl x2), some (.inl x3), some (.inl x4)] [] Z (zri Q)
    refine z0 (op := 3) (a := 3) (b := 0) (by rfl) (by rfl) (?_ : TZ (d + 1) 217 16 [some (.inr 100), some (.inl x1), some (.inl x2), some (.inl x3), some (.inl x4)] [.inl x3] Z (zri Q))
    obtain ⟨c6, v1, v2⟩ := v
    refine z_if0 (a := 0) (t := 75) (by rfl) (by rfl) c6 (fun h7 => ?_) (fun h7 => ?_)
    · have v := v1 h7; clear v1 v2
      show TZ (d + 1) 217 75 [some (.inr 100), some (.inl x1), some (.inl x2), some (.inl x3), some (.inl x4)] [] Z (zri Q)
      refine z0 (op := 5) (a := 0) (b := 0) (by rfl) (by rfl) (?_ : TZ (d + 1) 217 76 [some (.inr 100), some (.inl x1), some (.inl x2), some (.inl x3), some (.inl x4)] [.inr 100] Z (zri Q))
      refine z_vv (by rfl) (by rfl) cl_100 (TV.mono v fun Z8 v => ?_)
      show TZ (d + 1) 217 79 [some (.inr 100), some (.inl x1), some (.inl x2), some (.inl x3), some (.inl x4)] [] Z8 (zri Q)
      refine z0 (op := 3) (a := 3) (b := 0) (by rfl) (by rfl) (?_ : TZ (d + 1) 217 80 [some (.inr 100), some (.inl x1), some (.inl x2), some (.inl x3), some (.inl x4)] [.inl x3] Z8 (zri Q))
      obtain ⟨c9, v⟩ := v
      exact z_retb (by rfl) (by rfl) c9 v
    · have v := v2 h7; clear v1 v2
      show TZ (d + 1) 217 19 [some (.inr 100), some (.inl x1), some (.inl x2), some (.inl x3), some (.inl x4)] [] Z (zri Q)
      refine z0 (op := 5) (a := 0) (b := 0) (by rfl) (by rfl) (?_ : TZ (d + 1) 217 20 [some (.inr 100), some (.inl x1), some (.inl x2), some (.inl x3), some (.inl x4)] [.inr 100] Z (zri Q))
      refine z0 (op := 5) (a := 0) (b := 0) (by rfl) (by rfl) (?_ : TZ (d + 1) 217 21 [some (.inr 100), some (.inl x1), some (.inl x2), some (.inl x3), some (.inl x4)] [.inr 100, .inr 100] Z (zri Q))
      refine z_fr (by rfl) fr101_100 (?_ : TZ (d + 1) 217 24 [some (.inr 100), some (.inl x1), some (.inl x2), some (.inl x3), some (.inl x4)] [.inr 114, .inr 100] Z (zri Q))
      refine z0 (op := 4) (a := 4) (b := 0) (by rfl) (by rfl) (?_ : TZ (d + 1) 217 26 [some (.inr 100), some (.inl x1), some (.inl x2), some (.inl x3), some (.inl x4)] [.inl x4, .inr 114, .inr 100] Z (zri Q))
      obtain ⟨c10, v⟩ := v
      refine z_al (by rfl) ln_114 c10 (?_ : TZ (d + 1) 217 27 [some (.inr 100), some (.inl x1), some (.inl x2), some (.inl x3), some (.inl x4)] [.inl (Z 114 x4), .inr 100] Z (zri Q))
      refine z0 (op := 0) (a := 0) (b := 1) (by rfl) (by rfl) (?_ : TZ (d + 1) 217 28 [some (.inr 100), some (.inl x1), some (.inl x2), some (.inl x3), some (.inl x4)] [.inl 1, .inl (Z 114 x4), .inr 100] Z (zri Q))
      refine z0 (op := 12) (a := 1) (b := 0) (by rfl) (by rfl) (?_ : TZ (d + 1) 217 29 [some (.inr 100), some (.inl x1), some (.inl x2), some (.inl x3), some (.inl x4)] [.inl ((Z 114 x4) - 1), .inr 100] Z (zri Q))
      refine z_vi (by rfl) (by rfl) cl_100 (TI.mono v fun r12 Z11 v => ?_)
      show TZ (d + 1) 217 32 [some (.inr 100), some (.inl x1), some (.inl x2), some (.inl x3), some (.inl x4)] [.inl r12] Z11 (zri Q)
      refine z0 (op := 14) (a := 0) (b := 0) (by rfl) (by rfl) (?_ : TZ (d + 1) 217 33 [some (.inr 100), some (.inl x1), some (.inl x2), some (.inl x3), some (.inl x4)] [] Z11 (zri Q))
      refine z0 (op := 3) (a := 1) (b := 0) (by rfl) (by rfl) (?_ : TZ (d + 1) 217 34 [some (.inr 100), some (.inl x1), some (.inl x2), some (.inl x3), some (.inl x4)] [.inl x1] Z11 (zri Q))
      refine z0 (op := 5) (a := 0) (b := 0) (by rfl) (by rfl) (?_ : TZ (d + 1) 217 35 [some (.inr 100), some (.inl x1), some (.inl x2), some (.inl x3), some (.inl x4)] [.inr 100, .inl x1] Z11 (zri Q))
      refine z_vi (by rfl) (by rfl) cl_100 (TI.mono v fun r14 Z13 v => ?_)
      show TZ (d + 1) 217 38 [some (.inr 100), some (.inl x1), some (.inl x2), some (.inl x3), some (.inl x4)] [.inl r14, .inl x1] Z13 (zri Q)
      refine z0 (op := 5) (a := 0) (b := 0) (by rfl) (by rfl) (?_ : TZ (d + 1) 217 39 [some (.inr 100), some (.inl x1), some (.inl x2), some (.inl x3), some (.inl x4)] [.inr 100, .inl r14, .inl x1] Z13 (zri Q))
      refine z_vi (by rfl) (by rfl) cl_100 (TI.mono v fun r16 Z15 v => ?_)
      show TZ (d + 1) 217 42 [some (.inr 100), some (.inl x1), some (.inl x2), some (.inl x3), some (.inl x4)] [.inl r16, .inl r14, .inl x1] Z15 (zri Q)
      refine z_si (by rfl) (by rfl) (TI.mono v fun r18 Z17 v => ?_)
      show TZ (d + 1) 217 45 [some (.inr 100), some (.inl x1), some (.inl x2), some (.inl x3), some (.inl x4)] [.inl r18] Z17 (zri Q)
      refine z0 (op := 3) (a := 1) (b := 0) (by rfl) (by rfl) (?_ : TZ (d + 1) 217 46 [some (.inr 100), some (.inl x1), some (.inl x2), some (.inl x3), some (.inl x4)] [.inl x1, .inl r18] Z17 (zri Q))
      obtain ⟨c19, v1, v2⟩ := v
      refine z_if0 (a := 1) (t := 53) (by rfl) (by rfl) c19 (fun h20 => ?_) (fun h20 => ?_)
      · have v := v1 h20; clear v1 v2
        show TZ (d + 1) 217 53 [some (.inr 100), some (.inl x1), some (.inl x2), some (.inl x3), some (.inl x4)] [.inl r18] Z17 (zri Q)
        refine z0 (op := 5) (a := 0) (b := 0) (by rfl) (by rfl) (?_ : TZ (d + 1) 217 54 [some (.inr 100), some (.inl x1), some (.inl x2), some (.inl x3), some (.inl x4)] [.inr 100, .inl r18] Z17 (zri Q))
        refine z_fr (by rfl) fr103_100 (?_ : TZ (d + 1) 217 57 [some (.inr 100), some (.inl x1), some (.inl x2), some (.inl x3), some (.inl x4)] [.inr 116, .inl r18] Z17 (zri Q))
        refine z0 (op := 4) (a := 4) (b := 0) (by rfl) (by rfl) (?_ : TZ (d + 1) 217 59 [some (.inr 100), some (.inl x1), some (.inl x2), some (.inl x3), some (.inl x4)] [.inl x4, .inr 116, .inl r18] Z17 (zri Q))
        obtain ⟨c21, v⟩ := v
        refine z_al (by rfl) ln_116 c21 (?_ : TZ (d + 1) 217 60 [some (.inr 100), some (.inl x1), some (.inl x2), some (.inl x3), some (.inl x4)] [.inl (Z17 116 x4), .inl r18] Z17 (zri Q))
        obtain ⟨c22, c23, v1, v2⟩ := v
        refine z_if2 (a := 1) (t := 67) (by rfl) (by rfl) c22 c23 (fun h24 => ?_) (fun h24 => ?_)
        · have v := v1 h24; clear v1 v2
          show TZ (d + 1) 217 67 [some (.inr 100), some (.inl x1), some (.inl x2), some (.inl x3), some (.inl x4)] [] Z17 (zri Q)
          refine z0 (op := 0) (a := 0) (b := 0) (by rfl) (by rfl) (?_ : TZ (d + 1) 217 68 [some (.inr 100), some (.inl x1), some (.inl x2), some (.inl x3), some (.inl x4)] [.inl 0] Z17 (zri Q))
          refine z0 (op := 7) (a := 3) (b := 0) (by rfl) (by rfl) (?_ : TZ (d + 1) 217 69 [some (.inr 100), some (.inl x1), some (.inl x2), some (.inl 0), some (.inl x4)] [] Z17 (zri Q))
          refine z0 (op := 11) (a := 4) (b := 1) (by rfl) (by rfl) (?_ : TZ (d + 1) 217 72 [some (.inr 100), some (.inl x1), some (.inl x2), some (.inl 0), some (.inl (x4 + 1))] [] Z17 (zri Q))
          refine z_goto (t := 9) (by rfl) (by rfl) (?_ : TZ (d + 1) 217 9 [some (.inr 100), some (.inl x1), some (.inl x2), some (.inl 0), some (.inl (x4 + 1))] [] Z17 (zri Q))
          exact v
        · have v := v2 h24; clear v1 v2
          show TZ (d + 1) 217 63 [some (.inr 100), some (.inl x1), some (.inl x2), some (.inl x3), some (.inl x4)] [] Z17 (zri Q)
          refine z0 (op := 0) (a := 0) (b := 1) (by rfl) (by rfl) (?_ : TZ (d + 1) 217 64 [some (.inr 100), some (.inl x1), some (.inl x2), some (.inl x3), some (.inl x4)] [.inl 1] Z17 (zri Q))
          refine z_goto (t := 68) (by rfl) (by rfl) (?_ : TZ (d + 1) 217 68 [some (.inr 100), some (.inl x1), some (.inl x2), some (.inl x3), some (.inl x4)] [.inl 1] Z17 (zri Q))
          refine z0 (op := 7) (a := 3) (b := 0) (by rfl) (by rfl) (?_ : TZ (d + 1) 217 69 [some (.inr 100), some (.inl x1), some (.inl x2), some (.inl 1), some (.inl x4)] [] Z17 (zri Q))
          refine z0 (op := 11) (a := 4) (b := 1) (by rfl) (by rfl) (?_ : TZ (d + 1) 217 72 [some (.inr 100), some (.inl x1), some (.inl x2), some (.inl 1), some (.inl (x4 + 1))] [] Z17 (zri Q))
          refine z_goto (t := 9) (by rfl) (by rfl) (?_ : TZ (d + 1) 217 9 [some (.inr 100), some (.inl x1), some (.inl x2), some (.inl 1), some (.inl (x4 + 1))] [] Z17 (zri Q))
          exact v
      · have v := v2 h20; clear v1 v2
        show TZ (d + 1) 217 49 [some (.inr 100), some (.inl x1), some (.inl x2), some (.inl x3), some (.inl x4)] [.inl r18] Z17 (zri Q)
        refine z0 (op := 0) (a := 0) (b := 1) (by rfl) (by rfl) (?_ : TZ (d + 1) 217 50 [some (.inr 100), some (.inl x1), some (.inl x2), some (.inl x3), some (.inl x4)] [.inl 1, .inl r18] Z17 (zri Q))
        refine z_goto (t := 60) (by rfl) (by rfl) (?_ : TZ (d + 1) 217 60 [some (.inr 100), some (.inl x1), some (.inl x2), some (.inl x3), some (.inl x4)] [.inl 1, .inl r18] Z17 (zri Q))
        obtain ⟨c25, v1, v2⟩ := v
        refine z_if2 (a := 1) (t := 67) (by rfl) (by rfl) c25 (by decide) (fun h26 => ?_) (fun h26 => ?_)
        · have v := v1 h26; clear v1 v2
          show TZ (d + 1) 217 67 [some (.inr 100), some (.inl x1), some (.inl x2), some (.inl x3), some (.inl x4)] [] Z17 (zri Q)
          refine z0 (op := 0) (a := 0) (b := 0) (by rfl) (by rfl) (?_ : TZ (d + 1) 217 68 [some (.inr 100), some (.inl x1), some (.inl x2), some (.inl x3), some (.inl x4)] [.inl 0] Z17 (zri Q))
          refine z0 (op := 7) (a := 3) (b := 0) (by rfl) (by rfl) (?_ : TZ (d + 1) 217 69 [some (.inr 100), some (.inl x1), some (.inl x2), some (.inl 0), some (.inl x4)] [] Z17 (zri Q))
          refine z0 (op := 11) (a := 4) (b := 1) (by rfl) (by rfl) (?_ : TZ (d + 1) 217 72 [some (.inr 100), some (.inl x1), some (.inl x2), some (.inl 0), some (.inl (x4 + 1))] [] Z17 (zri Q))
          refine z_goto (t := 9) (by rfl) (by rfl) (?_ : TZ (d + 1) 217 9 [some (.inr 100), some (.inl x1), some (.inl x2), some (.inl 0), some (.inl (x4 + 1))] [] Z17 (zri Q))
          exact v
        · have v := v2 h26; clear v1 v2
          show TZ (d + 1) 217 63 [some (.inr 100), some (.inl x1), some (.inl x2), some (.inl x3), some (.inl x4)] [] Z17 (zri Q)
          refine z0 (op := 0) (a := 0) (b := 1) (by rfl) (by rfl) (?_ : TZ (d + 1) 217 64 [some (.inr 100), some (.inl x1), some (.inl x2), some (.inl x3), some (.inl x4)] [.inl 1] Z17 (zri Q))
          refine z_goto (t := 68) (by rfl) (by rfl) (?_ : TZ (d + 1) 217 68 [some (.inr 100), some (.inl x1), some (.inl x2), some (.inl x3), some (.inl x4)] [.inl 1] Z17 (zri Q))
          refine z0 (op := 7) (a := 3) (b := 0) (by rfl) (by rfl) (?_ : TZ (d + 1) 217 69 [some (.inr 100), some (.inl x1), some (.inl x2), some (.inl 1), some (.inl x4)] [] Z17 (zri Q))
          refine z0 (op := 11) (a := 4) (b := 1) (by rfl) (by rfl) (?_ : TZ (d + 1) 217 72 [some (.inr 100), some (.inl x1), some (.inl x2), some (.inl 1), some (.inl (x4 + 1))] [] Z17 (zri Q))
          refine z_goto (t := 9) (by rfl) (by rfl) (?_ : TZ (d + 1) 217 9 [some (.inr 100), some (.inl x1), some (.inl x2), some (.inl 1), some (.inl (x4 + 1))] [] Z17 (zri Q))
          exact v
theorem w218_0 {d : Nat} {x1 : Int} {Z : zM} {Q : zM → Prop}
    (v : TZ d 218 2 [some (.inr 100), some (.inl x1), some (.inl 0)] [] Z (zrv Q)) :
    TZ d 218 0 [some (.inr 100), some (.inl x1), none] [] Z (zrv Q) := by
  refine z0 (op := 0) (a := 0) (b := 0) (by rfl) (by rfl) (?_ : TZ d 218 1 [some (.inr 100), some (.inl x1), none] [.inl 0] Z (zrv Q))
  refine z0 (op := 7) (a := 2) (b := 0) (by rfl) (by rfl) (?_ : TZ d 218 2 [some (.inr 100), some (.inl x1), some (.inl 0)] [] Z (zrv Q))
  exact v
theorem w218_2 {d : Nat} {x1 x2 : Int} {Z : zM} {Q : zM → Prop}
    (v : zR x2 ∧
      zR x1 ∧
      (x1 ≤ x2 → Q Z) ∧
      (¬ x1 ≤ x2 → ((0 ≤ x2 ∧ x2 < 4) ∧
          (0 ≤ x2 ∧ x2 < 4) ∧
          ∀ Z6, Z6 = zup Z 115 x2 (Z 114 x2) →
          TZ d 218 2 [some (.inr 100), some (.inl x1), some (.inl (x2 + 1))] [] Z6 (zrv Q)))) :
    TZ d 218 2 [some (.inr 100), some (.inl x1), some (.inl x2)] [] Z (zrv Q) := by
  refine z0 (op := 3) (a := 2) (b := 0) (by rfl) (by rfl) (?_ : TZ d 218 3 [some (.inr 100), some (.inl x1), some (.inl x2)] [.inl x2] Z (zrv Q))
  refine z0 (op := 3) (a := 1) (b := 0) (by rfl) (by rfl) (?_ : TZ d 218 4 [some (.inr 100), some (.inl x1), some (.inl x2)] [.inl x1, .inl x2] Z (zrv Q))
  obtain ⟨c1, c2, v1, v2⟩ := v
  refine z_if2 (a := 3) (t := 25) (by rfl) (by rfl) c1 c2 (fun h3 => ?_) (fun h3 => ?_)
  · have v := v1 h3; clear v1 v2
    show TZ d 218 25 [some (.inr 100), some (.inl x1), some (.inl x2)] [] Z (zrv Q)
    exact z_retv (by rfl) (by rfl) v
  · have v := v2 h3; clear v1 v2
    show TZ d 218 7 [some (.inr 100), some (.inl x1), some (.inl x2)] [] Z (zrv Q)
    refine z0 (op := 5) (a := 0) (b := 0) (by rfl) (by rfl) (?_ : TZ d 218 8 [some (.inr 100), some (.inl x1), some (.inl x2)] [.inr 100] Z (zrv Q))
    refine z_fr (by rfl) fr102_100 (?_ : TZ d 218 11 [some (.inr 100), some (.inl x1), some (.inl x2)] [.inr 115] Z (zrv Q))
    refine z0 (op := 3) (a := 2) (b := 0) (by rfl) (by rfl) (?_ : TZ d 218 12 [some (.inr 100), some (.inl x1), some (.inl x2)] [.inl x2, .inr 115] Z (zrv Q))
    refine z0 (op := 5) (a := 0) (b := 0) (by rfl) (by rfl) (?_ : TZ d 218 13 [some (.inr 100), some (.inl x1), some (.inl x2)] [.inr 100, .inl x2, .inr 115] Z (zrv Q))
    refine z_fr (by rfl) fr101_100 (?_ : TZ d 218 16 [some (.inr 100), some (.inl x1), some (.inl x2)] [.inr 114, .inl x2, .inr 115] Z (zrv Q))
    refine z0 (op := 3) (a := 2) (b := 0) (by rfl) (by rfl) (?_ : TZ d 218 17 [some (.inr 100), some (.inl x1), some (.inl x2)] [.inl x2, .inr 114, .inl x2, .inr 115] Z (zrv Q))
    obtain ⟨c4, v⟩ := v
    refine z_al (by rfl) ln_114 c4 (?_ : TZ d 218 18 [some (.inr 100), some (.inl x1), some (.inl x2)] [.inl (Z 114 x2), .inl x2, .inr 115] Z (zrv Q))
    obtain ⟨c5, v⟩ := v
    obtain ⟨Z6, eZ6⟩ : ∃ zz, zz = zup Z 115 x2 (Z 114 x2) := ⟨_, rfl⟩
    have v := v Z6 eZ6
    refine z_as (by rfl) ln_115 c5 ?_
    show TZ d 218 19 [some (.inr 100), some (.inl x1), some (.inl x2)] [] (zup Z 115 x2 (Z 114 x2)) _
    rw [← eZ6]
    refine z0 (op := 11) (a := 2) (b := 1) (by rfl) (by rfl) (?_ : TZ d 218 22 [some (.inr 100), some (.inl x1), some (.inl (x2 + 1))] [] Z6 (zrv Q))
    refine z_goto (t := 2) (by rfl) (by rfl) (?_ : TZ d 218 2 [some (.inr 100), some (.inl x1), some (.inl (x2 + 1))] [] Z6 (zrv Q))
    exact v
theorem w219_0 {d : Nat} {x1 x2 : Int} {Z : zM} {Q : Int → zM → Prop}
    (v : zR x1 ∧
      (x1 < 1 → TI d 154 [.inr 100, .inl (-4)] Z (fun r4 Z3 =>
          Q r4 Z3)) ∧
      (¬ x1 < 1 → (zR x2 ∧
          ((-1) ≤ x2 → (zR x1 ∧
              (x1 ≤ 4 → TZ (d + 1) 219 44 [some (.inr 100), some (.inl x1), some (.inl x2), some (.inl 0), some (.inl (-9)), some (.inl 0)] [] Z (zri Q)) ∧
              (¬ x1 ≤ 4 → TI d 154 [.inr 100, .inl (-6)] Z (fun r10 Z9 =>
                  Q r10 Z9)))) ∧
          (¬ (-1) ≤ x2 → TI d 154 [.inr 100, .inl (-4)] Z (fun r12 Z11 =>
              Q r12 Z11))))) :
    TZ (d + 1) 219 0 [some (.inr 100), some (.inl x1), some (.inl x2), none, none, none] [] Z (zri Q) := by
  refine z0 (op := 3) (a := 1) (b := 0) (by rfl) (by rfl) (?_ : TZ (d + 1) 219 1 [some (.inr 100), some (.inl x1), some (.inl x2), none, none, none] [.inl x1] Z (zri Q))
  refine z0 (op := 0) (a := 0) (b := 1) (by rfl) (by rfl) (?_ : TZ (d + 1) 219 2 [some (.inr 100), some (.inl x1), some (.inl x2), none, none, none] [.inl 1, .inl x1] Z (zri Q))
  obtain ⟨c1, v1, v2⟩ := v
  refine z_if2 (a := 2) (t := 10) (by rfl) (by rfl) c1 (by decide) (fun h2 => ?_) (fun h2 => ?_)
  · have v := v1 h2; clear v1 v2
    show TZ (d + 1) 219 10 [some (.inr 100), some (.inl x1), some (.inl x2), none, none, none] [] Z (zri Q)
    refine z0 (op := 1) (a := 0) (b := (-4)) (by rfl) (by rfl) (?_ : TZ (d + 1) 219 12 [some (.inr 100), some (.inl x1), some (.inl x2), none, none, none] [.inl (-4)] Z (zri Q))
    refine z_goto (t := 26) (by rfl) (by rfl) (?_ : TZ (d + 1) 219 26 [some (.inr 100), some (.inl x1), some (.inl x2), none, none, none] [.inl (-4)] Z (zri Q))
    refine z0 (op := 7) (a := 3) (b := 0) (by rfl) (by rfl) (?_ : TZ (d + 1) 219 27 [some (.inr 100), some (.inl x1), some (.inl x2), some (.inl (-4)), none, none] [] Z (zri Q))
    refine z0 (op := 3) (a := 3) (b := 0) (by rfl) (by rfl) (?_ : TZ (d + 1) 219 28 [some (.inr 100), some (.inl x1), some (.inl x2), some (.inl (-4)), none, none] [.inl (-4)] Z (zri Q))
    refine z_if0 (a := 0) (t := 37) (by rfl) (by rfl) (by decide) (fun h => absurd (show ((-4) : Int) = (0 : Int) from h) (by decide)) (fun _ => ?_)
    show TZ (d + 1) 219 31 [some (.inr 100), some (.inl x1), some (.inl x2), some (.inl (-4)), none, none] [] Z (zri Q)
    refine z0 (op := 5) (a := 0) (b := 0) (by rfl) (by rfl) (?_ : TZ (d + 1) 219 32 [some (.inr 100), some (.inl x1), some (.inl x2), some (.inl (-4)), none, none] [.inr 100] Z (zri Q))
    refine z0 (op := 3) (a := 3) (b := 0) (by rfl) (by rfl) (?_ : TZ (d + 1) 219 33 [some (.inr 100), some (.inl x1), some (.inl x2), some (.inl (-4)), none, none] [.inl (-4), .inr 100] Z (zri Q))
    refine z_vi (by rfl) (by rfl) cl_100 (TI.mono v fun r4 Z3 v => ?_)
    show TZ (d + 1) 219 36 [some (.inr 100), some (.inl x1), some (.inl x2), some (.inl (-4)), none, none] [.inl r4] Z3 (zri Q)
    exact z_reti (by rfl) (by rfl) v
  · have v := v2 h2; clear v1 v2
    show TZ (d + 1) 219 5 [some (.inr 100), some (.inl x1), some (.inl x2), none, none, none] [] Z (zri Q)
    refine z0 (op := 3) (a := 2) (b := 0) (by rfl) (by rfl) (?_ : TZ (d + 1) 219 6 [some (.inr 100), some (.inl x1), some (.inl x2), none, none, none] [.inl x2] Z (zri Q))
    refine z0 (op := 0) (a := 0) (b := (-1)) (by rfl) (by rfl) (?_ : TZ (d + 1) 219 7 [some (.inr 100), some (.inl x1), some (.inl x2), none, none, none] [.inl (-1), .inl x2] Z (zri Q))
    obtain ⟨c5, v1, v2⟩ := v
    refine z_if2 (a := 3) (t := 15) (by rfl) (by rfl) c5 (by decide) (fun h6 => ?_) (fun h6 => ?_)
    · have v := v1 h6; clear v1 v2
      show TZ (d + 1) 219 15 [some (.inr 100), some (.inl x1), some (.inl x2), none, none, none] [] Z (zri Q)
      refine z0 (op := 3) (a := 1) (b := 0) (by rfl) (by rfl) (?_ : TZ (d + 1) 219 16 [some (.inr 100), some (.inl x1), some (.inl x2), none, none, none] [.inl x1] Z (zri Q))
      refine z0 (op := 0) (a := 0) (b := 4) (by rfl) (by rfl) (?_ : TZ (d + 1) 219 17 [some (.inr 100), some (.inl x1), some (.inl x2), none, none, none] [.inl 4, .inl x1] Z (zri Q))
      obtain ⟨c7, v1, v2⟩ := v
      refine z_if2 (a := 5) (t := 25) (by rfl) (by rfl) c7 (by decide) (fun h8 => ?_) (fun h8 => ?_)
      · have v := v1 h8; clear v1 v2
        show TZ (d + 1) 219 25 [some (.inr 100), some (.inl x1), some (.inl x2), none, none, none] [] Z (zri Q)
        refine z0 (op := 0) (a := 0) (b := 0) (by rfl) (by rfl) (?_ : TZ (d + 1) 219 26 [some (.inr 100), some (.inl x1), some (.inl x2), none, none, none] [.inl 0] Z (zri Q))
        refine z0 (op := 7) (a := 3) (b := 0) (by rfl) (by rfl) (?_ : TZ (d + 1) 219 27 [some (.inr 100), some (.inl x1), some (.inl x2), some (.inl 0), none, none] [] Z (zri Q))
        refine z0 (op := 3) (a := 3) (b := 0) (by rfl) (by rfl) (?_ : TZ (d + 1) 219 28 [some (.inr 100), some (.inl x1), some (.inl x2), some (.inl 0), none, none] [.inl 0] Z (zri Q))
        refine z_if0 (a := 0) (t := 37) (by rfl) (by rfl) (by decide) (fun _ => ?_) (fun h => absurd (show (0 : Int) = (0 : Int) by decide) h)
        show TZ (d + 1) 219 37 [some (.inr 100), some (.inl x1), some (.inl x2), some (.inl 0), none, none] [] Z (zri Q)
        refine z0 (op := 1) (a := 0) (b := (-9)) (by rfl) (by rfl) (?_ : TZ (d + 1) 219 39 [some (.inr 100), some (.inl x1), some (.inl x2), some (.inl 0), none, none] [.inl (-9)] Z (zri Q))
        refine z0 (op := 8) (a := 4) (b := 0) (by rfl) (by rfl) (?_ : TZ (d + 1) 219 41 [some (.inr 100), some (.inl x1), some (.inl x2), some (.inl 0), some (.inl (-9)), none] [] Z (zri Q))
        refine z0 (op := 0) (a := 0) (b := 0) (by rfl) (by rfl) (?_ : TZ (d + 1) 219 42 [some (.inr 100), some (.inl x1), some (.inl x2), some (.inl 0), some (.inl (-9)), none] [.inl 0] Z (zri Q))
        refine z0 (op := 8) (a := 5) (b := 0) (by rfl) (by rfl) (?_ : TZ (d + 1) 219 44 [some (.inr 100), some (.inl x1), some (.inl x2), some (.inl 0), some (.inl (-9)), some (.inl 0)] [] Z (zri Q))
        exact v
      · have v := v2 h8; clear v1 v2
        show TZ (d + 1) 219 20 [some (.inr 100), some (.inl x1), some (.inl x2), none, none, none] [] Z (zri Q)
        refine z0 (op := 1) (a := 0) (b := (-6)) (by rfl) (by rfl) (?_ : TZ (d + 1) 219 22 [some (.inr 100), some (.inl x1), some (.inl x2), none, none, none] [.inl (-6)] Z (zri Q))
        refine z_goto (t := 26) (by rfl) (by rfl) (?_ : TZ (d + 1) 219 26 [some (.inr 100), some (.inl x1), some (.inl x2), none, none, none] [.inl (-6)] Z (zri Q))
        refine z0 (op := 7) (a := 3) (b := 0) (by rfl) (by rfl) (?_ : TZ (d + 1) 219 27 [some (.inr 100), some (.inl x1), some (.inl x2), some (.inl (-6)), none, none] [] Z (zri Q))
        refine z0 (op := 3) (a := 3) (b := 0) (by rfl) (by rfl) (?_ : TZ (d + 1) 219 28 [some (.inr 100), some (.inl x1), some (.inl x2), some (.inl (-6)), none, none] [.inl (-6)] Z (zri Q))
        refine z_if0 (a := 0) (t := 37) (by rfl) (by rfl) (by decide) (fun h => absurd (show ((-6) : Int) = (0 : Int) from h) (by decide)) (fun _ => ?_)
        show TZ (d + 1) 219 31 [some (.inr 100), some (.inl x1), some (.inl x2), some (.inl (-6)), none, none] [] Z (zri Q)
        refine z0 (op := 5) (a := 0) (b := 0) (by rfl) (by rfl) (?_ : TZ (d + 1) 219 32 [some (.inr 100), some (.inl x1), some (.inl x2), some (.inl (-6)), none, none] [.inr 100] Z (zri Q))
        refine z0 (op := 3) (a := 3) (b := 0) (by rfl) (by rfl) (?_ : TZ (d + 1) 219 33 [some (.inr 100), some (.inl x1), some (.inl x2), some (.inl (-6)), none, none] [.inl (-6), .inr 100] Z (zri Q))
        refine z_vi (by rfl) (by rfl) cl_100 (TI.mono v fun r10 Z9 v => ?_)
        show TZ (d + 1) 219 36 [some (.inr 100), some (.inl x1), some (.inl x2), some (.inl (-6)), none, none] [.inl r10] Z9 (zri Q)
        exact z_reti (by rfl) (by rfl) v
    · have v := v2 h6; clear v1 v2
      show TZ (d + 1) 219 10 [some (.inr 100), some (.inl x1), some (.inl x2), none, none, none] [] Z (zri Q)
      refine z0 (op := 1) (a := 0) (b := (-4)) (by rfl) (by rfl) (?_ : TZ (d + 1) 219 12 [some (.inr 100), some (.inl x1), some (.inl x2), none, none, none] [.inl (-4)] Z (zri Q))
      refine z_goto (t := 26) (by rfl) (by rfl) (?_ : TZ (d + 1) 219 26 [some (.inr 100), some (.inl x1), some (.inl x2), none, none, none] [.inl (-4)] Z (zri Q))
      refine z0 (op := 7) (a := 3) (b := 0) (by rfl) (by rfl) (?_ : TZ (d + 1) 219 27 [some (.inr 100), some (.inl x1), some (.inl x2), some (.inl (-4)), none, none] [] Z (zri Q))
      refine z0 (op := 3) (a := 3) (b := 0) (by rfl) (by rfl) (?_ : TZ (d + 1) 219 28 [some (.inr 100), some (.inl x1), some (.inl x2), some (.inl (-4)), none, none] [.inl (-4)] Z (zri Q))
      refine z_if0 (a := 0) (t := 37) (by rfl) (by rfl) (by decide) (fun h => absurd (show ((-4) : Int) = (0 : Int) from h) (by decide)) (fun _ => ?_)
      show TZ (d + 1) 219 31 [some (.inr 100), some (.inl x1), some (.inl x2), some (.inl (-4)), none, none] [] Z (zri Q)
      refine z0 (op := 5) (a := 0) (b := 0) (by rfl) (by rfl) (?_ : TZ (d + 1) 219 32 [some (.inr 100), some (.inl x1), some (.inl x2), some (.inl (-4)), none, none] [.inr 100] Z (zri Q))
      refine z0 (op := 3) (a := 3) (b := 0) (by rfl) (by rfl) (?_ : TZ (d + 1) 219 33 [some (.inr 100), some (.inl x1), some (.inl x2), some (.inl (-4)), none, none] [.inl (-4), .inr 100] Z (zri Q))
      refine z_vi (by rfl) (by rfl) cl_100 (TI.mono v fun r12 Z11 v => ?_)
      show TZ (d + 1) 219 36 [some (.inr 100), some (.inl x1), some (.inl x2), some (.inl (-4)), none, none] [.inl r12] Z11 (zri Q)
      exact z_reti (by rfl) (by rfl) v
theorem w219_44 {d : Nat} {x1 x2 x3 x4 x5 : Int} {Z : zM} {Q : Int → zM → Prop}
    (v : TI d 212 [.inr 100, .inl x1] Z (fun r2 Z1 =>
      zR x5 ∧
        zR r2 ∧
        (r2 ≤ x5 → (zR x2 ∧
            (x2 < 0 → Q x4 Z1) ∧
            (¬ x2 < 0 → (zR x4 ∧
                (0 ≤ x4 → (zR x2 ∧
                    zR x1 ∧
                    (x1 ≤ x2 → Q (-9) Z1) ∧
                    (¬ x1 ≤ x2 → ((0 ≤ x2 ∧ x2 < 4) ∧ Q (Z1 115 x2) Z1)))) ∧
                (¬ 0 ≤ x4 → Q x4 Z1))))) ∧
        (¬ r2 ≤ x5 → TV d 213 [.inr 100, .inl x5, .inl x1] Z1 (fun Z14 =>
            zR x4 ∧
              (x4 < 0 → TI d 217 [.inr 100, .inl 0, .inl x1] Z14 (fun r18 Z17 =>
                  zR r18 ∧
                    (r18 ≠ 0 → TI d 214 [.inr 100, .inl x1] Z17 (fun r22 Z21 =>
                        TV d 218 [.inr 100, .inl x1] Z21 (fun Z23 =>
                          TZ (d + 1) 219 44 [some (.inr 100), some (.inl x1), some (.inl x2), some (.inl x3), some (.inl r22), some (.inl (x5 + 1))] [] Z23 (zri Q)))) ∧
                    (¬ r18 ≠ 0 → TZ (d + 1) 219 44 [some (.inr 100), some (.inl x1), some (.inl x2), some (.inl x3), some (.inl x4), some (.inl (x5 + 1))] [] Z17 (zri Q)))) ∧
              (¬ x4 < 0 → TI d 214 [.inr 100, .inl x1] Z14 (fun r25 Z24 =>
                  zR r25 ∧
                    zR x4 ∧
                    (x4 ≤ r25 → TZ (d + 1) 219 44 [some (.inr 100), some (.inl x1), some (.inl x2), some (.inl x3), some (.inl x4), some (.inl (x5 + 1))] [] Z24 (zri Q)) ∧
                    (¬ x4 ≤ r25 → TI d 217 [.inr 100, .inl 0, .inl x1] Z24 (fun r30 Z29 =>
                        zR r30 ∧
                          (r30 ≠ 0 → TI d 214 [.inr 100, .inl x1] Z29 (fun r34 Z33 =>
                              TV d 218 [.inr 100, .inl x1] Z33 (fun Z35 =>
                                TZ (d + 1) 219 44 [some (.inr 100), some (.inl x1), some (.inl x2), some (.inl x3), some (.inl r34), some (.inl (x5 + 1))] [] Z35 (zri Q)))) ∧
                          (¬ r30 ≠ 0 → TZ (d + 1) 219 44 [some (.inr 100), some (.inl x1), some (.inl x2), some (.inl x3), some (.inl x4), some (.inl (x5 + 1))] [] Z29 (zri Q)))))))))) :
    TZ (d + 1) 219 44 [some (.inr 100), some (.inl x1), some (.inl x2), some (.inl x3), some (.inl x4), some (.inl x5)] [] Z (zri Q) := by
  refine z0 (op := 4) (a := 5) (b := 0) (by rfl) (by rfl) (?_ : TZ (d + 1) 219 46 [some (.inr 100), some (.inl x1), some (.inl x2), some (.inl x3), some (.inl x4), some (.inl x5)] [.inl x5] Z (zri Q))
  refine z0 (op := 5) (a := 0) (b := 0) (by rfl) (by rfl) (?_ : TZ (d + 1) 219 47 [some (.inr 100), some (.inl x1), some (.inl x2), some (.inl x3), some (.inl x4), some (.inl x5)] [.inr 100, .inl x5] Z (zri Q))
  refine z0 (op := 3) (a := 1) (b := 0) (by rfl) (by rfl) (?_ : TZ (d + 1) 219 48 [some (.inr 100), some (.inl x1), some (.inl x2), some (.inl x3), some (.inl x4), some (.inl x5)] [.inl x1, .inr 100, .inl x5] Z (zri Q))
  refine z_vi (by rfl) (by rfl) cl_100 (TI.mono v fun r2 Z1 v => ?_)
  show TZ (d + 1) 219 51 [some (.inr 100), some (.inl x1), some (.inl x2), some (.inl x3), some (.inl x4), some (.inl x5)] [.inl r2, .inl x5] Z1 (zri Q)
  obtain ⟨c3, c4, v1, v2⟩ := v
  refine z_if2 (a := 3) (t := 106) (by rfl) (by rfl) c3 c4 (fun h5 => ?_) (fun h5 => ?_)
  · have v := v1 h5; clear v1 v2
    show TZ (d + 1) 219 106 [some (.inr 100), some (.inl x1), some (.inl x2), some (.inl x3), some (.inl x4), some (.inl x5)] [] Z1 (zri Q)
    refine z0 (op := 3) (a := 2) (b := 0) (by rfl) (by rfl) (?_ : TZ (d + 1) 219 107 [some (.inr 100), some (.inl x1), some (.inl x2), some (.inl x3), some (.inl x4), some (.inl x5)] [.inl x2] Z1 (zri Q))
    obtain ⟨c6, v1, v2⟩ := v
    refine z_if0 (a := 2) (t := 115) (by rfl) (by rfl) c6 (fun h7 => ?_) (fun h7 => ?_)
    · have v := v1 h7; clear v1 v2
      show TZ (d + 1) 219 115 [some (.inr 100), some (.inl x1), some (.inl x2), some (.inl x3), some (.inl x4), some (.inl x5)] [] Z1 (zri Q)
      refine z0 (op := 4) (a := 4) (b := 0) (by rfl) (by rfl) (?_ : TZ (d + 1) 219 117 [some (.inr 100), some (.inl x1), some (.inl x2), some (.inl x3), some (.inl x4), some (.inl x5)] [.inl x4] Z1 (zri Q))
      refine z_goto (t := 136) (by rfl) (by rfl) (?_ : TZ (d + 1) 219 136 [some (.inr 100), some (.inl x1), some (.inl x2), some (.inl x3), some (.inl x4), some (.inl x5)] [.inl x4] Z1 (zri Q))
      exact z_reti (by rfl) (by rfl) v
    · have v := v2 h7; clear v1 v2
      show TZ (d + 1) 219 110 [some (.inr 100), some (.inl x1), some (.inl x2), some (.inl x3), some (.inl x4), some (.inl x5)] [] Z1 (zri Q)
      refine z0 (op := 4) (a := 4) (b := 0) (by rfl) (by rfl) (?_ : TZ (d + 1) 219 112 [some (.inr 100), some (.inl x1), some (.inl x2), some (.inl x3), some (.inl x4), some (.inl x5)] [.inl x4] Z1 (zri Q))
      obtain ⟨c8, v1, v2⟩ := v
      refine z_if0 (a := 3) (t := 120) (by rfl) (by rfl) c8 (fun h9 => ?_) (fun h9 => ?_)
      · have v := v1 h9; clear v1 v2
        show TZ (d + 1) 219 120 [some (.inr 100), some (.inl x1), some (.inl x2), some (.inl x3), some (.inl x4), some (.inl x5)] [] Z1 (zri Q)
        refine z0 (op := 3) (a := 2) (b := 0) (by rfl) (by rfl) (?_ : TZ (d + 1) 219 121 [some (.inr 100), some (.inl x1), some (.inl x2), some (.inl x3), some (.inl x4), some (.inl x5)] [.inl x2] Z1 (zri Q))
        refine z0 (op := 3) (a := 1) (b := 0) (by rfl) (by rfl) (?_ : TZ (d + 1) 219 122 [some (.inr 100), some (.inl x1), some (.inl x2), some (.inl x3), some (.inl x4), some (.inl x5)] [.inl x1, .inl x2] Z1 (zri Q))
        obtain ⟨c10, c11, v1, v2⟩ := v
        refine z_if2 (a := 3) (t := 134) (by rfl) (by rfl) c10 c11 (fun h12 => ?_) (fun h12 => ?_)
        · have v := v1 h12; clear v1 v2
          show TZ (d + 1) 219 134 [some (.inr 100), some (.inl x1), some (.inl x2), some (.inl x3), some (.inl x4), some (.inl x5)] [] Z1 (zri Q)
          refine z0 (op := 1) (a := 0) (b := (-9)) (by rfl) (by rfl) (?_ : TZ (d + 1) 219 136 [some (.inr 100), some (.inl x1), some (.inl x2), some (.inl x3), some (.inl x4), some (.inl x5)] [.inl (-9)] Z1 (zri Q))
          exact z_reti (by rfl) (by rfl) v
        · have v := v2 h12; clear v1 v2
          show TZ (d + 1) 219 125 [some (.inr 100), some (.inl x1), some (.inl x2), some (.inl x3), some (.inl x4), some (.inl x5)] [] Z1 (zri Q)
          refine z0 (op := 5) (a := 0) (b := 0) (by rfl) (by rfl) (?_ : TZ (d + 1) 219 126 [some (.inr 100), some (.inl x1), some (.inl x2), some (.inl x3), some (.inl x4), some (.inl x5)] [.inr 100] Z1 (zri Q))
          refine z_fr (by rfl) fr102_100 (?_ : TZ (d + 1) 219 129 [some (.inr 100), some (.inl x1), some (.inl x2), some (.inl x3), some (.inl x4), some (.inl x5)] [.inr 115] Z1 (zri Q))
          refine z0 (op := 3) (a := 2) (b := 0) (by rfl) (by rfl) (?_ : TZ (d + 1) 219 130 [some (.inr 100), some (.inl x1), some (.inl x2), some (.inl x3), some (.inl x4), some (.inl x5)] [.inl x2, .inr 115] Z1 (zri Q))
          obtain ⟨c13, v⟩ := v
          refine z_al (by rfl) ln_115 c13 (?_ : TZ (d + 1) 219 131 [some (.inr 100), some (.inl x1), some (.inl x2), some (.inl x3), some (.inl x4), some (.inl x5)] [.inl (Z1 115 x2)] Z1 (zri Q))
          refine z_goto (t := 136) (by rfl) (by rfl) (?_ : TZ (d + 1) 219 136 [some (.inr 100), some (.inl x1), some (.inl x2), some (.inl x3), some (.inl x4), some (.inl x5)] [.inl (Z1 115 x2)] Z1 (zri Q))
          exact z_reti (by rfl) (by rfl) v
      · have v := v2 h9; clear v1 v2
        show TZ (d + 1) 219 115 [some (.inr 100), some (.inl x1), some (.inl x2), some (.inl x3), some (.inl x4), some (.inl x5)] [] Z1 (zri Q)
        refine z0 (op := 4) (a := 4) (b := 0) (by rfl) (by rfl) (?_ : TZ (d + 1) 219 117 [some (.inr 100), some (.inl x1), some (.inl x2), some (.inl x3), some (.inl x4), some (.inl x5)] [.inl x4] Z1 (zri Q))
        refine z_goto (t := 136) (by rfl) (by rfl) (?_ : TZ (d + 1) 219 136 [some (.inr 100), some (.inl x1), some (.inl x2), some (.inl x3), some (.inl x4), some (.inl x5)] [.inl x4] Z1 (zri Q))
        exact z_reti (by rfl) (by rfl) v
  · have v := v2 h5; clear v1 v2
    show TZ (d + 1) 219 54 [some (.inr 100), some (.inl x1), some (.inl x2), some (.inl x3), some (.inl x4), some (.inl x5)] [] Z1 (zri Q)
    refine z0 (op := 5) (a := 0) (b := 0) (by rfl) (by rfl) (?_ : TZ (d + 1) 219 55 [some (.inr 100), some (.inl x1), some (.inl x2), some (.inl x3), some (.inl x4), some (.inl x5)] [.inr 100] Z1 (zri Q))
    refine z0 (op := 4) (a := 5) (b := 0) (by rfl) (by rfl) (?_ : TZ (d + 1) 219 57 [some (.inr 100), some (.inl x1), some (.inl x2), some (.inl x3), some (.inl x4), some (.inl x5)] [.inl x5, .inr 100] Z1 (zri Q))
    refine z0 (op := 3) (a := 1) (b := 0) (by rfl) (by rfl) (?_ : TZ (d + 1) 219 58 [some (.inr 100), some (.inl x1), some (.inl x2), some (.inl x3), some (.inl x4), some (.inl x5)] [.inl x1, .inl x5, .inr 100] Z1 (zri Q))
    refine z_vv (by rfl) (by rfl) cl_100 (TV.mono v fun Z14 v => ?_)
    show TZ (d + 1) 219 61 [some (.inr 100), some (.inl x1), some (.inl x2), some (.inl x3), some (.inl x4), some (.inl x5)] [] Z14 (zri Q)
    refine z0 (op := 4) (a := 4) (b := 0) (by rfl) (by rfl) (?_ : TZ (d + 1) 219 63 [some (.inr 100), some (.inl x1), some (.inl x2), some (.inl x3), some (.inl x4), some (.inl x5)] [.inl x4] Z14 (zri Q))
    obtain ⟨c15, v1, v2⟩ := v
    refine z_if0 (a := 2) (t := 76) (by rfl) (by rfl) c15 (fun h16 => ?_) (fun h16 => ?_)
    · have v := v1 h16; clear v1 v2
      show TZ (d + 1) 219 76 [some (.inr 100), some (.inl x1), some (.inl x2), some (.inl x3), some (.inl x4), some (.inl x5)] [] Z14 (zri Q)
      refine z0 (op := 5) (a := 0) (b := 0) (by rfl) (by rfl) (?_ : TZ (d + 1) 219 77 [some (.inr 100), some (.inl x1), some (.inl x2), some (.inl x3), some (.inl x4), some (.inl x5)] [.inr 100] Z14 (zri Q))
      refine z0 (op := 0) (a := 0) (b := 0) (by rfl) (by rfl) (?_ : TZ (d + 1) 219 78 [some (.inr 100), some (.inl x1), some (.inl x2), some (.inl x3), some (.inl x4), some (.inl x5)] [.inl 0, .inr 100] Z14 (zri Q))
      refine z0 (op := 3) (a := 1) (b := 0) (by rfl) (by rfl) (?_ : TZ (d + 1) 219 79 [some (.inr 100), some (.inl x1), some (.inl x2), some (.inl x3), some (.inl x4), some (.inl x5)] [.inl x1, .inl 0, .inr 100] Z14 (zri Q))
      refine z_vi (by rfl) (by rfl) cl_100 (TI.mono v fun r18 Z17 v => ?_)
      show TZ (d + 1) 219 82 [some (.inr 100), some (.inl x1), some (.inl x2), some (.inl x3), some (.inl x4), some (.inl x5)] [.inl r18] Z17 (zri Q)
      obtain ⟨c19, v1, v2⟩ := v
      refine z_if0 (a := 1) (t := 88) (by rfl) (by rfl) c19 (fun h20 => ?_) (fun h20 => ?_)
      · have v := v1 h20; clear v1 v2
        show TZ (d + 1) 219 88 [some (.inr 100), some (.inl x1), some (.inl x2), some (.inl x3), some (.inl x4), some (.inl x5)] [] Z17 (zri Q)
        refine z0 (op := 5) (a := 0) (b := 0) (by rfl) (by rfl) (?_ : TZ (d + 1) 219 89 [some (.inr 100), some (.inl x1), some (.inl x2), some (.inl x3), some (.inl x4), some (.inl x5)] [.inr 100] Z17 (zri Q))
        refine z0 (op := 3) (a := 1) (b := 0) (by rfl) (by rfl) (?_ : TZ (d + 1) 219 90 [some (.inr 100), some (.inl x1), some (.inl x2), some (.inl x3), some (.inl x4), some (.inl x5)] [.inl x1, .inr 100] Z17 (zri Q))
        refine z_vi (by rfl) (by rfl) cl_100 (TI.mono v fun r22 Z21 v => ?_)
        show TZ (d + 1) 219 93 [some (.inr 100), some (.inl x1), some (.inl x2), some (.inl x3), some (.inl x4), some (.inl x5)] [.inl r22] Z21 (zri Q)
        refine z0 (op := 8) (a := 4) (b := 0) (by rfl) (by rfl) (?_ : TZ (d + 1) 219 95 [some (.inr 100), some (.inl x1), some (.inl x2), some (.inl x3), some (.inl r22), some (.inl x5)] [] Z21 (zri Q))
        refine z0 (op := 5) (a := 0) (b := 0) (by rfl) (by rfl) (?_ : TZ (d + 1) 219 96 [some (.inr 100), some (.inl x1), some (.inl x2), some (.inl x3), some (.inl r22), some (.inl x5)] [.inr 100] Z21 (zri Q))
        refine z0 (op := 3) (a := 1) (b := 0) (by rfl) (by rfl) (?_ : TZ (d + 1) 219 97 [some (.inr 100), some (.inl x1), some (.inl x2), some (.inl x3), some (.inl r22), some (.inl x5)] [.inl x1, .inr 100] Z21 (zri Q))
        refine z_vv (by rfl) (by rfl) cl_100 (TV.mono v fun Z23 v => ?_)
        show TZ (d + 1) 219 100 [some (.inr 100), some (.inl x1), some (.inl x2), some (.inl x3), some (.inl r22), some (.inl x5)] [] Z23 (zri Q)
        refine z0 (op := 11) (a := 5) (b := 1) (by rfl) (by rfl) (?_ : TZ (d + 1) 219 103 [some (.inr 100), some (.inl x1), some (.inl x2), some (.inl x3), some (.inl r22), some (.inl (x5 + 1))] [] Z23 (zri Q))
        refine z_goto (t := 44) (by rfl) (by rfl) (?_ : TZ (d + 1) 219 44 [some (.inr 100), some (.inl x1), some (.inl x2), some (.inl x3), some (.inl r22), some (.inl (x5 + 1))] [] Z23 (zri Q))
        exact v
      · have v := v2 h20; clear v1 v2
        show TZ (d + 1) 219 85 [some (.inr 100), some (.inl x1), some (.inl x2), some (.inl x3), some (.inl x4), some (.inl x5)] [] Z17 (zri Q)
        refine z_goto (t := 100) (by rfl) (by rfl) (?_ : TZ (d + 1) 219 100 [some (.inr 100), some (.inl x1), some (.inl x2), some (.inl x3), some (.inl x4), some (.inl x5)] [] Z17 (zri Q))
        refine z0 (op := 11) (a := 5) (b := 1) (by rfl) (by rfl) (?_ : TZ (d + 1) 219 103 [some (.inr 100), some (.inl x1), some (.inl x2), some (.inl x3), some (.inl x4), some (.inl (x5 + 1))] [] Z17 (zri Q))
        refine z_goto (t := 44) (by rfl) (by rfl) (?_ : TZ (d + 1) 219 44 [some (.inr 100), some (.inl x1), some (.inl x2), some (.inl x3), some (.inl x4), some (.inl (x5 + 1))] [] Z17 (zri Q))
        exact v
    · have v := v2 h16; clear v1 v2
      show TZ (d + 1) 219 66 [some (.inr 100), some (.inl x1), some (.inl x2), some (.inl x3), some (.inl x4), some (.inl x5)] [] Z14 (zri Q)
      refine z0 (op := 5) (a := 0) (b := 0) (by rfl) (by rfl) (?_ : TZ (d + 1) 219 67 [some (.inr 100), some (.inl x1), some (.inl x2), some (.inl x3), some (.inl x4), some (.inl x5)] [.inr 100] Z14 (zri Q))
      refine z0 (op := 3) (a := 1) (b := 0) (by rfl) (by rfl) (?_ : TZ (d + 1) 219 68 [some (.inr 100), some (.inl x1), some (.inl x2), some (.inl x3), some (.inl x4), some (.inl x5)] [.inl x1, .inr 100] Z14 (zri Q))
      refine z_vi (by rfl) (by rfl) cl_100 (TI.mono v fun r25 Z24 v => ?_)
      show TZ (d + 1) 219 71 [some (.inr 100), some (.inl x1), some (.inl x2), some (.inl x3), some (.inl x4), some (.inl x5)] [.inl r25] Z24 (zri Q)
      refine z0 (op := 4) (a := 4) (b := 0) (by rfl) (by rfl) (?_ : TZ (d + 1) 219 73 [some (.inr 100), some (.inl x1), some (.inl x2), some (.inl x3), some (.inl x4), some (.inl x5)] [.inl x4, .inl r25] Z24 (zri Q))
      obtain ⟨c26, c27, v1, v2⟩ := v
      refine z_if2 (a := 3) (t := 100) (by rfl) (by rfl) c26 c27 (fun h28 => ?_) (fun h28 => ?_)
      · have v := v1 h28; clear v1 v2
        show TZ (d + 1) 219 100 [some (.inr 100), some (.inl x1), some (.inl x2), some (.inl x3), some (.inl x4), some (.inl x5)] [] Z24 (zri Q)
        refine z0 (op := 11) (a := 5) (b := 1) (by rfl) (by rfl) (?_ : TZ (d + 1) 219 103 [some (.inr 100), some (.inl x1), some (.inl x2), some (.inl x3), some (.inl x4), some (.inl (x5 + 1))] [] Z24 (zri Q))
        refine z_goto (t := 44) (by rfl) (by rfl) (?_ : TZ (d + 1) 219 44 [some (.inr 100), some (.inl x1), some (.inl x2), some (.inl x3), some (.inl x4), some (.inl (x5 + 1))] [] Z24 (zri Q))
        exact v
      · have v := v2 h28; clear v1 v2
        show TZ (d + 1) 219 76 [some (.inr 100), some (.inl x1), some (.inl x2), some (.inl x3), some (.inl x4), some (.inl x5)] [] Z24 (zri Q)
        refine z0 (op := 5) (a := 0) (b := 0) (by rfl) (by rfl) (?_ : TZ (d + 1) 219 77 [some (.inr 100), some (.inl x1), some (.inl x2), some (.inl x3), some (.inl x4), some (.inl x5)] [.inr 100] Z24 (zri Q))
        refine z0 (op := 0) (a := 0) (b := 0) (by rfl) (by rfl) (?_ : TZ (d + 1) 219 78 [some (.inr 100), some (.inl x1), some (.inl x2), some (.inl x3), some (.inl x4), some (.inl x5)] [.inl 0, .inr 100] Z24 (zri Q))
        refine z0 (op := 3) (a := 1) (b := 0) (by rfl) (by rfl) (?_ : TZ (d + 1) 219 79 [some (.inr 100), some (.inl x1), some (.inl x2), some (.inl x3), some (.inl x4), some (.inl x5)] [.inl x1, .inl 0, .inr 100] Z24 (zri Q))
        refine z_vi (by rfl) (by rfl) cl_100 (TI.mono v fun r30 Z29 v => ?_)
        show TZ (d + 1) 219 82 [some (.inr 100), some (.inl x1), some (.inl x2), some (.inl x3), some (.inl x4), some (.inl x5)] [.inl r30] Z29 (zri Q)
        obtain ⟨c31, v1, v2⟩ := v
        refine z_if0 (a := 1) (t := 88) (by rfl) (by rfl) c31 (fun h32 => ?_) (fun h32 => ?_)
        · have v := v1 h32; clear v1 v2
          show TZ (d + 1) 219 88 [some (.inr 100), some (.inl x1), some (.inl x2), some (.inl x3), some (.inl x4), some (.inl x5)] [] Z29 (zri Q)
          refine z0 (op := 5) (a := 0) (b := 0) (by rfl) (by rfl) (?_ : TZ (d + 1) 219 89 [some (.inr 100), some (.inl x1), some (.inl x2), some (.inl x3), some (.inl x4), some (.inl x5)] [.inr 100] Z29 (zri Q))
          refine z0 (op := 3) (a := 1) (b := 0) (by rfl) (by rfl) (?_ : TZ (d + 1) 219 90 [some (.inr 100), some (.inl x1), some (.inl x2), some (.inl x3), some (.inl x4), some (.inl x5)] [.inl x1, .inr 100] Z29 (zri Q))
          refine z_vi (by rfl) (by rfl) cl_100 (TI.mono v fun r34 Z33 v => ?_)
          show TZ (d + 1) 219 93 [some (.inr 100), some (.inl x1), some (.inl x2), some (.inl x3), some (.inl x4), some (.inl x5)] [.inl r34] Z33 (zri Q)
          refine z0 (op := 8) (a := 4) (b := 0) (by rfl) (by rfl) (?_ : TZ (d + 1) 219 95 [some (.inr 100), some (.inl x1), some (.inl x2), some (.inl x3), some (.inl r34), some (.inl x5)] [] Z33 (zri Q))
          refine z0 (op := 5) (a := 0) (b := 0) (by rfl) (by rfl) (?_ : TZ (d + 1) 219 96 [some (.inr 100), some (.inl x1), some (.inl x2), some (.inl x3), some (.inl r34), some (.inl x5)] [.inr 100] Z33 (zri Q))
          refine z0 (op := 3) (a := 1) (b := 0) (by rfl) (by rfl) (?_ : TZ (d + 1) 219 97 [some (.inr 100), some (.inl x1), some (.inl x2), some (.inl x3), some (.inl r34), some (.inl x5)] [.inl x1, .inr 100] Z33 (zri Q))
          refine z_vv (by rfl) (by rfl) cl_100 (TV.mono v fun Z35 v => ?_)
          show TZ (d + 1) 219 100 [some (.inr 100), some (.inl x1), some (.inl x2), some (.inl x3), some (.inl r34), some (.inl x5)] [] Z35 (zri Q)
          refine z0 (op := 11) (a := 5) (b := 1) (by rfl) (by rfl) (?_ : TZ (d + 1) 219 103 [some (.inr 100), some (.inl x1), some (.inl x2), some (.inl x3), some (.inl r34), some (.inl (x5 + 1))] [] Z35 (zri Q))
          refine z_goto (t := 44) (by rfl) (by rfl) (?_ : TZ (d + 1) 219 44 [some (.inr 100), some (.inl x1), some (.inl x2), some (.inl x3), some (.inl r34), some (.inl (x5 + 1))] [] Z35 (zri Q))
          exact v
        · have v := v2 h32; clear v1 v2
          show TZ (d + 1) 219 85 [some (.inr 100), some (.inl x1), some (.inl x2), some (.inl x3), some (.inl x4), some (.inl x5)] [] Z29 (zri Q)
          refine z_goto (t := 100) (by rfl) (by rfl) (?_ : TZ (d + 1) 219 100 [some (.inr 100), some (.inl x1), some (.inl x2), some (.inl x3), some (.inl x4), some (.inl x5)] [] Z29 (zri Q))
          refine z0 (op := 11) (a := 5) (b := 1) (by rfl) (by rfl) (?_ : TZ (d + 1) 219 103 [some (.inr 100), some (.inl x1), some (.inl x2), some (.inl x3), some (.inl x4), some (.inl (x5 + 1))] [] Z29 (zri Q))
          refine z_goto (t := 44) (by rfl) (by rfl) (?_ : TZ (d + 1) 219 44 [some (.inr 100), some (.inl x1), some (.inl x2), some (.inl x3), some (.inl x4), some (.inl (x5 + 1))] [] Z29 (zri Q))
          exact v
theorem w220_0 {d : Nat} {x1 : Int} {Z : zM} {Q : Int → zM → Prop}
    (v : TV d 179 [.inr 100] Z (fun Z1 =>
      TI d 188 [.inr 100, .inl x1] Z1 (fun r3 Z2 =>
        TI d 162 [.inr 100] Z2 (fun r5 Z4 =>
          TV d 180 [.inr 100] Z4 (fun Z6 =>
            Q r5 Z6))))) :
    TZ (d + 1) 220 0 [some (.inr 100), some (.inl x1), none] [] Z (zri Q) := by
  refine z0 (op := 5) (a := 0) (b := 0) (by rfl) (by rfl) (?_ : TZ (d + 1) 220 1 [some (.inr 100), some (.inl x1), none] [.inr 100] Z (zri Q))
  refine z_vv (by rfl) (by rfl) cl_100 (TV.mono v fun Z1 v => ?_)
  show TZ (d + 1) 220 4 [some (.inr 100), some (.inl x1), none] [] Z1 (zri Q)
  refine z0 (op := 5) (a := 0) (b := 0) (by rfl) (by rfl) (?_ : TZ (d + 1) 220 5 [some (.inr 100), some (.inl x1), none] [.inr 100] Z1 (zri Q))
  refine z0 (op := 3) (a := 1) (b := 0) (by rfl) (by rfl) (?_ : TZ (d + 1) 220 6 [some (.inr 100), some (.inl x1), none] [.inl x1, .inr 100] Z1 (zri Q))
  refine z_vi (by rfl) (by rfl) cl_100 (TI.mono v fun r3 Z2 v => ?_)
  show TZ (d + 1) 220 9 [some (.inr 100), some (.inl x1), none] [.inl r3] Z2 (zri Q)
  refine z0 (op := 14) (a := 0) (b := 0) (by rfl) (by rfl) (?_ : TZ (d + 1) 220 10 [some (.inr 100), some (.inl x1), none] [] Z2 (zri Q))
  refine z0 (op := 5) (a := 0) (b := 0) (by rfl) (by rfl) (?_ : TZ (d + 1) 220 11 [some (.inr 100), some (.inl x1), none] [.inr 100] Z2 (zri Q))
  refine z_vi (by rfl) (by rfl) cl_100 (TI.mono v fun r5 Z4 v => ?_)
  show TZ (d + 1) 220 14 [some (.inr 100), some (.inl x1), none] [.inl r5] Z4 (zri Q)
  refine z0 (op := 7) (a := 2) (b := 0) (by rfl) (by rfl) (?_ : TZ (d + 1) 220 15 [some (.inr 100), some (.inl x1), some (.inl r5)] [] Z4 (zri Q))
  refine z0 (op := 5) (a := 0) (b := 0) (by rfl) (by rfl) (?_ : TZ (d + 1) 220 16 [some (.inr 100), some (.inl x1), some (.inl r5)] [.inr 100] Z4 (zri Q))
  refine z_vv (by rfl) (by rfl) cl_100 (TV.mono v fun Z6 v => ?_)
  show TZ (d + 1) 220 19 [some (.inr 100), some (.inl x1), some (.inl r5)] [] Z6 (zri Q)
  refine z0 (op := 3) (a := 2) (b := 0) (by rfl) (by rfl) (?_ : TZ (d + 1) 220 20 [some (.inr 100), some (.inl x1), some (.inl r5)] [.inl r5] Z6 (zri Q))
  exact z_reti (by rfl) (by rfl) v
theorem w221_0 {d : Nat} {x1 : Int} {Z : zM} {Q : Int → zM → Prop}
    (v : TI d 155 [.inl x1, .inl 0, .inl 1] Z (fun r2 Z1 =>
      zR r2 ∧
        (r2 ≠ 0 → TZ (d + 1) 221 20 [some (.inr 100), some (.inl x1), some (.inl 0), some (.inl 1)] [] Z1 (zri Q)) ∧
        (¬ r2 ≠ 0 → TI d 154 [.inr 100, .inl (-2)] Z1 (fun r6 Z5 =>
            Q r6 Z5)))) :
    TZ (d + 1) 221 0 [some (.inr 100), some (.inl x1), none, none] [] Z (zri Q) := by
  refine z0 (op := 3) (a := 1) (b := 0) (by rfl) (by rfl) (?_ : TZ (d + 1) 221 1 [some (.inr 100), some (.inl x1), none, none] [.inl x1] Z (zri Q))
  refine z0 (op := 0) (a := 0) (b := 0) (by rfl) (by rfl) (?_ : TZ (d + 1) 221 2 [some (.inr 100), some (.inl x1), none, none] [.inl 0, .inl x1] Z (zri Q))
  refine z0 (op := 0) (a := 0) (b := 1) (by rfl) (by rfl) (?_ : TZ (d + 1) 221 3 [some (.inr 100), some (.inl x1), none, none] [.inl 1, .inl 0, .inl x1] Z (zri Q))
  refine z_si (by rfl) (by rfl) (TI.mono v fun r2 Z1 v => ?_)
  show TZ (d + 1) 221 6 [some (.inr 100), some (.inl x1), none, none] [.inl r2] Z1 (zri Q)
  obtain ⟨c3, v1, v2⟩ := v
  refine z_if0 (a := 1) (t := 16) (by rfl) (by rfl) c3 (fun h4 => ?_) (fun h4 => ?_)
  · have v := v1 h4; clear v1 v2
    show TZ (d + 1) 221 16 [some (.inr 100), some (.inl x1), none, none] [] Z1 (zri Q)
    refine z0 (op := 0) (a := 0) (b := 0) (by rfl) (by rfl) (?_ : TZ (d + 1) 221 17 [some (.inr 100), some (.inl x1), none, none] [.inl 0] Z1 (zri Q))
    refine z0 (op := 7) (a := 2) (b := 0) (by rfl) (by rfl) (?_ : TZ (d + 1) 221 18 [some (.inr 100), some (.inl x1), some (.inl 0), none] [] Z1 (zri Q))
    refine z0 (op := 0) (a := 0) (b := 1) (by rfl) (by rfl) (?_ : TZ (d + 1) 221 19 [some (.inr 100), some (.inl x1), some (.inl 0), none] [.inl 1] Z1 (zri Q))
    refine z0 (op := 7) (a := 3) (b := 0) (by rfl) (by rfl) (?_ : TZ (d + 1) 221 20 [some (.inr 100), some (.inl x1), some (.inl 0), some (.inl 1)] [] Z1 (zri Q))
    exact v
  · have v := v2 h4; clear v1 v2
    show TZ (d + 1) 221 9 [some (.inr 100), some (.inl x1), none, none] [] Z1 (zri Q)
    refine z0 (op := 5) (a := 0) (b := 0) (by rfl) (by rfl) (?_ : TZ (d + 1) 221 10 [some (.inr 100), some (.inl x1), none, none] [.inr 100] Z1 (zri Q))
    refine z0 (op := 1) (a := 0) (b := (-2)) (by rfl) (by rfl) (?_ : TZ (d + 1) 221 12 [some (.inr 100), some (.inl x1), none, none] [.inl (-2), .inr 100] Z1 (zri Q))
    refine z_vi (by rfl) (by rfl) cl_100 (TI.mono v fun r6 Z5 v => ?_)
    show TZ (d + 1) 221 15 [some (.inr 100), some (.inl x1), none, none] [.inl r6] Z5 (zri Q)
    exact z_reti (by rfl) (by rfl) v
theorem w221_20 {d : Nat} {x1 x2 x3 : Int} {Z : zM} {Q : Int → zM → Prop}
    (v : zR x3 ∧
      zR (Z 100 6) ∧
      ((Z 100 6) < x3 → (zR x1 ∧
          (x1 ≠ 0 → TI d 220 [.inr 100, .inl (x2 - 1)] Z (fun r7 Z6 =>
              Q r7 Z6)) ∧
          (¬ x1 ≠ 0 → Q x2 Z))) ∧
      (¬ (Z 100 6) < x3 → TI d 220 [.inr 100, .inl (x3 - 1)] Z (fun r9 Z8 =>
          TI d 220 [.inr 100, .inl (x2 - 1)] Z8 (fun r11 Z10 =>
            zR r9 ∧
              zR r11 ∧
              (r11 ≤ r9 → TZ (d + 1) 221 20 [some (.inr 100), some (.inl x1), some (.inl x2), some (.inl (x3 + 1))] [] Z10 (zri Q)) ∧
              (¬ r11 ≤ r9 → TZ (d + 1) 221 20 [some (.inr 100), some (.inl x1), some (.inl x3), some (.inl (x3 + 1))] [] Z10 (zri Q)))))) :
    TZ (d + 1) 221 20 [some (.inr 100), some (.inl x1), some (.inl x2), some (.inl x3)] [] Z (zri Q) := by
  refine z0 (op := 3) (a := 3) (b := 0) (by rfl) (by rfl) (?_ : TZ (d + 1) 221 21 [some (.inr 100), some (.inl x1), some (.inl x2), some (.inl x3)] [.inl x3] Z (zri Q))
  refine z0 (op := 5) (a := 0) (b := 0) (by rfl) (by rfl) (?_ : TZ (d + 1) 221 22 [some (.inr 100), some (.inl x1), some (.inl x2), some (.inl x3)] [.inr 100, .inl x3] Z (zri Q))
  refine z_fi (by rfl) fi110_100 (?_ : TZ (d + 1) 221 25 [some (.inr 100), some (.inl x1), some (.inl x2), some (.inl x3)] [.inl (Z 100 6), .inl x3] Z (zri Q))
  obtain ⟨c1, c2, v1, v2⟩ := v
  refine z_if2 (a := 4) (t := 57) (by rfl) (by rfl) c1 c2 (fun h3 => ?_) (fun h3 => ?_)
  · have v := v1 h3; clear v1 v2
    show TZ (d + 1) 221 57 [some (.inr 100), some (.inl x1), some (.inl x2), some (.inl x3)] [] Z (zri Q)
    refine z0 (op := 3) (a := 1) (b := 0) (by rfl) (by rfl) (?_ : TZ (d + 1) 221 58 [some (.inr 100), some (.inl x1), some (.inl x2), some (.inl x3)] [.inl x1] Z (zri Q))
    obtain ⟨c4, v1, v2⟩ := v
    refine z_if0 (a := 1) (t := 65) (by rfl) (by rfl) c4 (fun h5 => ?_) (fun h5 => ?_)
    · have v := v1 h5; clear v1 v2
      show TZ (d + 1) 221 65 [some (.inr 100), some (.inl x1), some (.inl x2), some (.inl x3)] [] Z (zri Q)
      refine z0 (op := 5) (a := 0) (b := 0) (by rfl) (by rfl) (?_ : TZ (d + 1) 221 66 [some (.inr 100), some (.inl x1), some (.inl x2), some (.inl x3)] [.inr 100] Z (zri Q))
      refine z0 (op := 3) (a := 2) (b := 0) (by rfl) (by rfl) (?_ : TZ (d + 1) 221 67 [some (.inr 100), some (.inl x1), some (.inl x2), some (.inl x3)] [.inl x2, .inr 100] Z (zri Q))
      refine z0 (op := 0) (a := 0) (b := 1) (by rfl) (by rfl) (?_ : TZ (d + 1) 221 68 [some (.inr 100), some (.inl x1), some (.inl x2), some (.inl x3)] [.inl 1, .inl x2, .inr 100] Z (zri Q))
      refine z0 (op := 12) (a := 1) (b := 0) (by rfl) (by rfl) (?_ : TZ (d + 1) 221 69 [some (.inr 100), some (.inl x1), some (.inl x2), some (.inl x3)] [.inl (x2 - 1), .inr 100] Z (zri Q))
      refine z_vi (by rfl) (by rfl) cl_100 (TI.mono v fun r7 Z6 v => ?_)
      show TZ (d + 1) 221 72 [some (.inr 100), some (.inl x1), some (.inl x2), some (.inl x3)] [.inl r7] Z6 (zri Q)
      exact z_reti (by rfl) (by rfl) v
    · have v := v2 h5; clear v1 v2
      show TZ (d + 1) 221 61 [some (.inr 100), some (.inl x1), some (.inl x2), some (.inl x3)] [] Z (zri Q)
      refine z0 (op := 3) (a := 2) (b := 0) (by rfl) (by rfl) (?_ : TZ (d + 1) 221 62 [some (.inr 100), some (.inl x1), some (.inl x2), some (.inl x3)] [.inl x2] Z (zri Q))
      refine z_goto (t := 72) (by rfl) (by rfl) (?_ : TZ (d + 1) 221 72 [some (.inr 100), some (.inl x1), some (.inl x2), some (.inl x3)] [.inl x2] Z (zri Q))
      exact z_reti (by rfl) (by rfl) v
  · have v := v2 h3; clear v1 v2
    show TZ (d + 1) 221 28 [some (.inr 100), some (.inl x1), some (.inl x2), some (.inl x3)] [] Z (zri Q)
    refine z0 (op := 5) (a := 0) (b := 0) (by rfl) (by rfl) (?_ : TZ (d + 1) 221 29 [some (.inr 100), some (.inl x1), some (.inl x2), some (.inl x3)] [.inr 100] Z (zri Q))
    refine z0 (op := 3) (a := 3) (b := 0) (by rfl) (by rfl) (?_ : TZ (d + 1) 221 30 [some (.inr 100), some (.inl x1), some (.inl x2), some (.inl x3)] [.inl x3, .inr 100] Z (zri Q))
    refine z0 (op := 0) (a := 0) (b := 1) (by rfl) (by rfl) (?_ : TZ (d + 1) 221 31 [some (.inr 100), some (.inl x1), some (.inl x2), some (.inl x3)] [.inl 1, .inl x3, .inr 100] Z (zri Q))
    refine z0 (op := 12) (a := 1) (b := 0) (by rfl) (by rfl) (?_ : TZ (d + 1) 221 32 [some (.inr 100), some (.inl x1), some (.inl x2), some (.inl x3)] [.inl (x3 - 1), .inr 100] Z (zri Q))
    refine z_vi (by rfl) (by rfl) cl_100 (TI.mono v fun r9 Z8 v => ?_)
    show TZ (d + 1) 221 35 [some (.inr 100), some (.inl x1), some (.inl x2), some (.inl x3)] [.inl r9] Z8 (zri Q)
    refine z0 (op := 5) (a := 0) (b := 0) (by rfl) (by rfl) (?_ : TZ (d + 1) 221 36 [some (.inr 100), some (.inl x1), some (.inl x2), some (.inl x3)] [.inr 100, .inl r9] Z8 (zri Q))
    refine z0 (op := 3) (a := 2) (b := 0) (by rfl) (by rfl) (?_ : TZ (d + 1) 221 37 [some (.inr 100), some (.inl x1), some (.inl x2), some (.inl x3)] [.inl x2, .inr 100, .inl r9] Z8 (zri Q))
    refine z0 (op := 0) (a := 0) (b := 1) (by rfl) (by rfl) (?_ : TZ (d + 1) 221 38 [some (.inr 100), some (.inl x1), some (.inl x2), some (.inl x3)] [.inl 1, .inl x2, .inr 100, .inl r9] Z8 (zri Q))
    refine z0 (op := 12) (a := 1) (b := 0) (by rfl) (by rfl) (?_ : TZ (d + 1) 221 39 [some (.inr 100), some (.inl x1), some (.inl x2), some (.inl x3)] [.inl (x2 - 1), .inr 100, .inl r9] Z8 (zri Q))
    refine z_vi (by rfl) (by rfl) cl_100 (TI.mono v fun r11 Z10 v => ?_)
    show TZ (d + 1) 221 42 [some (.inr 100), some (.inl x1), some (.inl x2), some (.inl x3)] [.inl r11, .inl r9] Z10 (zri Q)
    obtain ⟨c12, c13, v1, v2⟩ := v
    refine z_if2 (a := 3) (t := 49) (by rfl) (by rfl) c12 c13 (fun h14 => ?_) (fun h14 => ?_)
    · have v := v1 h14; clear v1 v2
      show TZ (d + 1) 221 49 [some (.inr 100), some (.inl x1), some (.inl x2), some (.inl x3)] [] Z10 (zri Q)
      refine z0 (op := 3) (a := 2) (b := 0) (by rfl) (by rfl) (?_ : TZ (d + 1) 221 50 [some (.inr 100), some (.inl x1), some (.inl x2), some (.inl x3)] [.inl x2] Z10 (zri Q))
      refine z0 (op := 7) (a := 2) (b := 0) (by rfl) (by rfl) (?_ : TZ (d + 1) 221 51 [some (.inr 100), some (.inl x1), some (.inl x2), some (.inl x3)] [] Z10 (zri Q))
      refine z0 (op := 11) (a := 3) (b := 1) (by rfl) (by rfl) (?_ : TZ (d + 1) 221 54 [some (.inr 100), some (.inl x1), some (.inl x2), some (.inl (x3 + 1))] [] Z10 (zri Q))
      refine z_goto (t := 20) (by rfl) (by rfl) (?_ : TZ (d + 1) 221 20 [some (.inr 100), some (.inl x1), some (.inl x2), some (.inl (x3 + 1))] [] Z10 (zri Q))
      exact v
    · have v := v2 h14; clear v1 v2
      show TZ (d + 1) 221 45 [some (.inr 100), some (.inl x1), some (.inl x2), some (.inl x3)] [] Z10 (zri Q)
      refine z0 (op := 3) (a := 3) (b := 0) (by rfl) (by rfl) (?_ : TZ (d + 1) 221 46 [some (.inr 100), some (.inl x1), some (.inl x2), some (.inl x3)] [.inl x3] Z10 (zri Q))
      refine z_goto (t := 50) (by rfl) (by rfl) (?_ : TZ (d + 1) 221 50 [some (.inr 100), some (.inl x1), some (.inl x2), some (.inl x3)] [.inl x3] Z10 (zri Q))
      refine z0 (op := 7) (a := 2) (b := 0) (by rfl) (by rfl) (?_ : TZ (d + 1) 221 51 [some (.inr 100), some (.inl x1), some (.inl x3), some (.inl x3)] [] Z10 (zri Q))
      refine z0 (op := 11) (a := 3) (b := 1) (by rfl) (by rfl) (?_ : TZ (d + 1) 221 54 [some (.inr 100), some (.inl x1), some (.inl x3), some (.inl (x3 + 1))] [] Z10 (zri Q))
      refine z_goto (t := 20) (by rfl) (by rfl) (?_ : TZ (d + 1) 221 20 [some (.inr 100), some (.inl x1), some (.inl x3), some (.inl (x3 + 1))] [] Z10 (zri Q))
      exact v
theorem w222_0 {d : Nat} {x1 : Int} {Z : zM} {Q : Int → zM → Prop}
    (v : TI d 156 [.inl x1, .inl 0, .inl 4] Z (fun r2 Z1 =>
      zR r2 ∧
        (r2 = 0 → TZ (d + 1) 222 22 [some (.inr 100), some (.inl x1), some (.inl r2), some (.inl 0), some (.inl 0), none] [] Z1 (zri Q)) ∧
        (¬ r2 = 0 → TI d 154 [.inr 100, .inl r2] Z1 (fun r6 Z5 =>
            Q r6 Z5)))) :
    TZ (d + 1) 222 0 [some (.inr 100), some (.inl x1), none, none, none, none] [] Z (zri Q) := by
  refine z0 (op := 3) (a := 1) (b := 0) (by rfl) (by rfl) (?_ : TZ (d + 1) 222 1 [some (.inr 100), some (.inl x1), none, none, none, none] [.inl x1] Z (zri Q))
  refine z0 (op := 0) (a := 0) (b := 0) (by rfl) (by rfl) (?_ : TZ (d + 1) 222 2 [some (.inr 100), some (.inl x1), none, none, none, none] [.inl 0, .inl x1] Z (zri Q))
  refine z0 (op := 0) (a := 0) (b := 4) (by rfl) (by rfl) (?_ : TZ (d + 1) 222 3 [some (.inr 100), some (.inl x1), none, none, none, none] [.inl 4, .inl 0, .inl x1] Z (zri Q))
  refine z_si (by rfl) (by rfl) (TI.mono v fun r2 Z1 v => ?_)
  show TZ (d + 1) 222 6 [some (.inr 100), some (.inl x1), none, none, none, none] [.inl r2] Z1 (zri Q)
  refine z0 (op := 7) (a := 2) (b := 0) (by rfl) (by rfl) (?_ : TZ (d + 1) 222 7 [some (.inr 100), some (.inl x1), some (.inl r2), none, none, none] [] Z1 (zri Q))
  refine z0 (op := 3) (a := 2) (b := 0) (by rfl) (by rfl) (?_ : TZ (d + 1) 222 8 [some (.inr 100), some (.inl x1), some (.inl r2), none, none, none] [.inl r2] Z1 (zri Q))
  obtain ⟨c3, v1, v2⟩ := v
  refine z_if0 (a := 0) (t := 17) (by rfl) (by rfl) c3 (fun h4 => ?_) (fun h4 => ?_)
  · have v := v1 h4; clear v1 v2
    show TZ (d + 1) 222 17 [some (.inr 100), some (.inl x1), some (.inl r2), none, none, none] [] Z1 (zri Q)
    refine z0 (op := 0) (a := 0) (b := 0) (by rfl) (by rfl) (?_ : TZ (d + 1) 222 18 [some (.inr 100), some (.inl x1), some (.inl r2), none, none, none] [.inl 0] Z1 (zri Q))
    refine z0 (op := 7) (a := 3) (b := 0) (by rfl) (by rfl) (?_ : TZ (d + 1) 222 19 [some (.inr 100), some (.inl x1), some (.inl r2), some (.inl 0), none, none] [] Z1 (zri Q))
    refine z0 (op := 0) (a := 0) (b := 0) (by rfl) (by rfl) (?_ : TZ (d + 1) 222 20 [some (.inr 100), some (.inl x1), some (.inl r2), some (.inl 0), none, none] [.inl 0] Z1 (zri Q))
    refine z0 (op := 8) (a := 4) (b := 0) (by rfl) (by rfl) (?_ : TZ (d + 1) 222 22 [some (.inr 100), some (.inl x1), some (.inl r2), some (.inl 0), some (.inl 0), none] [] Z1 (zri Q))
    exact v
  · have v := v2 h4; clear v1 v2
    show TZ (d + 1) 222 11 [some (.inr 100), some (.inl x1), some (.inl r2), none, none, none] [] Z1 (zri Q)
    refine z0 (op := 5) (a := 0) (b := 0) (by rfl) (by rfl) (?_ : TZ (d + 1) 222 12 [some (.inr 100), some (.inl x1), some (.inl r2), none, none, none] [.inr 100] Z1 (zri Q))
    refine z0 (op := 3) (a := 2) (b := 0) (by rfl) (by rfl) (?_ : TZ (d + 1) 222 13 [some (.inr 100), some (.inl x1), some (.inl r2), none, none, none] [.inl r2, .inr 100] Z1 (zri Q))
    refine z_vi (by rfl) (by rfl) cl_100 (TI.mono v fun r6 Z5 v => ?_)
    show TZ (d + 1) 222 16 [some (.inr 100), some (.inl x1), some (.inl r2), none, none, none] [.inl r6] Z5 (zri Q)
    exact z_reti (by rfl) (by rfl) v
theorem w222_22 {d : Nat} {x1 x2 x3 x4 : Int} {o5 : Option zV} {Z : zM} {Q : Int → zM → Prop}
    (v : TI d 212 [.inr 100, .inl x1] Z (fun r2 Z1 =>
      zR x4 ∧
        zR r2 ∧
        (r2 ≤ x4 → Q x3 Z1) ∧
        (¬ r2 ≤ x4 → TV d 213 [.inr 100, .inl x4, .inl x1] Z1 (fun Z6 =>
            TV d 179 [.inr 100] Z6 (fun Z7 =>
              TZ (d + 1) 222 46 [some (.inr 100), some (.inl x1), some (.inl x2), some (.inl x3), some (.inl x4), some (.inl 0)] [] Z7 (zri Q)))))) :
    TZ (d + 1) 222 22 [some (.inr 100), some (.inl x1), some (.inl x2), some (.inl x3), some (.inl x4), o5] [] Z (zri Q) := by
  refine z0 (op := 4) (a := 4) (b := 0) (by rfl) (by rfl) (?_ : TZ (d + 1) 222 24 [some (.inr 100), some (.inl x1), some (.inl x2), some (.inl x3), some (.inl x4), o5] [.inl x4] Z (zri Q))
  refine z0 (op := 5) (a := 0) (b := 0) (by rfl) (by rfl) (?_ : TZ (d + 1) 222 25 [some (.inr 100), some (.inl x1), some (.inl x2), some (.inl x3), some (.inl x4), o5] [.inr 100, .inl x4] Z (zri Q))
  refine z0 (op := 3) (a := 1) (b := 0) (by rfl) (by rfl) (?_ : TZ (d + 1) 222 26 [some (.inr 100), some (.inl x1), some (.inl x2), some (.inl x3), some (.inl x4), o5] [.inl x1, .inr 100, .inl x4] Z (zri Q))
  refine z_vi (by rfl) (by rfl) cl_100 (TI.mono v fun r2 Z1 v => ?_)
  show TZ (d + 1) 222 29 [some (.inr 100), some (.inl x1), some (.inl x2), some (.inl x3), some (.inl x4), o5] [.inl r2, .inl x4] Z1 (zri Q)
  obtain ⟨c3, c4, v1, v2⟩ := v
  refine z_if2 (a := 3) (t := 107) (by rfl) (by rfl) c3 c4 (fun h5 => ?_) (fun h5 => ?_)
  · have v := v1 h5; clear v1 v2
    show TZ (d + 1) 222 107 [some (.inr 100), some (.inl x1), some (.inl x2), some (.inl x3), some (.inl x4), o5] [] Z1 (zri Q)
    refine z0 (op := 3) (a := 3) (b := 0) (by rfl) (by rfl) (?_ : TZ (d + 1) 222 108 [some (.inr 100), some (.inl x1), some (.inl x2), some (.inl x3), some (.inl x4), o5] [.inl x3] Z1 (zri Q))
    exact z_reti (by rfl) (by rfl) v
  · have v := v2 h5; clear v1 v2
    show TZ (d + 1) 222 32 [some (.inr 100), some (.inl x1), some (.inl x2), some (.inl x3), some (.inl x4), o5] [] Z1 (zri Q)
    refine z0 (op := 5) (a := 0) (b := 0) (by rfl) (by rfl) (?_ : TZ (d + 1) 222 33 [some (.inr 100), some (.inl x1), some (.inl x2), some (.inl x3), some (.inl x4), o5] [.inr 100] Z1 (zri Q))
    refine z0 (op := 4) (a := 4) (b := 0) (by rfl) (by rfl) (?_ : TZ (d + 1) 222 35 [some (.inr 100), some (.inl x1), some (.inl x2), some (.inl x3), some (.inl x4), o5] [.inl x4, .inr 100] Z1 (zri Q))
    refine z0 (op := 3) (a := 1) (b := 0) (by rfl) (by rfl) (?_ : TZ (d + 1) 222 36 [some (.inr 100), some (.inl x1), some (.inl x2), some (.inl x3), some (.inl x4), o5] [.inl x1, .inl x4, .inr 100] Z1 (zri Q))
    refine z_vv (by rfl) (by rfl) cl_100 (TV.mono v fun Z6 v => ?_)
    show TZ (d + 1) 222 39 [some (.inr 100), some (.inl x1), some (.inl x2), some (.inl x3), some (.inl x4), o5] [] Z6 (zri Q)
    refine z0 (op := 5) (a := 0) (b := 0) (by rfl) (by rfl) (?_ : TZ (d + 1) 222 40 [some (.inr 100), some (.inl x1), some (.inl x2), some (.inl x3), some (.inl x4), o5] [.inr 100] Z6 (zri Q))
    refine z_vv (by rfl) (by rfl) cl_100 (TV.mono v fun Z7 v => ?_)
    show TZ (d + 1) 222 43 [some (.inr 100), some (.inl x1), some (.inl x2), some (.inl x3), some (.inl x4), o5] [] Z7 (zri Q)
    refine z0 (op := 0) (a := 0) (b := 0) (by rfl) (by rfl) (?_ : TZ (d + 1) 222 44 [some (.inr 100), some (.inl x1), some (.inl x2), some (.inl x3), some (.inl x4), o5] [.inl 0] Z7 (zri Q))
    refine z0 (op := 8) (a := 5) (b := 0) (by rfl) (by rfl) (?_ : TZ (d + 1) 222 46 [some (.inr 100), some (.inl x1), some (.inl x2), some (.inl x3), some (.inl x4), some (.inl 0)] [] Z7 (zri Q))
    exact v
theorem w222_46 {d : Nat} {x1 x2 x3 x4 x5 : Int} {Z : zM} {Q : Int → zM → Prop}
    (v : zR x5 ∧
      zR x1 ∧
      (x1 ≤ x5 → TI d 159 [.inr 100, .inl ((Z 100 6) - 1)] Z (fun r5 Z4 =>
          TV d 180 [.inr 100] Z4 (fun Z6 =>
            zR r5 ∧
              zR x3 ∧
              (r5 ≤ x3 → TZ (d + 1) 222 22 [some (.inr 100), some (.inl x1), some (.inl x2), some (.inl x3), some (.inl (x4 + 1)), some (.inl r5)] [] Z6 (zri Q)) ∧
              (¬ r5 ≤ x3 → TZ (d + 1) 222 22 [some (.inr 100), some (.inl x1), some (.inl x2), some (.inl r5), some (.inl (x4 + 1)), some (.inl r5)] [] Z6 (zri Q))))) ∧
      (¬ x1 ≤ x5 → ((0 ≤ x5 ∧ x5 < 4) ∧
          TI d 188 [.inr 100, .inl ((Z 114 x5) - 1)] Z (fun r12 Z11 =>
          TZ (d + 1) 222 46 [some (.inr 100), some (.inl x1), some (.inl x2), some (.inl x3), some (.inl x4), some (.inl (x5 + 1))] [] Z11 (zri Q))))) :
    TZ (d + 1) 222 46 [some (.inr 100), some (.inl x1), some (.inl x2), some (.inl x3), some (.inl x4), some (.inl x5)] [] Z (zri Q) := by
  refine z0 (op := 4) (a := 5) (b := 0) (by rfl) (by rfl) (?_ : TZ (d + 1) 222 48 [some (.inr 100), some (.inl x1), some (.inl x2), some (.inl x3), some (.inl x4), some (.inl x5)] [.inl x5] Z (zri Q))
  refine z0 (op := 3) (a := 1) (b := 0) (by rfl) (by rfl) (?_ : TZ (d + 1) 222 49 [some (.inr 100), some (.inl x1), some (.inl x2), some (.inl x3), some (.inl x4), some (.inl x5)] [.inl x1, .inl x5] Z (zri Q))
  obtain ⟨c1, c2, v1, v2⟩ := v
  refine z_if2 (a := 3) (t := 72) (by rfl) (by rfl) c1 c2 (fun h3 => ?_) (fun h3 => ?_)
  · have v := v1 h3; clear v1 v2
    show TZ (d + 1) 222 72 [some (.inr 100), some (.inl x1), some (.inl x2), some (.inl x3), some (.inl x4), some (.inl x5)] [] Z (zri Q)
    refine z0 (op := 5) (a := 0) (b := 0) (by rfl) (by rfl) (?_ : TZ (d + 1) 222 73 [some (.inr 100), some (.inl x1), some (.inl x2), some (.inl x3), some (.inl x4), some (.inl x5)] [.inr 100] Z (zri Q))
    refine z0 (op := 5) (a := 0) (b := 0) (by rfl) (by rfl) (?_ : TZ (d + 1) 222 74 [some (.inr 100), some (.inl x1), some (.inl x2), some (.inl x3), some (.inl x4), some (.inl x5)] [.inr 100, .inr 100] Z (zri Q))
    refine z_fi (by rfl) fi110_100 (?_ : TZ (d + 1) 222 77 [some (.inr 100), some (.inl x1), some (.inl x2), some (.inl x3), some (.inl x4), some (.inl x5)] [.inl (Z 100 6), .inr 100] Z (zri Q))
    refine z0 (op := 0) (a := 0) (b := 1) (by rfl) (by rfl) (?_ : TZ (d + 1) 222 78 [some (.inr 100), some (.inl x1), some (.inl x2), some (.inl x3), some (.inl x4), some (.inl x5)] [.inl 1, .inl (Z 100 6), .inr 100] Z (zri Q))
    refine z0 (op := 12) (a := 1) (b := 0) (by rfl) (by rfl) (?_ : TZ (d + 1) 222 79 [some (.inr 100), some (.inl x1), some (.inl x2), some (.inl x3), some (.inl x4), some (.inl x5)] [.inl ((Z 100 6) - 1), .inr 100] Z (zri Q))
    refine z_vi (by rfl) (by rfl) cl_100 (TI.mono v fun r5 Z4 v => ?_)
    show TZ (d + 1) 222 82 [some (.inr 100), some (.inl x1), some (.inl x2), some (.inl x3), some (.inl x4), some (.inl x5)] [.inl r5] Z4 (zri Q)
    refine z0 (op := 8) (a := 5) (b := 0) (by rfl) (by rfl) (?_ : TZ (d + 1) 222 84 [some (.inr 100), some (.inl x1), some (.inl x2), some (.inl x3), some (.inl x4), some (.inl r5)] [] Z4 (zri Q))
    refine z0 (op := 5) (a := 0) (b := 0) (by rfl) (by rfl) (?_ : TZ (d + 1) 222 85 [some (.inr 100), some (.inl x1), some (.inl x2), some (.inl x3), some (.inl x4), some (.inl r5)] [.inr 100] Z4 (zri Q))
    refine z_vv (by rfl) (by rfl) cl_100 (TV.mono v fun Z6 v => ?_)
    show TZ (d + 1) 222 88 [some (.inr 100), some (.inl x1), some (.inl x2), some (.inl x3), some (.inl x4), some (.inl r5)] [] Z6 (zri Q)
    refine z0 (op := 4) (a := 5) (b := 0) (by rfl) (by rfl) (?_ : TZ (d + 1) 222 90 [some (.inr 100), some (.inl x1), some (.inl x2), some (.inl x3), some (.inl x4), some (.inl r5)] [.inl r5] Z6 (zri Q))
    refine z0 (op := 3) (a := 3) (b := 0) (by rfl) (by rfl) (?_ : TZ (d + 1) 222 91 [some (.inr 100), some (.inl x1), some (.inl x2), some (.inl x3), some (.inl x4), some (.inl r5)] [.inl x3, .inl r5] Z6 (zri Q))
    obtain ⟨c7, c8, v1, v2⟩ := v
    refine z_if2 (a := 5) (t := 99) (by rfl) (by rfl) c7 c8 (fun h9 => ?_) (fun h9 => ?_)
    · have v := v1 h9; clear v1 v2
      show TZ (d + 1) 222 99 [some (.inr 100), some (.inl x1), some (.inl x2), some (.inl x3), some (.inl x4), some (.inl r5)] [] Z6 (zri Q)
      refine z0 (op := 3) (a := 3) (b := 0) (by rfl) (by rfl) (?_ : TZ (d + 1) 222 100 [some (.inr 100), some (.inl x1), some (.inl x2), some (.inl x3), some (.inl x4), some (.inl r5)] [.inl x3] Z6 (zri Q))
      refine z0 (op := 7) (a := 3) (b := 0) (by rfl) (by rfl) (?_ : TZ (d + 1) 222 101 [some (.inr 100), some (.inl x1), some (.inl x2), some (.inl x3), some (.inl x4), some (.inl r5)] [] Z6 (zri Q))
      refine z0 (op := 11) (a := 4) (b := 1) (by rfl) (by rfl) (?_ : TZ (d + 1) 222 104 [some (.inr 100), some (.inl x1), some (.inl x2), some (.inl x3), some (.inl (x4 + 1)), some (.inl r5)] [] Z6 (zri Q))
      refine z_goto (t := 22) (by rfl) (by rfl) (?_ : TZ (d + 1) 222 22 [some (.inr 100), some (.inl x1), some (.inl x2), some (.inl x3), some (.inl (x4 + 1)), some (.inl r5)] [] Z6 (zri Q))
      exact v
    · have v := v2 h9; clear v1 v2
      show TZ (d + 1) 222 94 [some (.inr 100), some (.inl x1), some (.inl x2), some (.inl x3), some (.inl x4), some (.inl r5)] [] Z6 (zri Q)
      refine z0 (op := 4) (a := 5) (b := 0) (by rfl) (by rfl) (?_ : TZ (d + 1) 222 96 [some (.inr 100), some (.inl x1), some (.inl x2), some (.inl x3), some (.inl x4), some (.inl r5)] [.inl r5] Z6 (zri Q))
      refine z_goto (t := 100) (by rfl) (by rfl) (?_ : TZ (d + 1) 222 100 [some (.inr 100), some (.inl x1), some (.inl x2), some (.inl x3), some (.inl x4), some (.inl r5)] [.inl r5] Z6 (zri Q))
      refine z0 (op := 7) (a := 3) (b := 0) (by rfl) (by rfl) (?_ : TZ (d + 1) 222 101 [some (.inr 100), some (.inl x1), some (.inl x2), some (.inl r5), some (.inl x4), some (.inl r5)] [] Z6 (zri Q))
      refine z0 (op := 11) (a := 4) (b := 1) (by rfl) (by rfl) (?_ : TZ (d + 1) 222 104 [some (.inr 100), some (.inl x1), some (.inl x2), some (.inl r5), some (.inl (x4 + 1)), some (.inl r5)] [] Z6 (zri Q))
      refine z_goto (t := 22) (by rfl) (by rfl) (?_ : TZ (d + 1) 222 22 [some (.inr 100), some (.inl x1), some (.inl x2), some (.inl r5), some (.inl (x4 + 1)), some (.inl r5)] [] Z6 (zri Q))
      exact v
  · have v := v2 h3; clear v1 v2
    show TZ (d + 1) 222 52 [some (.inr 100), some (.inl x1), some (.inl x2), some (.inl x3), some (.inl x4), some (.inl x5)] [] Z (zri Q)
    refine z0 (op := 5) (a := 0) (b := 0) (by rfl) (by rfl) (?_ : TZ (d + 1) 222 53 [some (.inr 100), some (.inl x1), some (.inl x2), some (.inl x3), some (.inl x4), some (.inl x5)] [.inr 100] Z (zri Q))
    refine z0 (op := 5) (a := 0) (b := 0) (by rfl) (by rfl) (?_ : TZ (d + 1) 222 54 [some (.inr 100), some (.inl x1), some (.inl x2), some (.inl x3), some (.inl x4), some (.inl x5)] [.inr 100, .inr 100] Z (zri Q))
    refine z_fr (by rfl) fr101_100 (?_ : TZ (d + 1) 222 57 [some (.inr 100), some (.inl x1), some (.inl x2), some (.inl x3), some (.inl x4), some (.inl x5)] [.inr 114, .inr 100] Z (zri Q))
    refine z0 (op := 4) (a := 5) (b := 0) (by rfl) (by rfl) (?_ : TZ (d + 1) 222 59 [some (.inr 100), some (.inl x1), some (.inl x2), some (.inl x3), some (.inl x4), some (.inl x5)] [.inl x5, .inr 114, .inr 100] Z (zri Q))
    obtain ⟨c10, v⟩ := v
    refine z_al (by rfl) ln_114 c10 (?_ : TZ (d + 1) 222 60 [some (.inr 100), some (.inl x1), some (.inl x2), some (.inl x3), some (.inl x4), some (.inl x5)] [.inl (Z 114 x5), .inr 100] Z (zri Q))
    refine z0 (op := 0) (a := 0) (b := 1) (by rfl) (by rfl) (?_ : TZ (d + 1) 222 61 [some (.inr 100), some (.inl x1), some (.inl x2), some (.inl x3), some (.inl x4), some (.inl x5)] [.inl 1, .inl (Z 114 x5), .inr 100] Z (zri Q))
    refine z0 (op := 12) (a := 1) (b := 0) (by rfl) (by rfl) (?_ : TZ (d + 1) 222 62 [some (.inr 100), some (.inl x1), some (.inl x2), some (.inl x3), some (.inl x4), some (.inl x5)] [.inl ((Z 114 x5) - 1), .inr 100] Z (zri Q))
    refine z_vi (by rfl) (by rfl) cl_100 (TI.mono v fun r12 Z11 v => ?_)
    show TZ (d + 1) 222 65 [some (.inr 100), some (.inl x1), some (.inl x2), some (.inl x3), some (.inl x4), some (.inl x5)] [.inl r12] Z11 (zri Q)
    refine z0 (op := 14) (a := 0) (b := 0) (by rfl) (by rfl) (?_ : TZ (d + 1) 222 66 [some (.inr 100), some (.inl x1), some (.inl x2), some (.inl x3), some (.inl x4), some (.inl x5)] [] Z11 (zri Q))
    refine z0 (op := 11) (a := 5) (b := 1) (by rfl) (by rfl) (?_ : TZ (d + 1) 222 69 [some (.inr 100), some (.inl x1), some (.inl x2), some (.inl x3), some (.inl x4), some (.inl (x5 + 1))] [] Z11 (zri Q))
    refine z_goto (t := 46) (by rfl) (by rfl) (?_ : TZ (d + 1) 222 46 [some (.inr 100), some (.inl x1), some (.inl x2), some (.inl x3), some (.inl x4), some (.inl (x5 + 1))] [] Z11 (zri Q))
    exact v
theorem w223_0 {d : Nat} {x1 : Int} {Z : zM} {Q : zM → Prop}
    (v : TZ d 223 2 [some (.inr 100), some (.inl x1), some (.inl 0)] [] Z (zrv Q)) :
    TZ d 223 0 [some (.inr 100), some (.inl x1), none] [] Z (zrv Q) := by
  refine z0 (op := 0) (a := 0) (b := 0) (by rfl) (by rfl) (?_ : TZ d 223 1 [some (.inr 100), some (.inl x1), none] [.inl 0] Z (zrv Q))
  refine z0 (op := 7) (a := 2) (b := 0) (by rfl) (by rfl) (?_ : TZ d 223 2 [some (.inr 100), some (.inl x1), some (.inl 0)] [] Z (zrv Q))
  exact v
theorem w223_2 {d : Nat} {x1 x2 : Int} {Z : zM} {Q : zM → Prop}
    (v : zR x2 ∧
      (8 ≤ x2 → Q Z) ∧
      (¬ 8 ≤ x2 → TV d 179 [.inr 100] Z (fun Z3 =>
          TV d 195 [.inr 100, .inl x2] Z3 (fun Z4 =>
            TV d 189 [.inr 100, .inl x1, .inl (-1)] Z4 (fun Z5 =>
              TI d 161 [.inr 100] Z5 (fun r7 Z6 =>
                (0 ≤ x2 ∧ x2 < 8) ∧
                  ∀ Z9, Z9 = zup Z6 117 x2 r7 →
                  TV d 180 [.inr 100] Z9 (fun Z10 =>
                  TZ (d + 1) 223 2 [some (.inr 100), some (.inl x1), some (.inl (x2 + 1))] [] Z10 (zrv Q)))))))) :
    TZ (d + 1) 223 2 [some (.inr 100), some (.inl x1), some (.inl x2)] [] Z (zrv Q) := by
  refine z0 (op := 3) (a := 2) (b := 0) (by rfl) (by rfl) (?_ : TZ (d + 1) 223 3 [some (.inr 100), some (.inl x1), some (.inl x2)] [.inl x2] Z (zrv Q))
  refine z0 (op := 1) (a := 0) (b := 8) (by rfl) (by rfl) (?_ : TZ (d + 1) 223 5 [some (.inr 100), some (.inl x1), some (.inl x2)] [.inl 8, .inl x2] Z (zrv Q))
  obtain ⟨c1, v1, v2⟩ := v
  refine z_if2 (a := 3) (t := 43) (by rfl) (by rfl) c1 (by decide) (fun h2 => ?_) (fun h2 => ?_)
  · have v := v1 h2; clear v1 v2
    show TZ (d + 1) 223 43 [some (.inr 100), some (.inl x1), some (.inl x2)] [] Z (zrv Q)
    exact z_retv (by rfl) (by rfl) v
  · have v := v2 h2; clear v1 v2
    show TZ (d + 1) 223 8 [some (.inr 100), some (.inl x1), some (.inl x2)] [] Z (zrv Q)
    refine z0 (op := 5) (a := 0) (b := 0) (by rfl) (by rfl) (?_ : TZ (d + 1) 223 9 [some (.inr 100), some (.inl x1), some (.inl x2)] [.inr 100] Z (zrv Q))
    refine z_vv (by rfl) (by rfl) cl_100 (TV.mono v fun Z3 v => ?_)
    show TZ (d + 1) 223 12 [some (.inr 100), some (.inl x1), some (.inl x2)] [] Z3 (zrv Q)
    refine z0 (op := 5) (a := 0) (b := 0) (by rfl) (by rfl) (?_ : TZ (d + 1) 223 13 [some (.inr 100), some (.inl x1), some (.inl x2)] [.inr 100] Z3 (zrv Q))
    refine z0 (op := 3) (a := 2) (b := 0) (by rfl) (by rfl) (?_ : TZ (d + 1) 223 14 [some (.inr 100), some (.inl x1), some (.inl x2)] [.inl x2, .inr 100] Z3 (zrv Q))
    refine z_vv (by rfl) (by rfl) cl_100 (TV.mono v fun Z4 v => ?_)
    show TZ (d + 1) 223 17 [some (.inr 100), some (.inl x1), some (.inl x2)] [] Z4 (zrv Q)
    refine z0 (op := 5) (a := 0) (b := 0) (by rfl) (by rfl) (?_ : TZ (d + 1) 223 18 [some (.inr 100), some (.inl x1), some (.inl x2)] [.inr 100] Z4 (zrv Q))
    refine z0 (op := 3) (a := 1) (b := 0) (by rfl) (by rfl) (?_ : TZ (d + 1) 223 19 [some (.inr 100), some (.inl x1), some (.inl x2)] [.inl x1, .inr 100] Z4 (zrv Q))
    refine z0 (op := 0) (a := 0) (b := (-1)) (by rfl) (by rfl) (?_ : TZ (d + 1) 223 20 [some (.inr 100), some (.inl x1), some (.inl x2)] [.inl (-1), .inl x1, .inr 100] Z4 (zrv Q))
    refine z_vv (by rfl) (by rfl) cl_100 (TV.mono v fun Z5 v => ?_)
    show TZ (d + 1) 223 23 [some (.inr 100), some (.inl x1), some (.inl x2)] [] Z5 (zrv Q)
    refine z0 (op := 5) (a := 0) (b := 0) (by rfl) (by rfl) (?_ : TZ (d + 1) 223 24 [some (.inr 100), some (.inl x1), some (.inl x2)] [.inr 100] Z5 (zrv Q))
    refine z_fr (by rfl) fr104_100 (?_ : TZ (d + 1) 223 27 [some (.inr 100), some (.inl x1), some (.inl x2)] [.inr 117] Z5 (zrv Q))
    refine z0 (op := 3) (a := 2) (b := 0) (by rfl) (by rfl) (?_ : TZ (d + 1) 223 28 [some (.inr 100), some (.inl x1), some (.inl x2)] [.inl x2, .inr 117] Z5 (zrv Q))
    refine z0 (op := 5) (a := 0) (b := 0) (by rfl) (by rfl) (?_ : TZ (d + 1) 223 29 [some (.inr 100), some (.inl x1), some (.inl x2)] [.inr 100, .inl x2, .inr 117] Z5 (zrv Q))
    refine z_vi (by rfl) (by rfl) cl_100 (TI.mono v fun r7 Z6 v => ?_)
    show TZ (d + 1) 223 32 [some (.inr 100), some (.inl x1), some (.inl x2)] [.inl r7, .inl x2, .inr 117] Z6 (zrv Q)
    obtain ⟨c8, v⟩ := v
    obtain ⟨Z9, eZ9⟩ : ∃ zz, zz = zup Z6 117 x2 r7 := ⟨_, rfl⟩
    have v := v Z9 eZ9
    refine z_as (by rfl) ln_117 c8 ?_
    show TZ (d + 1) 223 33 [some (.inr 100), some (.inl x1), some (.inl x2)] [] (zup Z6 117 x2 r7) _
    rw [← eZ9]
    refine z0 (op := 5) (a := 0) (b := 0) (by rfl) (by rfl) (?_ : TZ (d + 1) 223 34 [some (.inr 100), some (.inl x1), some (.inl x2)] [.inr 100] Z9 (zrv Q))
    refine z_vv (by rfl) (by rfl) cl_100 (TV.mono v fun Z10 v => ?_)
    show TZ (d + 1) 223 37 [some (.inr 100), some (.inl x1), some (.inl x2)] [] Z10 (zrv Q)
    refine z0 (op := 11) (a := 2) (b := 1) (by rfl) (by rfl) (?_ : TZ (d + 1) 223 40 [some (.inr 100), some (.inl x1), some (.inl (x2 + 1))] [] Z10 (zrv Q))
    refine z_goto (t := 2) (by rfl) (by rfl) (?_ : TZ (d + 1) 223 2 [some (.inr 100), some (.inl x1), some (.inl (x2 + 1))] [] Z10 (zrv Q))
    exact v
theorem w224_0 {d : Nat} {Z : zM} {Q : Int → zM → Prop}
    (v : TZ d 224 6 [some (.inr 100), some (.inl 255), some (.inl 0), none] [] Z (zri Q)) :
    TZ d 224 0 [some (.inr 100), none, none, none] [] Z (zri Q) := by
  refine z0 (op := 2) (a := 0) (b := 255) (by rfl) (by rfl) (?_ : TZ d 224 3 [some (.inr 100), none, none, none] [.inl 255] Z (zri Q))
  refine z0 (op := 7) (a := 1) (b := 0) (by rfl) (by rfl) (?_ : TZ d 224 4 [some (.inr 100), some (.inl 255), none, none] [] Z (zri Q))
  refine z0 (op := 0) (a := 0) (b := 0) (by rfl) (by rfl) (?_ : TZ d 224 5 [some (.inr 100), some (.inl 255), none, none] [.inl 0] Z (zri Q))
  refine z0 (op := 7) (a := 2) (b := 0) (by rfl) (by rfl) (?_ : TZ d 224 6 [some (.inr 100), some (.inl 255), some (.inl 0), none] [] Z (zri Q))
  exact v
theorem w224_6 {d : Nat} {x1 x2 : Int} {o3 : Option zV} {Z : zM} {Q : Int → zM → Prop}
    (v : zR x2 ∧
      zR (Z 100 26) ∧
      ((Z 100 26) ≤ x2 → Q x1 Z) ∧
      (¬ (Z 100 26) ≤ x2 → TV d 223 [.inr 100, .inl x2] Z (fun Z4 =>
          TZ (d + 1) 224 21 [some (.inr 100), some (.inl x1), some (.inl x2), some (.inl 0)] [] Z4 (zri Q)))) :
    TZ (d + 1) 224 6 [some (.inr 100), some (.inl x1), some (.inl x2), o3] [] Z (zri Q) := by
  refine z0 (op := 3) (a := 2) (b := 0) (by rfl) (by rfl) (?_ : TZ (d + 1) 224 7 [some (.inr 100), some (.inl x1), some (.inl x2), o3] [.inl x2] Z (zri Q))
  refine z0 (op := 5) (a := 0) (b := 0) (by rfl) (by rfl) (?_ : TZ (d + 1) 224 8 [some (.inr 100), some (.inl x1), some (.inl x2), o3] [.inr 100, .inl x2] Z (zri Q))
  refine z_fi (by rfl) fi120_100 (?_ : TZ (d + 1) 224 11 [some (.inr 100), some (.inl x1), some (.inl x2), o3] [.inl (Z 100 26), .inl x2] Z (zri Q))
  obtain ⟨c1, c2, v1, v2⟩ := v
  refine z_if2 (a := 3) (t := 66) (by rfl) (by rfl) c1 c2 (fun h3 => ?_) (fun h3 => ?_)
  · have v := v1 h3; clear v1 v2
    show TZ (d + 1) 224 66 [some (.inr 100), some (.inl x1), some (.inl x2), o3] [] Z (zri Q)
    refine z0 (op := 3) (a := 1) (b := 0) (by rfl) (by rfl) (?_ : TZ (d + 1) 224 67 [some (.inr 100), some (.inl x1), some (.inl x2), o3] [.inl x1] Z (zri Q))
    exact z_reti (by rfl) (by rfl) v
  · have v := v2 h3; clear v1 v2
    show TZ (d + 1) 224 14 [some (.inr 100), some (.inl x1), some (.inl x2), o3] [] Z (zri Q)
    refine z0 (op := 5) (a := 0) (b := 0) (by rfl) (by rfl) (?_ : TZ (d + 1) 224 15 [some (.inr 100), some (.inl x1), some (.inl x2), o3] [.inr 100] Z (zri Q))
    refine z0 (op := 3) (a := 2) (b := 0) (by rfl) (by rfl) (?_ : TZ (d + 1) 224 16 [some (.inr 100), some (.inl x1), some (.inl x2), o3] [.inl x2, .inr 100] Z (zri Q))
    refine z_vv (by rfl) (by rfl) cl_100 (TV.mono v fun Z4 v => ?_)
    show TZ (d + 1) 224 19 [some (.inr 100), some (.inl x1), some (.inl x2), o3] [] Z4 (zri Q)
    refine z0 (op := 0) (a := 0) (b := 0) (by rfl) (by rfl) (?_ : TZ (d + 1) 224 20 [some (.inr 100), some (.inl x1), some (.inl x2), o3] [.inl 0] Z4 (zri Q))
    refine z0 (op := 7) (a := 3) (b := 0) (by rfl) (by rfl) (?_ : TZ (d + 1) 224 21 [some (.inr 100), some (.inl x1), some (.inl x2), some (.inl 0)] [] Z4 (zri Q))
    exact v
theorem w224_21 {d : Nat} {x1 x2 x3 : Int} {Z : zM} {Q : Int → zM → Prop}
    (v : zR x3 ∧
      (8 ≤ x3 → TZ d 224 6 [some (.inr 100), some (.inl x1), some (.inl (x2 + 1)), some (.inl x3)] [] Z (zri Q)) ∧
      (¬ 8 ≤ x3 → ((0 ≤ x3 ∧ x3 < 8) ∧
          (0 ≤ x2 ∧ x2 < 12) ∧
          zR (Z 117 x3) ∧
          zR (Z 116 x2) ∧
          ((Z 117 x3) ≠ (Z 116 x2) → TZ d 224 21 [some (.inr 100), some (.inl (zbit 3 x1 (zbit 5 (zbit 6 1 x3) (-1)))), some (.inl x2), some (.inl (x3 + 1))] [] Z (zri Q)) ∧
          (¬ (Z 117 x3) ≠ (Z 116 x2) → TZ d 224 21 [some (.inr 100), some (.inl (zbit 3 x1 (-1))), some (.inl x2), some (.inl (x3 + 1))] [] Z (zri Q))))) :
    TZ d 224 21 [some (.inr 100), some (.inl x1), some (.inl x2), some (.inl x3)] [] Z (zri Q) := by
  refine z0 (op := 3) (a := 3) (b := 0) (by rfl) (by rfl) (?_ : TZ d 224 22 [some (.inr 100), some (.inl x1), some (.inl x2), some (.inl x3)] [.inl x3] Z (zri Q))
  refine z0 (op := 1) (a := 0) (b := 8) (by rfl) (by rfl) (?_ : TZ d 224 24 [some (.inr 100), some (.inl x1), some (.inl x2), some (.inl x3)] [.inl 8, .inl x3] Z (zri Q))
  obtain ⟨c1, v1, v2⟩ := v
  refine z_if2 (a := 3) (t := 60) (by rfl) (by rfl) c1 (by decide) (fun h2 => ?_) (fun h2 => ?_)
  · have v := v1 h2; clear v1 v2
    show TZ d 224 60 [some (.inr 100), some (.inl x1), some (.inl x2), some (.inl x3)] [] Z (zri Q)
    refine z0 (op := 11) (a := 2) (b := 1) (by rfl) (by rfl) (?_ : TZ d 224 63 [some (.inr 100), some (.inl x1), some (.inl (x2 + 1)), some (.inl x3)] [] Z (zri Q))
    refine z_goto (t := 6) (by rfl) (by rfl) (?_ : TZ d 224 6 [some (.inr 100), some (.inl x1), some (.inl (x2 + 1)), some (.inl x3)] [] Z (zri Q))
    exact v
  · have v := v2 h2; clear v1 v2
    show TZ d 224 27 [some (.inr 100), some (.inl x1), some (.inl x2), some (.inl x3)] [] Z (zri Q)
    refine z0 (op := 3) (a := 1) (b := 0) (by rfl) (by rfl) (?_ : TZ d 224 28 [some (.inr 100), some (.inl x1), some (.inl x2), some (.inl x3)] [.inl x1] Z (zri Q))
    refine z0 (op := 5) (a := 0) (b := 0) (by rfl) (by rfl) (?_ : TZ d 224 29 [some (.inr 100), some (.inl x1), some (.inl x2), some (.inl x3)] [.inr 100, .inl x1] Z (zri Q))
    refine z_fr (by rfl) fr104_100 (?_ : TZ d 224 32 [some (.inr 100), some (.inl x1), some (.inl x2), some (.inl x3)] [.inr 117, .inl x1] Z (zri Q))
    refine z0 (op := 3) (a := 3) (b := 0) (by rfl) (by rfl) (?_ : TZ d 224 33 [some (.inr 100), some (.inl x1), some (.inl x2), some (.inl x3)] [.inl x3, .inr 117, .inl x1] Z (zri Q))
    obtain ⟨c3, v⟩ := v
    refine z_al (by rfl) ln_117 c3 (?_ : TZ d 224 34 [some (.inr 100), some (.inl x1), some (.inl x2), some (.inl x3)] [.inl (Z 117 x3), .inl x1] Z (zri Q))
    refine z0 (op := 5) (a := 0) (b := 0) (by rfl) (by rfl) (?_ : TZ d 224 35 [some (.inr 100), some (.inl x1), some (.inl x2), some (.inl x3)] [.inr 100, .inl (Z 117 x3), .inl x1] Z (zri Q))
    refine z_fr (by rfl) fr103_100 (?_ : TZ d 224 38 [some (.inr 100), some (.inl x1), some (.inl x2), some (.inl x3)] [.inr 116, .inl (Z 117 x3), .inl x1] Z (zri Q))
    refine z0 (op := 3) (a := 2) (b := 0) (by rfl) (by rfl) (?_ : TZ d 224 39 [some (.inr 100), some (.inl x1), some (.inl x2), some (.inl x3)] [.inl x2, .inr 116, .inl (Z 117 x3), .inl x1] Z (zri Q))
    obtain ⟨c4, v⟩ := v
    refine z_al (by rfl) ln_116 c4 (?_ : TZ d 224 40 [some (.inr 100), some (.inl x1), some (.inl x2), some (.inl x3)] [.inl (Z 116 x2), .inl (Z 117 x3), .inl x1] Z (zri Q))
    obtain ⟨c5, c6, v1, v2⟩ := v
    refine z_if2 (a := 1) (t := 47) (by rfl) (by rfl) c5 c6 (fun h7 => ?_) (fun h7 => ?_)
    · have v := v1 h7; clear v1 v2
      show TZ d 224 47 [some (.inr 100), some (.inl x1), some (.inl x2), some (.inl x3)] [.inl x1] Z (zri Q)
      refine z0 (op := 0) (a := 0) (b := 1) (by rfl) (by rfl) (?_ : TZ d 224 48 [some (.inr 100), some (.inl x1), some (.inl x2), some (.inl x3)] [.inl 1, .inl x1] Z (zri Q))
      refine z0 (op := 3) (a := 3) (b := 0) (by rfl) (by rfl) (?_ : TZ d 224 49 [some (.inr 100), some (.inl x1), some (.inl x2), some (.inl x3)] [.inl x3, .inl 1, .inl x1] Z (zri Q))
      refine z0 (op := 12) (a := 6) (b := 0) (by rfl) (by rfl) (?_ : TZ d 224 50 [some (.inr 100), some (.inl x1), some (.inl x2), some (.inl x3)] [.inl (zbit 6 1 x3), .inl x1] Z (zri Q))
      refine z0 (op := 0) (a := 0) (b := (-1)) (by rfl) (by rfl) (?_ : TZ d 224 51 [some (.inr 100), some (.inl x1), some (.inl x2), some (.inl x3)] [.inl (-1), .inl (zbit 6 1 x3), .inl x1] Z (zri Q))
      refine z0 (op := 12) (a := 5) (b := 0) (by rfl) (by rfl) (?_ : TZ d 224 52 [some (.inr 100), some (.inl x1), some (.inl x2), some (.inl x3)] [.inl (zbit 5 (zbit 6 1 x3) (-1)), .inl x1] Z (zri Q))
      refine z0 (op := 12) (a := 3) (b := 0) (by rfl) (by rfl) (?_ : TZ d 224 53 [some (.inr 100), some (.inl x1), some (.inl x2), some (.inl x3)] [.inl (zbit 3 x1 (zbit 5 (zbit 6 1 x3) (-1)))] Z (zri Q))
      refine z0 (op := 7) (a := 1) (b := 0) (by rfl) (by rfl) (?_ : TZ d 224 54 [some (.inr 100), some (.inl (zbit 3 x1 (zbit 5 (zbit 6 1 x3) (-1)))), some (.inl x2), some (.inl x3)] [] Z (zri Q))
      refine z0 (op := 11) (a := 3) (b := 1) (by rfl) (by rfl) (?_ : TZ d 224 57 [some (.inr 100), some (.inl (zbit 3 x1 (zbit 5 (zbit 6 1 x3) (-1)))), some (.inl x2), some (.inl (x3 + 1))] [] Z (zri Q))
      refine z_goto (t := 21) (by rfl) (by rfl) (?_ : TZ d 224 21 [some (.inr 100), some (.inl (zbit 3 x1 (zbit 5 (zbit 6 1 x3) (-1)))), some (.inl x2), some (.inl (x3 + 1))] [] Z (zri Q))
      exact v
    · have v := v2 h7; clear v1 v2
      show TZ d 224 43 [some (.inr 100), some (.inl x1), some (.inl x2), some (.inl x3)] [.inl x1] Z (zri Q)
      refine z0 (op := 0) (a := 0) (b := (-1)) (by rfl) (by rfl) (?_ : TZ d 224 44 [some (.inr 100), some (.inl x1), some (.inl x2), some (.inl x3)] [.inl (-1), .inl x1] Z (zri Q))
      refine z_goto (t := 52) (by rfl) (by rfl) (?_ : TZ d 224 52 [some (.inr 100), some (.inl x1), some (.inl x2), some (.inl x3)] [.inl (-1), .inl x1] Z (zri Q))
      refine z0 (op := 12) (a := 3) (b := 0) (by rfl) (by rfl) (?_ : TZ d 224 53 [some (.inr 100), some (.inl x1), some (.inl x2), some (.inl x3)] [.inl (zbit 3 x1 (-1))] Z (zri Q))
      refine z0 (op := 7) (a := 1) (b := 0) (by rfl) (by rfl) (?_ : TZ d 224 54 [some (.inr 100), some (.inl (zbit 3 x1 (-1))), some (.inl x2), some (.inl x3)] [] Z (zri Q))
      refine z0 (op := 11) (a := 3) (b := 1) (by rfl) (by rfl) (?_ : TZ d 224 57 [some (.inr 100), some (.inl (zbit 3 x1 (-1))), some (.inl x2), some (.inl (x3 + 1))] [] Z (zri Q))
      refine z_goto (t := 21) (by rfl) (by rfl) (?_ : TZ d 224 21 [some (.inr 100), some (.inl (zbit 3 x1 (-1))), some (.inl x2), some (.inl (x3 + 1))] [] Z (zri Q))
      exact v
theorem w225_0 {d : Nat} {x1 : Int} {Z : zM} {Q : Int → zM → Prop}
    (v : TV d 223 [.inr 100, .inl x1] Z (fun Z1 =>
      TZ (d + 1) 225 12 [some (.inr 100), some (.inl x1), some (.inl 0), some (.inl 0), some (.inl 0)] [] Z1 (zri Q))) :
    TZ (d + 1) 225 0 [some (.inr 100), some (.inl x1), none, none, none] [] Z (zri Q) := by
  refine z0 (op := 5) (a := 0) (b := 0) (by rfl) (by rfl) (?_ : TZ (d + 1) 225 1 [some (.inr 100), some (.inl x1), none, none, none] [.inr 100] Z (zri Q))
  refine z0 (op := 3) (a := 1) (b := 0) (by rfl) (by rfl) (?_ : TZ (d + 1) 225 2 [some (.inr 100), some (.inl x1), none, none, none] [.inl x1, .inr 100] Z (zri Q))
  refine z_vv (by rfl) (by rfl) cl_100 (TV.mono v fun Z1 v => ?_)
  show TZ (d + 1) 225 5 [some (.inr 100), some (.inl x1), none, none, none] [] Z1 (zri Q)
  refine z0 (op := 0) (a := 0) (b := 0) (by rfl) (by rfl) (?_ : TZ (d + 1) 225 6 [some (.inr 100), some (.inl x1), none, none, none] [.inl 0] Z1 (zri Q))
  refine z0 (op := 7) (a := 2) (b := 0) (by rfl) (by rfl) (?_ : TZ (d + 1) 225 7 [some (.inr 100), some (.inl x1), some (.inl 0), none, none] [] Z1 (zri Q))
  refine z0 (op := 0) (a := 0) (b := 0) (by rfl) (by rfl) (?_ : TZ (d + 1) 225 8 [some (.inr 100), some (.inl x1), some (.inl 0), none, none] [.inl 0] Z1 (zri Q))
  refine z0 (op := 7) (a := 3) (b := 0) (by rfl) (by rfl) (?_ : TZ (d + 1) 225 9 [some (.inr 100), some (.inl x1), some (.inl 0), some (.inl 0), none] [] Z1 (zri Q))
  refine z0 (op := 0) (a := 0) (b := 0) (by rfl) (by rfl) (?_ : TZ (d + 1) 225 10 [some (.inr 100), some (.inl x1), some (.inl 0), some (.inl 0), none] [.inl 0] Z1 (zri Q))
  refine z0 (op := 8) (a := 4) (b := 0) (by rfl) (by rfl) (?_ : TZ (d + 1) 225 12 [some (.inr 100), some (.inl x1), some (.inl 0), some (.inl 0), some (.inl 0)] [] Z1 (zri Q))
  exact v
theorem w225_12 {d : Nat} {x1 x2 x3 x4 : Int} {Z : zM} {Q : Int → zM → Prop}
    (v : zR x4 ∧
      (8 ≤ x4 → Q x3 Z) ∧
      (¬ 8 ≤ x4 → ((0 ≤ x4 ∧ x4 < 8) ∧
          zR (zbit 3 (zbit 7 x2 (Z 117 x4)) 1) ∧
          ((zbit 3 (zbit 7 x2 (Z 117 x4)) 1) ≠ 0 → ((0 ≤ x4 ∧ x4 < 8) ∧ TZ d 225 12 [some (.inr 100), some (.inl x1), some (.inl (zbit 4 x2 (zbit 6 1 (Z 117 x4)))), some (.inl (x3 + 0)), some (.inl (x4 + 1))] [] Z (zri Q))) ∧
          (¬ (zbit 3 (zbit 7 x2 (Z 117 x4)) 1) ≠ 0 → ((0 ≤ x4 ∧ x4 < 8) ∧ TZ d 225 12 [some (.inr 100), some (.inl x1), some (.inl (zbit 4 x2 (zbit 6 1 (Z 117 x4)))), some (.inl (x3 + 1)), some (.inl (x4 + 1))] [] Z (zri Q)))))) :
    TZ d 225 12 [some (.inr 100), some (.inl x1), some (.inl x2), some (.inl x3), some (.inl x4)] [] Z (zri Q) := by
  refine z0 (op := 4) (a := 4) (b := 0) (by rfl) (by rfl) (?_ : TZ d 225 14 [some (.inr 100), some (.inl x1), some (.inl x2), some (.inl x3), some (.inl x4)] [.inl x4] Z (zri Q))
  refine z0 (op := 1) (a := 0) (b := 8) (by rfl) (by rfl) (?_ : TZ d 225 16 [some (.inr 100), some (.inl x1), some (.inl x2), some (.inl x3), some (.inl x4)] [.inl 8, .inl x4] Z (zri Q))
  obtain ⟨c1, v1, v2⟩ := v
  refine z_if2 (a := 3) (t := 59) (by rfl) (by rfl) c1 (by decide) (fun h2 => ?_) (fun h2 => ?_)
  · have v := v1 h2; clear v1 v2
    show TZ d 225 59 [some (.inr 100), some (.inl x1), some (.inl x2), some (.inl x3), some (.inl x4)] [] Z (zri Q)
    refine z0 (op := 3) (a := 3) (b := 0) (by rfl) (by rfl) (?_ : TZ d 225 60 [some (.inr 100), some (.inl x1), some (.inl x2), some (.inl x3), some (.inl x4)] [.inl x3] Z (zri Q))
    exact z_reti (by rfl) (by rfl) v
  · have v := v2 h2; clear v1 v2
    show TZ d 225 19 [some (.inr 100), some (.inl x1), some (.inl x2), some (.inl x3), some (.inl x4)] [] Z (zri Q)
    refine z0 (op := 3) (a := 3) (b := 0) (by rfl) (by rfl) (?_ : TZ d 225 20 [some (.inr 100), some (.inl x1), some (.inl x2), some (.inl x3), some (.inl x4)] [.inl x3] Z (zri Q))
    refine z0 (op := 3) (a := 2) (b := 0) (by rfl) (by rfl) (?_ : TZ d 225 21 [some (.inr 100), some (.inl x1), some (.inl x2), some (.inl x3), some (.inl x4)] [.inl x2, .inl x3] Z (zri Q))
    refine z0 (op := 5) (a := 0) (b := 0) (by rfl) (by rfl) (?_ : TZ d 225 22 [some (.inr 100), some (.inl x1), some (.inl x2), some (.inl x3), some (.inl x4)] [.inr 100, .inl x2, .inl x3] Z (zri Q))
    refine z_fr (by rfl) fr104_100 (?_ : TZ d 225 25 [some (.inr 100), some (.inl x1), some (.inl x2), some (.inl x3), some (.inl x4)] [.inr 117, .inl x2, .inl x3] Z (zri Q))
    refine z0 (op := 4) (a := 4) (b := 0) (by rfl) (by rfl) (?_ : TZ d 225 27 [some (.inr 100), some (.inl x1), some (.inl x2), some (.inl x3), some (.inl x4)] [.inl x4, .inr 117, .inl x2, .inl x3] Z (zri Q))
    obtain ⟨c3, v⟩ := v
    refine z_al (by rfl) ln_117 c3 (?_ : TZ d 225 28 [some (.inr 100), some (.inl x1), some (.inl x2), some (.inl x3), some (.inl x4)] [.inl (Z 117 x4), .inl x2, .inl x3] Z (zri Q))
    refine z0 (op := 12) (a := 7) (b := 0) (by rfl) (by rfl) (?_ : TZ d 225 29 [some (.inr 100), some (.inl x1), some (.inl x2), some (.inl x3), some (.inl x4)] [.inl (zbit 7 x2 (Z 117 x4)), .inl x3] Z (zri Q))
    refine z0 (op := 0) (a := 0) (b := 1) (by rfl) (by rfl) (?_ : TZ d 225 30 [some (.inr 100), some (.inl x1), some (.inl x2), some (.inl x3), some (.inl x4)] [.inl 1, .inl (zbit 7 x2 (Z 117 x4)), .inl x3] Z (zri Q))
    refine z0 (op := 12) (a := 3) (b := 0) (by rfl) (by rfl) (?_ : TZ d 225 31 [some (.inr 100), some (.inl x1), some (.inl x2), some (.inl x3), some (.inl x4)] [.inl (zbit 3 (zbit 7 x2 (Z 117 x4)) 1), .inl x3] Z (zri Q))
    obtain ⟨c4, v1, v2⟩ := v
    refine z_if0 (a := 1) (t := 38) (by rfl) (by rfl) c4 (fun h5 => ?_) (fun h5 => ?_)
    · have v := v1 h5; clear v1 v2
      show TZ d 225 38 [some (.inr 100), some (.inl x1), some (.inl x2), some (.inl x3), some (.inl x4)] [.inl x3] Z (zri Q)
      refine z0 (op := 0) (a := 0) (b := 0) (by rfl) (by rfl) (?_ : TZ d 225 39 [some (.inr 100), some (.inl x1), some (.inl x2), some (.inl x3), some (.inl x4)] [.inl 0, .inl x3] Z (zri Q))
      refine z0 (op := 12) (a := 0) (b := 0) (by rfl) (by rfl) (?_ : TZ d 225 40 [some (.inr 100), some (.inl x1), some (.inl x2), some (.inl x3), some (.inl x4)] [.inl (x3 + 0)] Z (zri Q))
      refine z0 (op := 7) (a := 3) (b := 0) (by rfl) (by rfl) (?_ : TZ d 225 41 [some (.inr 100), some (.inl x1), some (.inl x2), some (.inl (x3 + 0)), some (.inl x4)] [] Z (zri Q))
      refine z0 (op := 3) (a := 2) (b := 0) (by rfl) (by rfl) (?_ : TZ d 225 42 [some (.inr 100), some (.inl x1), some (.inl x2), some (.inl (x3 + 0)), some (.inl x4)] [.inl x2] Z (zri Q))
      refine z0 (op := 0) (a := 0) (b := 1) (by rfl) (by rfl) (?_ : TZ d 225 43 [some (.inr 100), some (.inl x1), some (.inl x2), some (.inl (x3 + 0)), some (.inl x4)] [.inl 1, .inl x2] Z (zri Q))
      refine z0 (op := 5) (a := 0) (b := 0) (by rfl) (by rfl) (?_ : TZ d 225 44 [some (.inr 100), some (.inl x1), some (.inl x2), some (.inl (x3 + 0)), some (.inl x4)] [.inr 100, .inl 1, .inl x2] Z (zri Q))
      refine z_fr (by rfl) fr104_100 (?_ : TZ d 225 47 [some (.inr 100), some (.inl x1), some (.inl x2), some (.inl (x3 + 0)), some (.inl x4)] [.inr 117, .inl 1, .inl x2] Z (zri Q))
      refine z0 (op := 4) (a := 4) (b := 0) (by rfl) (by rfl) (?_ : TZ d 225 49 [some (.inr 100), some (.inl x1), some (.inl x2), some (.inl (x3 + 0)), some (.inl x4)] [.inl x4, .inr 117, .inl 1, .inl x2] Z (zri Q))
      obtain ⟨c6, v⟩ := v
      refine z_al (by rfl) ln_117 c6 (?_ : TZ d 225 50 [some (.inr 100), some (.inl x1), some (.inl x2), some (.inl (x3 + 0)), some (.inl x4)] [.inl (Z 117 x4), .inl 1, .inl x2] Z (zri Q))
      refine z0 (op := 12) (a := 6) (b := 0) (by rfl) (by rfl) (?_ : TZ d 225 51 [some (.inr 100), some (.inl x1), some (.inl x2), some (.inl (x3 + 0)), some (.inl x4)] [.inl (zbit 6 1 (Z 117 x4)), .inl x2] Z (zri Q))
      refine z0 (op := 12) (a := 4) (b := 0) (by rfl) (by rfl) (?_ : TZ d 225 52 [some (.inr 100), some (.inl x1), some (.inl x2), some (.inl (x3 + 0)), some (.inl x4)] [.inl (zbit 4 x2 (zbit 6 1 (Z 117 x4)))] Z (zri Q))
      refine z0 (op := 7) (a := 2) (b := 0) (by rfl) (by rfl) (?_ : TZ d 225 53 [some (.inr 100), some (.inl x1), some (.inl (zbit 4 x2 (zbit 6 1 (Z 117 x4)))), some (.inl (x3 + 0)), some (.inl x4)] [] Z (zri Q))
      refine z0 (op := 11) (a := 4) (b := 1) (by rfl) (by rfl) (?_ : TZ d 225 56 [some (.inr 100), some (.inl x1), some (.inl (zbit 4 x2 (zbit 6 1 (Z 117 x4)))), some (.inl (x3 + 0)), some (.inl (x4 + 1))] [] Z (zri Q))
      refine z_goto (t := 12) (by rfl) (by rfl) (?_ : TZ d 225 12 [some (.inr 100), some (.inl x1), some (.inl (zbit 4 x2 (zbit 6 1 (Z 117 x4)))), some (.inl (x3 + 0)), some (.inl (x4 + 1))] [] Z (zri Q))
      exact v
    · have v := v2 h5; clear v1 v2
      show TZ d 225 34 [some (.inr 100), some (.inl x1), some (.inl x2), some (.inl x3), some (.inl x4)] [.inl x3] Z (zri Q)
      refine z0 (op := 0) (a := 0) (b := 1) (by rfl) (by rfl) (?_ : TZ d 225 35 [some (.inr 100), some (.inl x1), some (.inl x2), some (.inl x3), some (.inl x4)] [.inl 1, .inl x3] Z (zri Q))
      refine z_goto (t := 39) (by rfl) (by rfl) (?_ : TZ d 225 39 [some (.inr 100), some (.inl x1), some (.inl x2), some (.inl x3), some (.inl x4)] [.inl 1, .inl x3] Z (zri Q))
      refine z0 (op := 12) (a := 0) (b := 0) (by rfl) (by rfl) (?_ : TZ d 225 40 [some (.inr 100), some (.inl x1), some (.inl x2), some (.inl x3), some (.inl x4)] [.inl (x3 + 1)] Z (zri Q))
      refine z0 (op := 7) (a := 3) (b := 0) (by rfl) (by rfl) (?_ : TZ d 225 41 [some (.inr 100), some (.inl x1), some (.inl x2), some (.inl (x3 + 1)), some (.inl x4)] [] Z (zri Q))
      refine z0 (op := 3) (a := 2) (b := 0) (by rfl) (by rfl) (?_ : TZ d 225 42 [some (.inr 100), some (.inl x1), some (.inl x2), some (.inl (x3 + 1)), some (.inl x4)] [.inl x2] Z (zri Q))
      refine z0 (op := 0) (a := 0) (b := 1) (by rfl) (by rfl) (?_ : TZ d 225 43 [some (.inr 100), some (.inl x1), some (.inl x2), some (.inl (x3 + 1)), some (.inl x4)] [.inl 1, .inl x2] Z (zri Q))
      refine z0 (op := 5) (a := 0) (b := 0) (by rfl) (by rfl) (?_ : TZ d 225 44 [some (.inr 100), some (.inl x1), some (.inl x2), some (.inl (x3 + 1)), some (.inl x4)] [.inr 100, .inl 1, .inl x2] Z (zri Q))
      refine z_fr (by rfl) fr104_100 (?_ : TZ d 225 47 [some (.inr 100), some (.inl x1), some (.inl x2), some (.inl (x3 + 1)), some (.inl x4)] [.inr 117, .inl 1, .inl x2] Z (zri Q))
      refine z0 (op := 4) (a := 4) (b := 0) (by rfl) (by rfl) (?_ : TZ d 225 49 [some (.inr 100), some (.inl x1), some (.inl x2), some (.inl (x3 + 1)), some (.inl x4)] [.inl x4, .inr 117, .inl 1, .inl x2] Z (zri Q))
      obtain ⟨c7, v⟩ := v
      refine z_al (by rfl) ln_117 c7 (?_ : TZ d 225 50 [some (.inr 100), some (.inl x1), some (.inl x2), some (.inl (x3 + 1)), some (.inl x4)] [.inl (Z 117 x4), .inl 1, .inl x2] Z (zri Q))
      refine z0 (op := 12) (a := 6) (b := 0) (by rfl) (by rfl) (?_ : TZ d 225 51 [some (.inr 100), some (.inl x1), some (.inl x2), some (.inl (x3 + 1)), some (.inl x4)] [.inl (zbit 6 1 (Z 117 x4)), .inl x2] Z (zri Q))
      refine z0 (op := 12) (a := 4) (b := 0) (by rfl) (by rfl) (?_ : TZ d 225 52 [some (.inr 100), some (.inl x1), some (.inl x2), some (.inl (x3 + 1)), some (.inl x4)] [.inl (zbit 4 x2 (zbit 6 1 (Z 117 x4)))] Z (zri Q))
      refine z0 (op := 7) (a := 2) (b := 0) (by rfl) (by rfl) (?_ : TZ d 225 53 [some (.inr 100), some (.inl x1), some (.inl (zbit 4 x2 (zbit 6 1 (Z 117 x4)))), some (.inl (x3 + 1)), some (.inl x4)] [] Z (zri Q))
      refine z0 (op := 11) (a := 4) (b := 1) (by rfl) (by rfl) (?_ : TZ d 225 56 [some (.inr 100), some (.inl x1), some (.inl (zbit 4 x2 (zbit 6 1 (Z 117 x4)))), some (.inl (x3 + 1)), some (.inl (x4 + 1))] [] Z (zri Q))
      refine z_goto (t := 12) (by rfl) (by rfl) (?_ : TZ d 225 12 [some (.inr 100), some (.inl x1), some (.inl (zbit 4 x2 (zbit 6 1 (Z 117 x4)))), some (.inl (x3 + 1)), some (.inl (x4 + 1))] [] Z (zri Q))
      exact v
theorem w226_0 {d : Nat} {x1 : Int} {Z : zM} {Q : Int → zM → Prop}
    (v : TI d 155 [.inl x1, .inl 0, .inl 1] Z (fun r2 Z1 =>
      zR r2 ∧
        (r2 ≠ 0 → TZ (d + 1) 226 20 [some (.inr 100), some (.inl x1), some (.inl 0), some (.inl 1)] [] Z1 (zri Q)) ∧
        (¬ r2 ≠ 0 → TI d 154 [.inr 100, .inl (-2)] Z1 (fun r6 Z5 =>
            Q r6 Z5)))) :
    TZ (d + 1) 226 0 [some (.inr 100), some (.inl x1), none, none] [] Z (zri Q) := by
  refine z0 (op := 3) (a := 1) (b := 0) (by rfl) (by rfl) (?_ : TZ (d + 1) 226 1 [some (.inr 100), some (.inl x1), none, none] [.inl x1] Z (zri Q))
  refine z0 (op := 0) (a := 0) (b := 0) (by rfl) (by rfl) (?_ : TZ (d + 1) 226 2 [some (.inr 100), some (.inl x1), none, none] [.inl 0, .inl x1] Z (zri Q))
  refine z0 (op := 0) (a := 0) (b := 1) (by rfl) (by rfl) (?_ : TZ (d + 1) 226 3 [some (.inr 100), some (.inl x1), none, none] [.inl 1, .inl 0, .inl x1] Z (zri Q))
  refine z_si (by rfl) (by rfl) (TI.mono v fun r2 Z1 v => ?_)
  show TZ (d + 1) 226 6 [some (.inr 100), some (.inl x1), none, none] [.inl r2] Z1 (zri Q)
  obtain ⟨c3, v1, v2⟩ := v
  refine z_if0 (a := 1) (t := 16) (by rfl) (by rfl) c3 (fun h4 => ?_) (fun h4 => ?_)
  · have v := v1 h4; clear v1 v2
    show TZ (d + 1) 226 16 [some (.inr 100), some (.inl x1), none, none] [] Z1 (zri Q)
    refine z0 (op := 0) (a := 0) (b := 0) (by rfl) (by rfl) (?_ : TZ (d + 1) 226 17 [some (.inr 100), some (.inl x1), none, none] [.inl 0] Z1 (zri Q))
    refine z0 (op := 7) (a := 2) (b := 0) (by rfl) (by rfl) (?_ : TZ (d + 1) 226 18 [some (.inr 100), some (.inl x1), some (.inl 0), none] [] Z1 (zri Q))
    refine z0 (op := 0) (a := 0) (b := 1) (by rfl) (by rfl) (?_ : TZ (d + 1) 226 19 [some (.inr 100), some (.inl x1), some (.inl 0), none] [.inl 1] Z1 (zri Q))
    refine z0 (op := 7) (a := 3) (b := 0) (by rfl) (by rfl) (?_ : TZ (d + 1) 226 20 [some (.inr 100), some (.inl x1), some (.inl 0), some (.inl 1)] [] Z1 (zri Q))
    exact v
  · have v := v2 h4; clear v1 v2
    show TZ (d + 1) 226 9 [some (.inr 100), some (.inl x1), none, none] [] Z1 (zri Q)
    refine z0 (op := 5) (a := 0) (b := 0) (by rfl) (by rfl) (?_ : TZ (d + 1) 226 10 [some (.inr 100), some (.inl x1), none, none] [.inr 100] Z1 (zri Q))
    refine z0 (op := 1) (a := 0) (b := (-2)) (by rfl) (by rfl) (?_ : TZ (d + 1) 226 12 [some (.inr 100), some (.inl x1), none, none] [.inl (-2), .inr 100] Z1 (zri Q))
    refine z_vi (by rfl) (by rfl) cl_100 (TI.mono v fun r6 Z5 v => ?_)
    show TZ (d + 1) 226 15 [some (.inr 100), some (.inl x1), none, none] [.inl r6] Z5 (zri Q)
    exact z_reti (by rfl) (by rfl) v
theorem w226_20 {d : Nat} {x1 x2 x3 : Int} {Z : zM} {Q : Int → zM → Prop}
    (v : zR x3 ∧
      (9 ≤ x3 → (zR x1 ∧
          (x1 ≠ 0 → TI d 225 [.inr 100, .inl x2] Z (fun r6 Z5 =>
              Q r6 Z5)) ∧
          (¬ x1 ≠ 0 → Q x2 Z))) ∧
      (¬ 9 ≤ x3 → TI d 225 [.inr 100, .inl x3] Z (fun r8 Z7 =>
          TI d 225 [.inr 100, .inl x2] Z7 (fun r10 Z9 =>
            zR r8 ∧
              zR r10 ∧
              (r8 ≤ r10 → TZ (d + 1) 226 20 [some (.inr 100), some (.inl x1), some (.inl x2), some (.inl (x3 + 1))] [] Z9 (zri Q)) ∧
              (¬ r8 ≤ r10 → TZ (d + 1) 226 20 [some (.inr 100), some (.inl x1), some (.inl x3), some (.inl (x3 + 1))] [] Z9 (zri Q)))))) :
    TZ (d + 1) 226 20 [some (.inr 100), some (.inl x1), some (.inl x2), some (.inl x3)] [] Z (zri Q) := by
  refine z0 (op := 3) (a := 3) (b := 0) (by rfl) (by rfl) (?_ : TZ (d + 1) 226 21 [some (.inr 100), some (.inl x1), some (.inl x2), some (.inl x3)] [.inl x3] Z (zri Q))
  refine z0 (op := 1) (a := 0) (b := 9) (by rfl) (by rfl) (?_ : TZ (d + 1) 226 23 [some (.inr 100), some (.inl x1), some (.inl x2), some (.inl x3)] [.inl 9, .inl x3] Z (zri Q))
  obtain ⟨c1, v1, v2⟩ := v
  refine z_if2 (a := 3) (t := 51) (by rfl) (by rfl) c1 (by decide) (fun h2 => ?_) (fun h2 => ?_)
  · have v := v1 h2; clear v1 v2
    show TZ (d + 1) 226 51 [some (.inr 100), some (.inl x1), some (.inl x2), some (.inl x3)] [] Z (zri Q)
    refine z0 (op := 3) (a := 1) (b := 0) (by rfl) (by rfl) (?_ : TZ (d + 1) 226 52 [some (.inr 100), some (.inl x1), some (.inl x2), some (.inl x3)] [.inl x1] Z (zri Q))
    obtain ⟨c3, v1, v2⟩ := v
    refine z_if0 (a := 1) (t := 59) (by rfl) (by rfl) c3 (fun h4 => ?_) (fun h4 => ?_)
    · have v := v1 h4; clear v1 v2
      show TZ (d + 1) 226 59 [some (.inr 100), some (.inl x1), some (.inl x2), some (.inl x3)] [] Z (zri Q)
      refine z0 (op := 5) (a := 0) (b := 0) (by rfl) (by rfl) (?_ : TZ (d + 1) 226 60 [some (.inr 100), some (.inl x1), some (.inl x2), some (.inl x3)] [.inr 100] Z (zri Q))
      refine z0 (op := 3) (a := 2) (b := 0) (by rfl) (by rfl) (?_ : TZ (d + 1) 226 61 [some (.inr 100), some (.inl x1), some (.inl x2), some (.inl x3)] [.inl x2, .inr 100] Z (zri Q))
      refine z_vi (by rfl) (by rfl) cl_100 (TI.mono v fun r6 Z5 v => ?_)
      show TZ (d + 1) 226 64 [some (.inr 100), some (.inl x1), some (.inl x2), some (.inl x3)] [.inl r6] Z5 (zri Q)
      exact z_reti (by rfl) (by rfl) v
    · have v := v2 h4; clear v1 v2
      show TZ (d + 1) 226 55 [some (.inr 100), some (.inl x1), some (.inl x2), some (.inl x3)] [] Z (zri Q)
      refine z0 (op := 3) (a := 2) (b := 0) (by rfl) (by rfl) (?_ : TZ (d + 1) 226 56 [some (.inr 100), some (.inl x1), some (.inl x2), some (.inl x3)] [.inl x2] Z (zri Q))
      refine z_goto (t := 64) (by rfl) (by rfl) (?_ : TZ (d + 1) 226 64 [some (.inr 100), some (.inl x1), some (.inl x2), some (.inl x3)] [.inl x2] Z (zri Q))
      exact z_reti (by rfl) (by rfl) v
  · have v := v2 h2; clear v1 v2
    show TZ (d + 1) 226 26 [some (.inr 100), some (.inl x1), some (.inl x2), some (.inl x3)] [] Z (zri Q)
    refine z0 (op := 5) (a := 0) (b := 0) (by rfl) (by rfl) (?_ : TZ (d + 1) 226 27 [some (.inr 100), some (.inl x1), some (.inl x2), some (.inl x3)] [.inr 100] Z (zri Q))
    refine z0 (op := 3) (a := 3) (b := 0) (by rfl) (by rfl) (?_ : TZ (d + 1) 226 28 [some (.inr 100), some (.inl x1), some (.inl x2), some (.inl x3)] [.inl x3, .inr 100] Z (zri Q))
    refine z_vi (by rfl) (by rfl) cl_100 (TI.mono v fun r8 Z7 v => ?_)
    show TZ (d + 1) 226 31 [some (.inr 100), some (.inl x1), some (.inl x2), some (.inl x3)] [.inl r8] Z7 (zri Q)
    refine z0 (op := 5) (a := 0) (b := 0) (by rfl) (by rfl) (?_ : TZ (d + 1) 226 32 [some (.inr 100), some (.inl x1), some (.inl x2), some (.inl x3)] [.inr 100, .inl r8] Z7 (zri Q))
    refine z0 (op := 3) (a := 2) (b := 0) (by rfl) (by rfl) (?_ : TZ (d + 1) 226 33 [some (.inr 100), some (.inl x1), some (.inl x2), some (.inl x3)] [.inl x2, .inr 100, .inl r8] Z7 (zri Q))
    refine z_vi (by rfl) (by rfl) cl_100 (TI.mono v fun r10 Z9 v => ?_)
    show TZ (d + 1) 226 36 [some (.inr 100), some (.inl x1), some (.inl x2), some (.inl x3)] [.inl r10, .inl r8] Z9 (zri Q)
    obtain ⟨c11, c12, v1, v2⟩ := v
    refine z_if2 (a := 5) (t := 43) (by rfl) (by rfl) c11 c12 (fun h13 => ?_) (fun h13 => ?_)
    · have v := v1 h13; clear v1 v2
      show TZ (d + 1) 226 43 [some (.inr 100), some (.inl x1), some (.inl x2), some (.inl x3)] [] Z9 (zri Q)
      refine z0 (op := 3) (a := 2) (b := 0) (by rfl) (by rfl) (?_ : TZ (d + 1) 226 44 [some (.inr 100), some (.inl x1), some (.inl x2), some (.inl x3)] [.inl x2] Z9 (zri Q))
      refine z0 (op := 7) (a := 2) (b := 0) (by rfl) (by rfl) (?_ : TZ (d + 1) 226 45 [some (.inr 100), some (.inl x1), some (.inl x2), some (.inl x3)] [] Z9 (zri Q))
      refine z0 (op := 11) (a := 3) (b := 1) (by rfl) (by rfl) (?_ : TZ (d + 1) 226 48 [some (.inr 100), some (.inl x1), some (.inl x2), some (.inl (x3 + 1))] [] Z9 (zri Q))
      refine z_goto (t := 20) (by rfl) (by rfl) (?_ : TZ (d + 1) 226 20 [some (.inr 100), some (.inl x1), some (.inl x2), some (.inl (x3 + 1))] [] Z9 (zri Q))
      exact v
    · have v := v2 h13; clear v1 v2
      show TZ (d + 1) 226 39 [some (.inr 100), some (.inl x1), some (.inl x2), some (.inl x3)] [] Z9 (zri Q)
      refine z0 (op := 3) (a := 3) (b := 0) (by rfl) (by rfl) (?_ : TZ (d + 1) 226 40 [some (.inr 100), some (.inl x1), some (.inl x2), some (.inl x3)] [.inl x3] Z9 (zri Q))
      refine z_goto (t := 44) (by rfl) (by rfl) (?_ : TZ (d + 1) 226 44 [some (.inr 100), some (.inl x1), some (.inl x2), some (.inl x3)] [.inl x3] Z9 (zri Q))
      refine z0 (op := 7) (a := 2) (b := 0) (by rfl) (by rfl) (?_ : TZ (d + 1) 226 45 [some (.inr 100), some (.inl x1), some (.inl x3), some (.inl x3)] [] Z9 (zri Q))
      refine z0 (op := 11) (a := 3) (b := 1) (by rfl) (by rfl) (?_ : TZ (d + 1) 226 48 [some (.inr 100), some (.inl x1), some (.inl x3), some (.inl (x3 + 1))] [] Z9 (zri Q))
      refine z_goto (t := 20) (by rfl) (by rfl) (?_ : TZ (d + 1) 226 20 [some (.inr 100), some (.inl x1), some (.inl x3), some (.inl (x3 + 1))] [] Z9 (zri Q))
      exact v
theorem w227_0 {d : Nat} {x1 x2 : Int} {Z : zM} {Q : Int → zM → Prop}
    (v : TI d 157 [.inr 100, .inl x2] Z (fun r2 Z1 =>
      zR r2 ∧
        (r2 = 0 → Q 0 Z1) ∧
        (¬ r2 = 0 → TI d 160 [.inr 100, .inl x2] Z1 (fun r6 Z5 =>
            zR r6 ∧
              (r6 = 0 → Q 0 Z5) ∧
              (¬ r6 = 0 → Q 1 Z5))))) :
    TZ (d + 1) 227 0 [some (.inr 100), some (.inl x1), some (.inl x2)] [] Z (zri Q) := by
  refine z0 (op := 5) (a := 0) (b := 0) (by rfl) (by rfl) (?_ : TZ (d + 1) 227 1 [some (.inr 100), some (.inl x1), some (.inl x2)] [.inr 100] Z (zri Q))
  refine z0 (op := 3) (a := 2) (b := 0) (by rfl) (by rfl) (?_ : TZ (d + 1) 227 2 [some (.inr 100), some (.inl x1), some (.inl x2)] [.inl x2, .inr 100] Z (zri Q))
  refine z_vi (by rfl) (by rfl) cl_100 (TI.mono v fun r2 Z1 v => ?_)
  show TZ (d + 1) 227 5 [some (.inr 100), some (.inl x1), some (.inl x2)] [.inl r2] Z1 (zri Q)
  obtain ⟨c3, v1, v2⟩ := v
  refine z_if0 (a := 0) (t := 20) (by rfl) (by rfl) c3 (fun h4 => ?_) (fun h4 => ?_)
  · have v := v1 h4; clear v1 v2
    show TZ (d + 1) 227 20 [some (.inr 100), some (.inl x1), some (.inl x2)] [] Z1 (zri Q)
    refine z0 (op := 0) (a := 0) (b := 0) (by rfl) (by rfl) (?_ : TZ (d + 1) 227 21 [some (.inr 100), some (.inl x1), some (.inl x2)] [.inl 0] Z1 (zri Q))
    exact z_retb (by rfl) (by rfl) (by decide) v
  · have v := v2 h4; clear v1 v2
    show TZ (d + 1) 227 8 [some (.inr 100), some (.inl x1), some (.inl x2)] [] Z1 (zri Q)
    refine z0 (op := 5) (a := 0) (b := 0) (by rfl) (by rfl) (?_ : TZ (d + 1) 227 9 [some (.inr 100), some (.inl x1), some (.inl x2)] [.inr 100] Z1 (zri Q))
    refine z0 (op := 3) (a := 2) (b := 0) (by rfl) (by rfl) (?_ : TZ (d + 1) 227 10 [some (.inr 100), some (.inl x1), some (.inl x2)] [.inl x2, .inr 100] Z1 (zri Q))
    refine z_vi (by rfl) (by rfl) cl_100 (TI.mono v fun r6 Z5 v => ?_)
    show TZ (d + 1) 227 13 [some (.inr 100), some (.inl x1), some (.inl x2)] [.inl r6] Z5 (zri Q)
    obtain ⟨c7, v1, v2⟩ := v
    refine z_if0 (a := 0) (t := 20) (by rfl) (by rfl) c7 (fun h8 => ?_) (fun h8 => ?_)
    · have v := v1 h8; clear v1 v2
      show TZ (d + 1) 227 20 [some (.inr 100), some (.inl x1), some (.inl x2)] [] Z5 (zri Q)
      refine z0 (op := 0) (a := 0) (b := 0) (by rfl) (by rfl) (?_ : TZ (d + 1) 227 21 [some (.inr 100), some (.inl x1), some (.inl x2)] [.inl 0] Z5 (zri Q))
      exact z_retb (by rfl) (by rfl) (by decide) v
    · have v := v2 h8; clear v1 v2
      show TZ (d + 1) 227 16 [some (.inr 100), some (.inl x1), some (.inl x2)] [] Z5 (zri Q)
      refine z0 (op := 0) (a := 0) (b := 1) (by rfl) (by rfl) (?_ : TZ (d + 1) 227 17 [some (.inr 100), some (.inl x1), some (.inl x2)] [.inl 1] Z5 (zri Q))
      refine z_goto (t := 21) (by rfl) (by rfl) (?_ : TZ (d + 1) 227 21 [some (.inr 100), some (.inl x1), some (.inl x2)] [.inl 1] Z5 (zri Q))
      exact z_retb (by rfl) (by rfl) (by decide) v
theorem w228_0 {d : Nat} {Z : zM} {Q : Int → zM → Prop}
    (v : TI d 161 [.inr 100] Z (fun r2 Z1 =>
      TZ (d + 1) 228 9 [some (.inr 100), some (.inl r2), some (.inl 0), some (.inl 0), none, none] [] Z1 (zri Q))) :
    TZ (d + 1) 228 0 [some (.inr 100), none, none, none, none, none] [] Z (zri Q) := by
  refine z0 (op := 5) (a := 0) (b := 0) (by rfl) (by rfl) (?_ : TZ (d + 1) 228 1 [some (.inr 100), none, none, none, none, none] [.inr 100] Z (zri Q))
  refine z_vi (by rfl) (by rfl) cl_100 (TI.mono v fun r2 Z1 v => ?_)
  show TZ (d + 1) 228 4 [some (.inr 100), none, none, none, none, none] [.inl r2] Z1 (zri Q)
  refine z0 (op := 7) (a := 1) (b := 0) (by rfl) (by rfl) (?_ : TZ (d + 1) 228 5 [some (.inr 100), some (.inl r2), none, none, none, none] [] Z1 (zri Q))
  refine z0 (op := 0) (a := 0) (b := 0) (by rfl) (by rfl) (?_ : TZ (d + 1) 228 6 [some (.inr 100), some (.inl r2), none, none, none, none] [.inl 0] Z1 (zri Q))
  refine z0 (op := 7) (a := 2) (b := 0) (by rfl) (by rfl) (?_ : TZ (d + 1) 228 7 [some (.inr 100), some (.inl r2), some (.inl 0), none, none, none] [] Z1 (zri Q))
  refine z0 (op := 0) (a := 0) (b := 0) (by rfl) (by rfl) (?_ : TZ (d + 1) 228 8 [some (.inr 100), some (.inl r2), some (.inl 0), none, none, none] [.inl 0] Z1 (zri Q))
  refine z0 (op := 7) (a := 3) (b := 0) (by rfl) (by rfl) (?_ : TZ (d + 1) 228 9 [some (.inr 100), some (.inl r2), some (.inl 0), some (.inl 0), none, none] [] Z1 (zri Q))
  exact v
theorem w228_9 {d : Nat} {x1 x2 x3 : Int} {o4 o5 : Option zV} {Z : zM} {Q : Int → zM → Prop}
    (v : zR x3 ∧
      zR (Z 100 5) ∧
      ((Z 100 5) ≤ x3 → Q x2 Z) ∧
      (¬ (Z 100 5) ≤ x3 → TZ d 228 20 [some (.inr 100), some (.inl x1), some (.inl x2), some (.inl x3), some (.inl (-1)), o5] [] Z (zri Q))) :
    TZ d 228 9 [some (.inr 100), some (.inl x1), some (.inl x2), some (.inl x3), o4, o5] [] Z (zri Q) := by
  refine z0 (op := 3) (a := 3) (b := 0) (by rfl) (by rfl) (?_ : TZ d 228 10 [some (.inr 100), some (.inl x1), some (.inl x2), some (.inl x3), o4, o5] [.inl x3] Z (zri Q))
  refine z0 (op := 5) (a := 0) (b := 0) (by rfl) (by rfl) (?_ : TZ d 228 11 [some (.inr 100), some (.inl x1), some (.inl x2), some (.inl x3), o4, o5] [.inr 100, .inl x3] Z (zri Q))
  refine z_fi (by rfl) fi111_100 (?_ : TZ d 228 14 [some (.inr 100), some (.inl x1), some (.inl x2), some (.inl x3), o4, o5] [.inl (Z 100 5), .inl x3] Z (zri Q))
  obtain ⟨c1, c2, v1, v2⟩ := v
  refine z_if2 (a := 3) (t := 97) (by rfl) (by rfl) c1 c2 (fun h3 => ?_) (fun h3 => ?_)
  · have v := v1 h3; clear v1 v2
    show TZ d 228 97 [some (.inr 100), some (.inl x1), some (.inl x2), some (.inl x3), o4, o5] [] Z (zri Q)
    refine z0 (op := 3) (a := 2) (b := 0) (by rfl) (by rfl) (?_ : TZ d 228 98 [some (.inr 100), some (.inl x1), some (.inl x2), some (.inl x3), o4, o5] [.inl x2] Z (zri Q))
    exact z_reti (by rfl) (by rfl) v
  · have v := v2 h3; clear v1 v2
    show TZ d 228 17 [some (.inr 100), some (.inl x1), some (.inl x2), some (.inl x3), o4, o5] [] Z (zri Q)
    refine z0 (op := 0) (a := 0) (b := (-1)) (by rfl) (by rfl) (?_ : TZ d 228 18 [some (.inr 100), some (.inl x1), some (.inl x2), some (.inl x3), o4, o5] [.inl (-1)] Z (zri Q))
    refine z0 (op := 8) (a := 4) (b := 0) (by rfl) (by rfl) (?_ : TZ d 228 20 [some (.inr 100), some (.inl x1), some (.inl x2), some (.inl x3), some (.inl (-1)), o5] [] Z (zri Q))
    exact v
theorem w228_20 {d : Nat} {x1 x2 x3 x4 : Int} {o5 : Option zV} {Z : zM} {Q : Int → zM → Prop}
    (v : zR x4 ∧
      (2 ≤ x4 → TZ (d + 1) 228 9 [some (.inr 100), some (.inl x1), some (.inl x2), some (.inl (x3 + 1)), some (.inl x4), o5] [] Z (zri Q)) ∧
      (¬ 2 ≤ x4 → ((0 ≤ x3 ∧ x3 < 8) ∧
          TI d 227 [.inr 100, .inl x3, .inl ((Z 105 x3) + x4)] Z (fun r5 Z4 =>
          zR r5 ∧
            (r5 ≠ 0 → ((0 ≤ x3 ∧ x3 < 8) ∧
                ∀ Z9, Z9 = zup Z4 105 x3 ((Z 105 x3) + x4) →
                TI d 161 [.inr 100] Z9 (fun r11 Z10 =>
                zR r11 ∧
                  zR x1 ∧
                  (r11 ≠ x1 → ((0 ≤ x3 ∧ x3 < 8) ∧
                      ∀ Z16, Z16 = zup Z10 105 x3 (Z 105 x3) →
                      TZ (d + 1) 228 20 [some (.inr 100), some (.inl x1), some (.inl (x2 + 1)), some (.inl x3), some (.inl (x4 + 2)), some (.inl (Z 105 x3))] [] Z16 (zri Q))) ∧
                  (¬ r11 ≠ x1 → ((0 ≤ x3 ∧ x3 < 8) ∧
                      ∀ Z18, Z18 = zup Z10 105 x3 (Z 105 x3) →
                      TZ (d + 1) 228 20 [some (.inr 100), some (.inl x1), some (.inl (x2 + 0)), some (.inl x3), some (.inl (x4 + 2)), some (.inl (Z 105 x3))] [] Z18 (zri Q)))))) ∧
            (¬ r5 ≠ 0 → TZ (d + 1) 228 20 [some (.inr 100), some (.inl x1), some (.inl x2), some (.inl x3), some (.inl (x4 + 2)), some (.inl (Z 105 x3))] [] Z4 (zri Q)))))) :
    TZ (d + 1) 228 20 [some (.inr 100), some (.inl x1), some (.inl x2), some (.inl x3), some (.inl x4), o5] [] Z (zri Q) := by
  refine z0 (op := 4) (a := 4) (b := 0) (by rfl) (by rfl) (?_ : TZ (d + 1) 228 22 [some (.inr 100), some (.inl x1), some (.inl x2), some (.inl x3), some (.inl x4), o5] [.inl x4] Z (zri Q))
  refine z0 (op := 0) (a := 0) (b := 2) (by rfl) (by rfl) (?_ : TZ (d + 1) 228 23 [some (.inr 100), some (.inl x1), some (.inl x2), some (.inl x3), some (.inl x4), o5] [.inl 2, .inl x4] Z (zri Q))
  obtain ⟨c1, v1, v2⟩ := v
  refine z_if2 (a := 3) (t := 91) (by rfl) (by rfl) c1 (by decide) (fun h2 => ?_) (fun h2 => ?_)
  · have v := v1 h2; clear v1 v2
    show TZ (d + 1) 228 91 [some (.inr 100), some (.inl x1), some (.inl x2), some (.inl x3), some (.inl x4), o5] [] Z (zri Q)
    refine z0 (op := 11) (a := 3) (b := 1) (by rfl) (by rfl) (?_ : TZ (d + 1) 228 94 [some (.inr 100), some (.inl x1), some (.inl x2), some (.inl (x3 + 1)), some (.inl x4), o5] [] Z (zri Q))
    refine z_goto (t := 9) (by rfl) (by rfl) (?_ : TZ (d + 1) 228 9 [some (.inr 100), some (.inl x1), some (.inl x2), some (.inl (x3 + 1)), some (.inl x4), o5] [] Z (zri Q))
    exact v
  · have v := v2 h2; clear v1 v2
    show TZ (d + 1) 228 26 [some (.inr 100), some (.inl x1), some (.inl x2), some (.inl x3), some (.inl x4), o5] [] Z (zri Q)
    refine z0 (op := 5) (a := 0) (b := 0) (by rfl) (by rfl) (?_ : TZ (d + 1) 228 27 [some (.inr 100), some (.inl x1), some (.inl x2), some (.inl x3), some (.inl x4), o5] [.inr 100] Z (zri Q))
    refine z_fr (by rfl) fr92_100 (?_ : TZ (d + 1) 228 30 [some (.inr 100), some (.inl x1), some (.inl x2), some (.inl x3), some (.inl x4), o5] [.inr 105] Z (zri Q))
    refine z0 (op := 3) (a := 3) (b := 0) (by rfl) (by rfl) (?_ : TZ (d + 1) 228 31 [some (.inr 100), some (.inl x1), some (.inl x2), some (.inl x3), some (.inl x4), o5] [.inl x3, .inr 105] Z (zri Q))
    obtain ⟨c3, v⟩ := v
    refine z_al (by rfl) ln_105 c3 (?_ : TZ (d + 1) 228 32 [some (.inr 100), some (.inl x1), some (.inl x2), some (.inl x3), some (.inl x4), o5] [.inl (Z 105 x3)] Z (zri Q))
    refine z0 (op := 8) (a := 5) (b := 0) (by rfl) (by rfl) (?_ : TZ (d + 1) 228 34 [some (.inr 100), some (.inl x1), some (.inl x2), some (.inl x3), some (.inl x4), some (.inl (Z 105 x3))] [] Z (zri Q))
    refine z0 (op := 5) (a := 0) (b := 0) (by rfl) (by rfl) (?_ : TZ (d + 1) 228 35 [some (.inr 100), some (.inl x1), some (.inl x2), some (.inl x3), some (.inl x4), some (.inl (Z 105 x3))] [.inr 100] Z (zri Q))
    refine z0 (op := 3) (a := 3) (b := 0) (by rfl) (by rfl) (?_ : TZ (d + 1) 228 36 [some (.inr 100), some (.inl x1), some (.inl x2), some (.inl x3), some (.inl x4), some (.inl (Z 105 x3))] [.inl x3, .inr 100] Z (zri Q))
    refine z0 (op := 4) (a := 5) (b := 0) (by rfl) (by rfl) (?_ : TZ (d + 1) 228 38 [some (.inr 100), some (.inl x1), some (.inl x2), some (.inl x3), some (.inl x4), some (.inl (Z 105 x3))] [.inl (Z 105 x3), .inl x3, .inr 100] Z (zri Q))
    refine z0 (op := 4) (a := 4) (b := 0) (by rfl) (by rfl) (?_ : TZ (d + 1) 228 40 [some (.inr 100), some (.inl x1), some (.inl x2), some (.inl x3), some (.inl x4), some (.inl (Z 105 x3))] [.inl x4, .inl (Z 105 x3), .inl x3, .inr 100] Z (zri Q))
    refine z0 (op := 12) (a := 0) (b := 0) (by rfl) (by rfl) (?_ : TZ (d + 1) 228 41 [some (.inr 100), some (.inl x1), some (.inl x2), some (.inl x3), some (.inl x4), some (.inl (Z 105 x3))] [.inl ((Z 105 x3) + x4), .inl x3, .inr 100] Z (zri Q))
    refine z_vi (by rfl) (by rfl) cl_100 (TI.mono v fun r5 Z4 v => ?_)
    show TZ (d + 1) 228 44 [some (.inr 100), some (.inl x1), some (.inl x2), some (.inl x3), some (.inl x4), some (.inl (Z 105 x3))] [.inl r5] Z4 (zri Q)
    obtain ⟨c6, v1, v2⟩ := v
    refine z_if0 (a := 1) (t := 50) (by rfl) (by rfl) c6 (fun h7 => ?_) (fun h7 => ?_)
    · have v := v1 h7; clear v1 v2
      show TZ (d + 1) 228 50 [some (.inr 100), some (.inl x1), some (.inl x2), some (.inl x3), some (.inl x4), some (.inl (Z 105 x3))] [] Z4 (zri Q)
      refine z0 (op := 5) (a := 0) (b := 0) (by rfl) (by rfl) (?_ : TZ (d + 1) 228 51 [some (.inr 100), some (.inl x1), some (.inl x2), some (.inl x3), some (.inl x4), some (.inl (Z 105 x3))] [.inr 100] Z4 (zri Q))
      refine z_fr (by rfl) fr92_100 (?_ : TZ (d + 1) 228 54 [some (.inr 100), some (.inl x1), some (.inl x2), some (.inl x3), some (.inl x4), some (.inl (Z 105 x3))] [.inr 105] Z4 (zri Q))
      refine z0 (op := 3) (a := 3) (b := 0) (by rfl) (by rfl) (?_ : TZ (d + 1) 228 55 [some (.inr 100), some (.inl x1), some (.inl x2), some (.inl x3), some (.inl x4), some (.inl (Z 105 x3))] [.inl x3, .inr 105] Z4 (zri Q))
      refine z0 (op := 4) (a := 5) (b := 0) (by rfl) (by rfl) (?_ : TZ (d + 1) 228 57 [some (.inr 100), some (.inl x1), some (.inl x2), some (.inl x3), some (.inl x4), some (.inl (Z 105 x3))] [.inl (Z 105 x3), .inl x3, .inr 105] Z4 (zri Q))
      refine z0 (op := 4) (a := 4) (b := 0) (by rfl) (by rfl) (?_ : TZ (d + 1) 228 59 [some (.inr 100), some (.inl x1), some (.inl x2), some (.inl x3), some (.inl x4), some (.inl (Z 105 x3))] [.inl x4, .inl (Z 105 x3), .inl x3, .inr 105] Z4 (zri Q))
      refine z0 (op := 12) (a := 0) (b := 0) (by rfl) (by rfl) (?_ : TZ (d + 1) 228 60 [some (.inr 100), some (.inl x1), some (.inl x2), some (.inl x3), some (.inl x4), some (.inl (Z 105 x3))] [.inl ((Z 105 x3) + x4), .inl x3, .inr 105] Z4 (zri Q))
      obtain ⟨c8, v⟩ := v
      obtain ⟨Z9, eZ9⟩ : ∃ zz, zz = zup Z4 105 x3 ((Z 105 x3) + x4) := ⟨_, rfl⟩
      have v := v Z9 eZ9
      refine z_as (by rfl) ln_105 c8 ?_
      show TZ (d + 1) 228 61 [some (.inr 100), some (.inl x1), some (.inl x2), some (.inl x3), some (.inl x4), some (.inl (Z 105 x3))] [] (zup Z4 105 x3 ((Z 105 x3) + x4)) _
      rw [← eZ9]
      refine z0 (op := 3) (a := 2) (b := 0) (by rfl) (by rfl) (?_ : TZ (d + 1) 228 62 [some (.inr 100), some (.inl x1), some (.inl x2), some (.inl x3), some (.inl x4), some (.inl (Z 105 x3))] [.inl x2] Z9 (zri Q))
      refine z0 (op := 5) (a := 0) (b := 0) (by rfl) (by rfl) (?_ : TZ (d + 1) 228 63 [some (.inr 100), some (.inl x1), some (.inl x2), some (.inl x3), some (.inl x4), some (.inl (Z 105 x3))] [.inr 100, .inl x2] Z9 (zri Q))
      refine z_vi (by rfl) (by rfl) cl_100 (TI.mono v fun r11 Z10 v => ?_)
      show TZ (d + 1) 228 66 [some (.inr 100), some (.inl x1), some (.inl x2), some (.inl x3), some (.inl x4), some (.inl (Z 105 x3))] [.inl r11, .inl x2] Z10 (zri Q)
      refine z0 (op := 3) (a := 1) (b := 0) (by rfl) (by rfl) (?_ : TZ (d + 1) 228 67 [some (.inr 100), some (.inl x1), some (.inl x2), some (.inl x3), some (.inl x4), some (.inl (Z 105 x3))] [.inl x1, .inl r11, .inl x2] Z10 (zri Q))
      obtain ⟨c12, c13, v1, v2⟩ := v
      refine z_if2 (a := 1) (t := 74) (by rfl) (by rfl) c12 c13 (fun h14 => ?_) (fun h14 => ?_)
      · have v := v1 h14; clear v1 v2
        show TZ (d + 1) 228 74 [some (.inr 100), some (.inl x1), some (.inl x2), some (.inl x3), some (.inl x4), some (.inl (Z 105 x3))] [.inl x2] Z10 (zri Q)
        refine z0 (op := 0) (a := 0) (b := 1) (by rfl) (by rfl) (?_ : TZ (d + 1) 228 75 [some (.inr 100), some (.inl x1), some (.inl x2), some (.inl x3), some (.inl x4), some (.inl (Z 105 x3))] [.inl 1, .inl x2] Z10 (zri Q))
        refine z0 (op := 12) (a := 0) (b := 0) (by rfl) (by rfl) (?_ : TZ (d + 1) 228 76 [some (.inr 100), some (.inl x1), some (.inl x2), some (.inl x3), some (.inl x4), some (.inl (Z 105 x3))] [.inl (x2 + 1)] Z10 (zri Q))
        refine z0 (op := 7) (a := 2) (b := 0) (by rfl) (by rfl) (?_ : TZ (d + 1) 228 77 [some (.inr 100), some (.inl x1), some (.inl (x2 + 1)), some (.inl x3), some (.inl x4), some (.inl (Z 105 x3))] [] Z10 (zri Q))
        refine z0 (op := 5) (a := 0) (b := 0) (by rfl) (by rfl) (?_ : TZ (d + 1) 228 78 [some (.inr 100), some (.inl x1), some (.inl (x2 + 1)), some (.inl x3), some (.inl x4), some (.inl (Z 105 x3))] [.inr 100] Z10 (zri Q))
        refine z_fr (by rfl) fr92_100 (?_ : TZ (d + 1) 228 81 [some (.inr 100), some (.inl x1), some (.inl (x2 + 1)), some (.inl x3), some (.inl x4), some (.inl (Z 105 x3))] [.inr 105] Z10 (zri Q))
        refine z0 (op := 3) (a := 3) (b := 0) (by rfl) (by rfl) (?_ : TZ (d + 1) 228 82 [some (.inr 100), some (.inl x1), some (.inl (x2 + 1)), some (.inl x3), some (.inl x4), some (.inl (Z 105 x3))] [.inl x3, .inr 105] Z10 (zri Q))
        refine z0 (op := 4) (a := 5) (b := 0) (by rfl) (by rfl) (?_ : TZ (d + 1) 228 84 [some (.inr 100), some (.inl x1), some (.inl (x2 + 1)), some (.inl x3), some (.inl x4), some (.inl (Z 105 x3))] [.inl (Z 105 x3), .inl x3, .inr 105] Z10 (zri Q))
        obtain ⟨c15, v⟩ := v
        obtain ⟨Z16, eZ16⟩ : ∃ zz, zz = zup Z10 105 x3 (Z 105 x3) := ⟨_, rfl⟩
        have v := v Z16 eZ16
        refine z_as (by rfl) ln_105 c15 ?_
        show TZ (d + 1) 228 85 [some (.inr 100), some (.inl x1), some (.inl (x2 + 1)), some (.inl x3), some (.inl x4), some (.inl (Z 105 x3))] [] (zup Z10 105 x3 (Z 105 x3)) _
        rw [← eZ16]
        refine z0 (op := 11) (a := 4) (b := 2) (by rfl) (by rfl) (?_ : TZ (d + 1) 228 88 [some (.inr 100), some (.inl x1), some (.inl (x2 + 1)), some (.inl x3), some (.inl (x4 + 2)), some (.inl (Z 105 x3))] [] Z16 (zri Q))
        refine z_goto (t := 20) (by rfl) (by rfl) (?_ : TZ (d + 1) 228 20 [some (.inr 100), some (.inl x1), some (.inl (x2 + 1)), some (.inl x3), some (.inl (x4 + 2)), some (.inl (Z 105 x3))] [] Z16 (zri Q))
        exact v
      · have v := v2 h14; clear v1 v2
        show TZ (d + 1) 228 70 [some (.inr 100), some (.inl x1), some (.inl x2), some (.inl x3), some (.inl x4), some (.inl (Z 105 x3))] [.inl x2] Z10 (zri Q)
        refine z0 (op := 0) (a := 0) (b := 0) (by rfl) (by rfl) (?_ : TZ (d + 1) 228 71 [some (.inr 100), some (.inl x1), some (.inl x2), some (.inl x3), some (.inl x4), some (.inl (Z 105 x3))] [.inl 0, .inl x2] Z10 (zri Q))
        refine z_goto (t := 75) (by rfl) (by rfl) (?_ : TZ (d + 1) 228 75 [some (.inr 100), some (.inl x1), some (.inl x2), some (.inl x3), some (.inl x4), some (.inl (Z 105 x3))] [.inl 0, .inl x2] Z10 (zri Q))
        refine z0 (op := 12) (a := 0) (b := 0) (by rfl) (by rfl) (?_ : TZ (d + 1) 228 76 [some (.inr 100), some (.inl x1), some (.inl x2), some (.inl x3), some (.inl x4), some (.inl (Z 105 x3))] [.inl (x2 + 0)] Z10 (zri Q))
        refine z0 (op := 7) (a := 2) (b := 0) (by rfl) (by rfl) (?_ : TZ (d + 1) 228 77 [some (.inr 100), some (.inl x1), some (.inl (x2 + 0)), some (.inl x3), some (.inl x4), some (.inl (Z 105 x3))] [] Z10 (zri Q))
        refine z0 (op := 5) (a := 0) (b := 0) (by rfl) (by rfl) (?_ : TZ (d + 1) 228 78 [some (.inr 100), some (.inl x1), some (.inl (x2 + 0)), some (.inl x3), some (.inl x4), some (.inl (Z 105 x3))] [.inr 100] Z10 (zri Q))
        refine z_fr (by rfl) fr92_100 (?_ : TZ (d + 1) 228 81 [some (.inr 100), some (.inl x1), some (.inl (x2 + 0)), some (.inl x3), some (.inl x4), some (.inl (Z 105 x3))] [.inr 105] Z10 (zri Q))
        refine z0 (op := 3) (a := 3) (b := 0) (by rfl) (by rfl) (?_ : TZ (d + 1) 228 82 [some (.inr 100), some (.inl x1), some (.inl (x2 + 0)), some (.inl x3), some (.inl x4), some (.inl (Z 105 x3))] [.inl x3, .inr 105] Z10 (zri Q))
        refine z0 (op := 4) (a := 5) (b := 0) (by rfl) (by rfl) (?_ : TZ (d + 1) 228 84 [some (.inr 100), some (.inl x1), some (.inl (x2 + 0)), some (.inl x3), some (.inl x4), some (.inl (Z 105 x3))] [.inl (Z 105 x3), .inl x3, .inr 105] Z10 (zri Q))
        obtain ⟨c17, v⟩ := v
        obtain ⟨Z18, eZ18⟩ : ∃ zz, zz = zup Z10 105 x3 (Z 105 x3) := ⟨_, rfl⟩
        have v := v Z18 eZ18
        refine z_as (by rfl) ln_105 c17 ?_
        show TZ (d + 1) 228 85 [some (.inr 100), some (.inl x1), some (.inl (x2 + 0)), some (.inl x3), some (.inl x4), some (.inl (Z 105 x3))] [] (zup Z10 105 x3 (Z 105 x3)) _
        rw [← eZ18]
        refine z0 (op := 11) (a := 4) (b := 2) (by rfl) (by rfl) (?_ : TZ (d + 1) 228 88 [some (.inr 100), some (.inl x1), some (.inl (x2 + 0)), some (.inl x3), some (.inl (x4 + 2)), some (.inl (Z 105 x3))] [] Z18 (zri Q))
        refine z_goto (t := 20) (by rfl) (by rfl) (?_ : TZ (d + 1) 228 20 [some (.inr 100), some (.inl x1), some (.inl (x2 + 0)), some (.inl x3), some (.inl (x4 + 2)), some (.inl (Z 105 x3))] [] Z18 (zri Q))
        exact v
    · have v := v2 h7; clear v1 v2
      show TZ (d + 1) 228 47 [some (.inr 100), some (.inl x1), some (.inl x2), some (.inl x3), some (.inl x4), some (.inl (Z 105 x3))] [] Z4 (zri Q)
      refine z_goto (t := 85) (by rfl) (by rfl) (?_ : TZ (d + 1) 228 85 [some (.inr 100), some (.inl x1), some (.inl x2), some (.inl x3), some (.inl x4), some (.inl (Z 105 x3))] [] Z4 (zri Q))
      refine z0 (op := 11) (a := 4) (b := 2) (by rfl) (by rfl) (?_ : TZ (d + 1) 228 88 [some (.inr 100), some (.inl x1), some (.inl x2), some (.inl x3), some (.inl (x4 + 2)), some (.inl (Z 105 x3))] [] Z4 (zri Q))
      refine z_goto (t := 20) (by rfl) (by rfl) (?_ : TZ (d + 1) 228 20 [some (.inr 100), some (.inl x1), some (.inl x2), some (.inl x3), some (.inl (x4 + 2)), some (.inl (Z 105 x3))] [] Z4 (zri Q))
      exact v
theorem w229_0 {d : Nat} {x1 x2 : Int} {Z : zM} {Q : Int → zM → Prop}
    (v : TZ d 229 5 [some (.inr 100), some (.inl x1), some (.inl x2), some (.inl x1), some (.inl 0), none, none] [] Z (zri Q)) :
    TZ d 229 0 [some (.inr 100), some (.inl x1), some (.inl x2), none, none, none, none] [] Z (zri Q) := by
  refine z0 (op := 3) (a := 1) (b := 0) (by rfl) (by rfl) (?_ : TZ d 229 1 [some (.inr 100), some (.inl x1), some (.inl x2), none, none, none, none] [.inl x1] Z (zri Q))
  refine z0 (op := 7) (a := 3) (b := 0) (by rfl) (by rfl) (?_ : TZ d 229 2 [some (.inr 100), some (.inl x1), some (.inl x2), some (.inl x1), none, none, none] [] Z (zri Q))
  refine z0 (op := 0) (a := 0) (b := 0) (by rfl) (by rfl) (?_ : TZ d 229 3 [some (.inr 100), some (.inl x1), some (.inl x2), some (.inl x1), none, none, none] [.inl 0] Z (zri Q))
  refine z0 (op := 8) (a := 4) (b := 0) (by rfl) (by rfl) (?_ : TZ d 229 5 [some (.inr 100), some (.inl x1), some (.inl x2), some (.inl x1), some (.inl 0), none, none] [] Z (zri Q))
  exact v
theorem w229_5 {d : Nat} {x1 x2 x3 x4 : Int} {o5 o6 : Option zV} {Z : zM} {Q : Int → zM → Prop}
    (v : zR x4 ∧
      zR x2 ∧
      (x2 ≤ x4 → Q 1 Z) ∧
      (¬ x2 ≤ x4 → (zR x3 ∧
          zR (Int.tmod x3 16) ∧
          zR (Int.tdiv (Int.tmod x3 16) 2) ∧
          zR (Z 100 5) ∧
          ((Int.tdiv (Int.tmod x3 16) 2) < (Z 100 5) → ((0 ≤ (Int.tdiv (Int.tmod x3 16) 2) ∧ (Int.tdiv (Int.tmod x3 16) 2) < 8) ∧
              zR x3 ∧
              zR (Int.tmod x3 2) ∧
              ((Int.tmod x3 2) ≠ 0 → TI d 227 [.inr 100, .inl (Int.tdiv (Int.tmod x3 16) 2), .inl ((Z 105 (Int.tdiv (Int.tmod x3 16) 2)) + 1)] Z (fun r14 Z13 =>
                  zR r14 ∧
                    (r14 ≠ 0 → ((0 ≤ (Int.tdiv (Int.tmod x3 16) 2) ∧ (Int.tdiv (Int.tmod x3 16) 2) < 8) ∧
                        ∀ Z18, Z18 = zup Z13 105 (Int.tdiv (Int.tmod x3 16) 2) ((Z 105 (Int.tdiv (Int.tmod x3 16) 2)) + 1) →
                        zR x3 ∧ TZ (d + 1) 229 5 [some (.inr 100), some (.inl x1), some (.inl x2), some (.inl (Int.tdiv x3 16)), some (.inl (x4 + 1)), some (.inl (Int.tdiv (Int.tmod x3 16) 2)), some (.inl ((Z 105 (Int.tdiv (Int.tmod x3 16) 2)) + 1))] [] Z18 (zri Q))) ∧
                    (¬ r14 ≠ 0 → Q 0 Z13))) ∧
              (¬ (Int.tmod x3 2) ≠ 0 → TI d 227 [.inr 100, .inl (Int.tdiv (Int.tmod x3 16) 2), .inl ((Z 105 (Int.tdiv (Int.tmod x3 16) 2)) + (-1))] Z (fun r21 Z20 =>
                  zR r21 ∧
                    (r21 ≠ 0 → ((0 ≤ (Int.tdiv (Int.tmod x3 16) 2) ∧ (Int.tdiv (Int.tmod x3 16) 2) < 8) ∧
                        ∀ Z25, Z25 = zup Z20 105 (Int.tdiv (Int.tmod x3 16) 2) ((Z 105 (Int.tdiv (Int.tmod x3 16) 2)) + (-1)) →
                        zR x3 ∧ TZ (d + 1) 229 5 [some (.inr 100), some (.inl x1), some (.inl x2), some (.inl (Int.tdiv x3 16)), some (.inl (x4 + 1)), some (.inl (Int.tdiv (Int.tmod x3 16) 2)), some (.inl ((Z 105 (Int.tdiv (Int.tmod x3 16) 2)) + (-1)))] [] Z25 (zri Q))) ∧
                    (¬ r21 ≠ 0 → Q 0 Z20))))) ∧
          (¬ (Int.tdiv (Int.tmod x3 16) 2) < (Z 100 5) → Q 0 Z)))) :
    TZ (d + 1) 229 5 [some (.inr 100), some (.inl x1), some (.inl x2), some (.inl x3), some (.inl x4), o5, o6] [] Z (zri Q) := by
  refine z0 (op := 4) (a := 4) (b := 0) (by rfl) (by rfl) (?_ : TZ (d + 1) 229 7 [some (.inr 100), some (.inl x1), some (.inl x2), some (.inl x3), some (.inl x4), o5, o6] [.inl x4] Z (zri Q))
  refine z0 (op := 3) (a := 2) (b := 0) (by rfl) (by rfl) (?_ : TZ (d + 1) 229 8 [some (.inr 100), some (.inl x1), some (.inl x2), some (.inl x3), some (.inl x4), o5, o6] [.inl x2, .inl x4] Z (zri Q))
  obtain ⟨c1, c2, v1, v2⟩ := v
  refine z_if2 (a := 3) (t := 84) (by rfl) (by rfl) c1 c2 (fun h3 => ?_) (fun h3 => ?_)
  · have v := v1 h3; clear v1 v2
    show TZ (d + 1) 229 84 [some (.inr 100), some (.inl x1), some (.inl x2), some (.inl x3), some (.inl x4), o5, o6] [] Z (zri Q)
    refine z0 (op := 0) (a := 0) (b := 1) (by rfl) (by rfl) (?_ : TZ (d + 1) 229 85 [some (.inr 100), some (.inl x1), some (.inl x2), some (.inl x3), some (.inl x4), o5, o6] [.inl 1] Z (zri Q))
    exact z_retb (by rfl) (by rfl) (by decide) v
  · have v := v2 h3; clear v1 v2
    show TZ (d + 1) 229 11 [some (.inr 100), some (.inl x1), some (.inl x2), some (.inl x3), some (.inl x4), o5, o6] [] Z (zri Q)
    refine z0 (op := 3) (a := 3) (b := 0) (by rfl) (by rfl) (?_ : TZ (d + 1) 229 12 [some (.inr 100), some (.inl x1), some (.inl x2), some (.inl x3), some (.inl x4), o5, o6] [.inl x3] Z (zri Q))
    refine z0 (op := 1) (a := 0) (b := 16) (by rfl) (by rfl) (?_ : TZ (d + 1) 229 14 [some (.inr 100), some (.inl x1), some (.inl x2), some (.inl x3), some (.inl x4), o5, o6] [.inl 16, .inl x3] Z (zri Q))
    obtain ⟨c4, v⟩ := v
    refine z_rem (by rfl) c4 (by decide) (?_ : TZ (d + 1) 229 15 [some (.inr 100), some (.inl x1), some (.inl x2), some (.inl x3), some (.inl x4), o5, o6] [.inl (Int.tmod x3 16)] Z (zri Q))
    refine z0 (op := 0) (a := 0) (b := 2) (by rfl) (by rfl) (?_ : TZ (d + 1) 229 16 [some (.inr 100), some (.inl x1), some (.inl x2), some (.inl x3), some (.inl x4), o5, o6] [.inl 2, .inl (Int.tmod x3 16)] Z (zri Q))
    obtain ⟨c5, v⟩ := v
    refine z_div (by rfl) c5 (by decide) (?_ : TZ (d + 1) 229 17 [some (.inr 100), some (.inl x1), some (.inl x2), some (.inl x3), some (.inl x4), o5, o6] [.inl (Int.tdiv (Int.tmod x3 16) 2)] Z (zri Q))
    refine z0 (op := 8) (a := 5) (b := 0) (by rfl) (by rfl) (?_ : TZ (d + 1) 229 19 [some (.inr 100), some (.inl x1), some (.inl x2), some (.inl x3), some (.inl x4), some (.inl (Int.tdiv (Int.tmod x3 16) 2)), o6] [] Z (zri Q))
    refine z0 (op := 4) (a := 5) (b := 0) (by rfl) (by rfl) (?_ : TZ (d + 1) 229 21 [some (.inr 100), some (.inl x1), some (.inl x2), some (.inl x3), some (.inl x4), some (.inl (Int.tdiv (Int.tmod x3 16) 2)), o6] [.inl (Int.tdiv (Int.tmod x3 16) 2)] Z (zri Q))
    refine z0 (op := 5) (a := 0) (b := 0) (by rfl) (by rfl) (?_ : TZ (d + 1) 229 22 [some (.inr 100), some (.inl x1), some (.inl x2), some (.inl x3), some (.inl x4), some (.inl (Int.tdiv (Int.tmod x3 16) 2)), o6] [.inr 100, .inl (Int.tdiv (Int.tmod x3 16) 2)] Z (zri Q))
    refine z_fi (by rfl) fi111_100 (?_ : TZ (d + 1) 229 25 [some (.inr 100), some (.inl x1), some (.inl x2), some (.inl x3), some (.inl x4), some (.inl (Int.tdiv (Int.tmod x3 16) 2)), o6] [.inl (Z 100 5), .inl (Int.tdiv (Int.tmod x3 16) 2)] Z (zri Q))
    obtain ⟨c6, c7, v1, v2⟩ := v
    refine z_if2 (a := 2) (t := 30) (by rfl) (by rfl) c6 c7 (fun h8 => ?_) (fun h8 => ?_)
    · have v := v1 h8; clear v1 v2
      show TZ (d + 1) 229 30 [some (.inr 100), some (.inl x1), some (.inl x2), some (.inl x3), some (.inl x4), some (.inl (Int.tdiv (Int.tmod x3 16) 2)), o6] [] Z (zri Q)
      refine z0 (op := 5) (a := 0) (b := 0) (by rfl) (by rfl) (?_ : TZ (d + 1) 229 31 [some (.inr 100), some (.inl x1), some (.inl x2), some (.inl x3), some (.inl x4), some (.inl (Int.tdiv (Int.tmod x3 16) 2)), o6] [.inr 100] Z (zri Q))
      refine z_fr (by rfl) fr92_100 (?_ : TZ (d + 1) 229 34 [some (.inr 100), some (.inl x1), some (.inl x2), some (.inl x3), some (.inl x4), some (.inl (Int.tdiv (Int.tmod x3 16) 2)), o6] [.inr 105] Z (zri Q))
      refine z0 (op := 4) (a := 5) (b := 0) (by rfl) (by rfl) (?_ : TZ (d + 1) 229 36 [some (.inr 100), some (.inl x1), some (.inl x2), some (.inl x3), some (.inl x4), some (.inl (Int.tdiv (Int.tmod x3 16) 2)), o6] [.inl (Int.tdiv (Int.tmod x3 16) 2), .inr 105] Z (zri Q))
      obtain ⟨c9, v⟩ := v
      refine z_al (by rfl) ln_105 c9 (?_ : TZ (d + 1) 229 37 [some (.inr 100), some (.inl x1), some (.inl x2), some (.inl x3), some (.inl x4), some (.inl (Int.tdiv (Int.tmod x3 16) 2)), o6] [.inl (Z 105 (Int.tdiv (Int.tmod x3 16) 2))] Z (zri Q))
      refine z0 (op := 3) (a := 3) (b := 0) (by rfl) (by rfl) (?_ : TZ (d + 1) 229 38 [some (.inr 100), some (.inl x1), some (.inl x2), some (.inl x3), some (.inl x4), some (.inl (Int.tdiv (Int.tmod x3 16) 2)), o6] [.inl x3, .inl (Z 105 (Int.tdiv (Int.tmod x3 16) 2))] Z (zri Q))
      refine z0 (op := 0) (a := 0) (b := 2) (by rfl) (by rfl) (?_ : TZ (d + 1) 229 39 [some (.inr 100), some (.inl x1), some (.inl x2), some (.inl x3), some (.inl x4), some (.inl (Int.tdiv (Int.tmod x3 16) 2)), o6] [.inl 2, .inl x3, .inl (Z 105 (Int.tdiv (Int.tmod x3 16) 2))] Z (zri Q))
      obtain ⟨c10, v⟩ := v
      refine z_rem (by rfl) c10 (by decide) (?_ : TZ (d + 1) 229 40 [some (.inr 100), some (.inl x1), some (.inl x2), some (.inl x3), some (.inl x4), some (.inl (Int.tdiv (Int.tmod x3 16) 2)), o6] [.inl (Int.tmod x3 2), .inl (Z 105 (Int.tdiv (Int.tmod x3 16) 2))] Z (zri Q))
      obtain ⟨c11, v1, v2⟩ := v
      refine z_if0 (a := 1) (t := 47) (by rfl) (by rfl) c11 (fun h12 => ?_) (fun h12 => ?_)
      · have v := v1 h12; clear v1 v2
        show TZ (d + 1) 229 47 [some (.inr 100), some (.inl x1), some (.inl x2), some (.inl x3), some (.inl x4), some (.inl (Int.tdiv (Int.tmod x3 16) 2)), o6] [.inl (Z 105 (Int.tdiv (Int.tmod x3 16) 2))] Z (zri Q)
        refine z0 (op := 0) (a := 0) (b := 1) (by rfl) (by rfl) (?_ : TZ (d + 1) 229 48 [some (.inr 100), some (.inl x1), some (.inl x2), some (.inl x3), some (.inl x4), some (.inl (Int.tdiv (Int.tmod x3 16) 2)), o6] [.inl 1, .inl (Z 105 (Int.tdiv (Int.tmod x3 16) 2))] Z (zri Q))
        refine z0 (op := 12) (a := 0) (b := 0) (by rfl) (by rfl) (?_ : TZ (d + 1) 229 49 [some (.inr 100), some (.inl x1), some (.inl x2), some (.inl x3), some (.inl x4), some (.inl (Int.tdiv (Int.tmod x3 16) 2)), o6] [.inl ((Z 105 (Int.tdiv (Int.tmod x3 16) 2)) + 1)] Z (zri Q))
        refine z0 (op := 8) (a := 6) (b := 0) (by rfl) (by rfl) (?_ : TZ (d + 1) 229 51 [some (.inr 100), some (.inl x1), some (.inl x2), some (.inl x3), some (.inl x4), some (.inl (Int.tdiv (Int.tmod x3 16) 2)), some (.inl ((Z 105 (Int.tdiv (Int.tmod x3 16) 2)) + 1))] [] Z (zri Q))
        refine z0 (op := 5) (a := 0) (b := 0) (by rfl) (by rfl) (?_ : TZ (d + 1) 229 52 [some (.inr 100), some (.inl x1), some (.inl x2), some (.inl x3), some (.inl x4), some (.inl (Int.tdiv (Int.tmod x3 16) 2)), some (.inl ((Z 105 (Int.tdiv (Int.tmod x3 16) 2)) + 1))] [.inr 100] Z (zri Q))
        refine z0 (op := 4) (a := 5) (b := 0) (by rfl) (by rfl) (?_ : TZ (d + 1) 229 54 [some (.inr 100), some (.inl x1), some (.inl x2), some (.inl x3), some (.inl x4), some (.inl (Int.tdiv (Int.tmod x3 16) 2)), some (.inl ((Z 105 (Int.tdiv (Int.tmod x3 16) 2)) + 1))] [.inl (Int.tdiv (Int.tmod x3 16) 2), .inr 100] Z (zri Q))
        refine z0 (op := 4) (a := 6) (b := 0) (by rfl) (by rfl) (?_ : TZ (d + 1) 229 56 [some (.inr 100), some (.inl x1), some (.inl x2), some (.inl x3), some (.inl x4), some (.inl (Int.tdiv (Int.tmod x3 16) 2)), some (.inl ((Z 105 (Int.tdiv (Int.tmod x3 16) 2)) + 1))] [.inl ((Z 105 (Int.tdiv (Int.tmod x3 16) 2)) + 1), .inl (Int.tdiv (Int.tmod x3 16) 2), .inr 100] Z (zri Q))
        refine z_vi (by rfl) (by rfl) cl_100 (TI.mono v fun r14 Z13 v => ?_)
        show TZ (d + 1) 229 59 [some (.inr 100), some (.inl x1), some (.inl x2), some (.inl x3), some (.inl x4), some (.inl (Int.tdiv (Int.tmod x3 16) 2)), some (.inl ((Z 105 (Int.tdiv (Int.tmod x3 16) 2)) + 1))] [.inl r14] Z13 (zri Q)
        obtain ⟨c15, v1, v2⟩ := v
        refine z_if0 (a := 1) (t := 64) (by rfl) (by rfl) c15 (fun h16 => ?_) (fun h16 => ?_)
        · have v := v1 h16; clear v1 v2
          show TZ (d + 1) 229 64 [some (.inr 100), some (.inl x1), some (.inl x2), some (.inl x3), some (.inl x4), some (.inl (Int.tdiv (Int.tmod x3 16) 2)), some (.inl ((Z 105 (Int.tdiv (Int.tmod x3 16) 2)) + 1))] [] Z13 (zri Q)
          refine z0 (op := 5) (a := 0) (b := 0) (by rfl) (by rfl) (?_ : TZ (d + 1) 229 65 [some (.inr 100), some (.inl x1), some (.inl x2), some (.inl x3), some (.inl x4), some (.inl (Int.tdiv (Int.tmod x3 16) 2)), some (.inl ((Z 105 (Int.tdiv (Int.tmod x3 16) 2)) + 1))] [.inr 100] Z13 (zri Q))
          refine z_fr (by rfl) fr92_100 (?_ : TZ (d + 1) 229 68 [some (.inr 100), some (.inl x1), some (.inl x2), some (.inl x3), some (.inl x4), some (.inl (Int.tdiv (Int.tmod x3 16) 2)), some (.inl ((Z 105 (Int.tdiv (Int.tmod x3 16) 2)) + 1))] [.inr 105] Z13 (zri Q))
          refine z0 (op := 4) (a := 5) (b := 0) (by rfl) (by rfl) (?_ : TZ (d + 1) 229 70 [some (.inr 100), some (.inl x1), some (.inl x2), some (.inl x3), some (.inl x4), some (.inl (Int.tdiv (Int.tmod x3 16) 2)), some (.inl ((Z 105 (Int.tdiv (Int.tmod x3 16) 2)) + 1))] [.inl (Int.tdiv (Int.tmod x3 16) 2), .inr 105] Z13 (zri Q))
          refine z0 (op := 4) (a := 6) (b := 0) (by rfl) (by rfl) (?_ : TZ (d + 1) 229 72 [some (.inr 100), some (.inl x1), some (.inl x2), some (.inl x3), some (.inl x4), some (.inl (Int.tdiv (Int.tmod x3 16) 2)), some (.inl ((Z 105 (Int.tdiv (Int.tmod x3 16) 2)) + 1))] [.inl ((Z 105 (Int.tdiv (Int.tmod x3 16) 2)) + 1), .inl (Int.tdiv (Int.tmod x3 16) 2), .inr 105] Z13 (zri Q))
          obtain ⟨c17, v⟩ := v
          obtain ⟨Z18, eZ18⟩ : ∃ zz, zz = zup Z13 105 (Int.tdiv (Int.tmod x3 16) 2) ((Z 105 (Int.tdiv (Int.tmod x3 16) 2)) + 1) := ⟨_, rfl⟩
          have v := v Z18 eZ18
          refine z_as (by rfl) ln_105 c17 ?_
          show TZ (d + 1) 229 73 [some (.inr 100), some (.inl x1), some (.inl x2), some (.inl x3), some (.inl x4), some (.inl (Int.tdiv (Int.tmod x3 16) 2)), some (.inl ((Z 105 (Int.tdiv (Int.tmod x3 16) 2)) + 1))] [] (zup Z13 105 (Int.tdiv (Int.tmod x3 16) 2) ((Z 105 (Int.tdiv (Int.tmod x3 16) 2)) + 1)) _
          rw [← eZ18]
          refine z0 (op := 3) (a := 3) (b := 0) (by rfl) (by rfl) (?_ : TZ (d + 1) 229 74 [some (.inr 100), some (.inl x1), some (.inl x2), some (.inl x3), some (.inl x4), some (.inl (Int.tdiv (Int.tmod x3 16) 2)), some (.inl ((Z 105 (Int.tdiv (Int.tmod x3 16) 2)) + 1))] [.inl x3] Z18 (zri Q))
          refine z0 (op := 1) (a := 0) (b := 16) (by rfl) (by rfl) (?_ : TZ (d + 1) 229 76 [some (.inr 100), some (.inl x1), some (.inl x2), some (.inl x3), some (.inl x4), some (.inl (Int.tdiv (Int.tmod x3 16) 2)), some (.inl ((Z 105 (Int.tdiv (Int.tmod x3 16) 2)) + 1))] [.inl 16, .inl x3] Z18 (zri Q))
          obtain ⟨c19, v⟩ := v
          refine z_div (by rfl) c19 (by decide) (?_ : TZ (d + 1) 229 77 [some (.inr 100), some (.inl x1), some (.inl x2), some (.inl x3), some (.inl x4), some (.inl (Int.tdiv (Int.tmod x3 16) 2)), some (.inl ((Z 105 (Int.tdiv (Int.tmod x3 16) 2)) + 1))] [.inl (Int.tdiv x3 16)] Z18 (zri Q))
          refine z0 (op := 7) (a := 3) (b := 0) (by rfl) (by rfl) (?_ : TZ (d + 1) 229 78 [some (.inr 100), some (.inl x1), some (.inl x2), some (.inl (Int.tdiv x3 16)), some (.inl x4), some (.inl (Int.tdiv (Int.tmod x3 16) 2)), some (.inl ((Z 105 (Int.tdiv (Int.tmod x3 16) 2)) + 1))] [] Z18 (zri Q))
          refine z0 (op := 11) (a := 4) (b := 1) (by rfl) (by rfl) (?_ : TZ (d + 1) 229 81 [some (.inr 100), some (.inl x1), some (.inl x2), some (.inl (Int.tdiv x3 16)), some (.inl (x4 + 1)), some (.inl (Int.tdiv (Int.tmod x3 16) 2)), some (.inl ((Z 105 (Int.tdiv (Int.tmod x3 16) 2)) + 1))] [] Z18 (zri Q))
          refine z_goto (t := 5) (by rfl) (by rfl) (?_ : TZ (d + 1) 229 5 [some (.inr 100), some (.inl x1), some (.inl x2), some (.inl (Int.tdiv x3 16)), some (.inl (x4 + 1)), some (.inl (Int.tdiv (Int.tmod x3 16) 2)), some (.inl ((Z 105 (Int.tdiv (Int.tmod x3 16) 2)) + 1))] [] Z18 (zri Q))
          exact v
        · have v := v2 h16; clear v1 v2
          show TZ (d + 1) 229 62 [some (.inr 100), some (.inl x1), some (.inl x2), some (.inl x3), some (.inl x4), some (.inl (Int.tdiv (Int.tmod x3 16) 2)), some (.inl ((Z 105 (Int.tdiv (Int.tmod x3 16) 2)) + 1))] [] Z13 (zri Q)
          refine z0 (op := 0) (a := 0) (b := 0) (by rfl) (by rfl) (?_ : TZ (d + 1) 229 63 [some (.inr 100), some (.inl x1), some (.inl x2), some (.inl x3), some (.inl x4), some (.inl (Int.tdiv (Int.tmod x3 16) 2)), some (.inl ((Z 105 (Int.tdiv (Int.tmod x3 16) 2)) + 1))] [.inl 0] Z13 (zri Q))
          exact z_retb (by rfl) (by rfl) (by decide) v
      · have v := v2 h12; clear v1 v2
        show TZ (d + 1) 229 43 [some (.inr 100), some (.inl x1), some (.inl x2), some (.inl x3), some (.inl x4), some (.inl (Int.tdiv (Int.tmod x3 16) 2)), o6] [.inl (Z 105 (Int.tdiv (Int.tmod x3 16) 2))] Z (zri Q)
        refine z0 (op := 0) (a := 0) (b := (-1)) (by rfl) (by rfl) (?_ : TZ (d + 1) 229 44 [some (.inr 100), some (.inl x1), some (.inl x2), some (.inl x3), some (.inl x4), some (.inl (Int.tdiv (Int.tmod x3 16) 2)), o6] [.inl (-1), .inl (Z 105 (Int.tdiv (Int.tmod x3 16) 2))] Z (zri Q))
        refine z_goto (t := 48) (by rfl) (by rfl) (?_ : TZ (d + 1) 229 48 [some (.inr 100), some (.inl x1), some (.inl x2), some (.inl x3), some (.inl x4), some (.inl (Int.tdiv (Int.tmod x3 16) 2)), o6] [.inl (-1), .inl (Z 105 (Int.tdiv (Int.tmod x3 16) 2))] Z (zri Q))
        refine z0 (op := 12) (a := 0) (b := 0) (by rfl) (by rfl) (?_ : TZ (d + 1) 229 49 [some (.inr 100), some (.inl x1), some (.inl x2), some (.inl x3), some (.inl x4), some (.inl (Int.tdiv (Int.tmod x3 16) 2)), o6] [.inl ((Z 105 (Int.tdiv (Int.tmod x3 16) 2)) + (-1))] Z (zri Q))
        refine z0 (op := 8) (a := 6) (b := 0) (by rfl) (by rfl) (?_ : TZ (d + 1) 229 51 [some (.inr 100), some (.inl x1), some (.inl x2), some (.inl x3), some (.inl x4), some (.inl (Int.tdiv (Int.tmod x3 16) 2)), some (.inl ((Z 105 (Int.tdiv (Int.tmod x3 16) 2)) + (-1)))] [] Z (zri Q))
        refine z0 (op := 5) (a := 0) (b := 0) (by rfl) (by rfl) (?_ : TZ (d + 1) 229 52 [some (.inr 100), some (.inl x1), some (.inl x2), some (.inl x3), some (.inl x4), some (.inl (Int.tdiv (Int.tmod x3 16) 2)), some (.inl ((Z 105 (Int.tdiv (Int.tmod x3 16) 2)) + (-1)))] [.inr 100] Z (zri Q))
        refine z0 (op := 4) (a := 5) (b := 0) (by rfl) (by rfl) (?_ : TZ (d + 1) 229 54 [some (.inr 100), some (.inl x1), some (.inl x2), some (.inl x3), some (.inl x4), some (.inl (Int.tdiv (Int.tmod x3 16) 2)), some (.inl ((Z 105 (Int.tdiv (Int.tmod x3 16) 2)) + (-1)))] [.inl (Int.tdiv (Int.tmod x3 16) 2), .inr 100] Z (zri Q))
        refine z0 (op := 4) (a := 6) (b := 0) (by rfl) (by rfl) (?_ : TZ (d + 1) 229 56 [some (.inr 100), some (.inl x1), some (.inl x2), some (.inl x3), some (.inl x4), some (.inl (Int.tdiv (Int.tmod x3 16) 2)), some (.inl ((Z 105 (Int.tdiv (Int.tmod x3 16) 2)) + (-1)))] [.inl ((Z 105 (Int.tdiv (Int.tmod x3 16) 2)) + (-1)), .inl (Int.tdiv (Int.tmod x3 16) 2), .inr 100] Z (zri Q))
        refine z_vi (by rfl) (by rfl) cl_100 (TI.mono v fun r21 Z20 v => ?_)
        show TZ (d + 1) 229 59 [some (.inr 100), some (.inl x1), some (.inl x2), some (.inl x3), some (.inl x4), some (.inl (Int.tdiv (Int.tmod x3 16) 2)), some (.inl ((Z 105 (Int.tdiv (Int.tmod x3 16) 2)) + (-1)))] [.inl r21] Z20 (zri Q)
        obtain ⟨c22, v1, v2⟩ := v
        refine z_if0 (a := 1) (t := 64) (by rfl) (by rfl) c22 (fun h23 => ?_) (fun h23 => ?_)
        · have v := v1 h23; clear v1 v2
          show TZ (d + 1) 229 64 [some (.inr 100), some (.inl x1), some (.inl x2), some (.inl x3), some (.inl x4), some (.inl (Int.tdiv (Int.tmod x3 16) 2)), some (.inl ((Z 105 (Int.tdiv (Int.tmod x3 16) 2)) + (-1)))] [] Z20 (zri Q)
          refine z0 (op := 5) (a := 0) (b := 0) (by rfl) (by rfl) (?_ : TZ (d + 1) 229 65 [some (.inr 100), some (.inl x1), some (.inl x2), some (.inl x3), some (.inl x4), some (.inl (Int.tdiv (Int.tmod x3 16) 2)), some (.inl ((Z 105 (Int.tdiv (Int.tmod x3 16) 2)) + (-1)))] [.inr 100] Z20 (zri Q))
          refine z_fr (by rfl) fr92_100 (?_ : TZ (d + 1) 229 68 [some (.inr 100), some (.inl x1), some (.inl x2), some (.inl x3), some (.inl x4), some (.inl (Int.tdiv (Int.tmod x3 16) 2)), some (.inl ((Z 105 (Int.tdiv (Int.tmod x3 16) 2)) + (-1)))] [.inr 105] Z20 (zri Q))
          refine z0 (op := 4) (a := 5) (b := 0) (by rfl) (by rfl) (?_ : TZ (d + 1) 229 70 [some (.inr 100), some (.inl x1), some (.inl x2), some (.inl x3), some (.inl x4), some (.inl (Int.tdiv (Int.tmod x3 16) 2)), some (.inl ((Z 105 (Int.tdiv (Int.tmod x3 16) 2)) + (-1)))] [.inl (Int.tdiv (Int.tmod x3 16) 2), .inr 105] Z20 (zri Q))
          refine z0 (op := 4) (a := 6) (b := 0) (by rfl) (by rfl) (?_ : TZ (d + 1) 229 72 [some (.inr 100), some (.inl x1), some (.inl x2), some (.inl x3), some (.inl x4), some (.inl (Int.tdiv (Int.tmod x3 16) 2)), some (.inl ((Z 105 (Int.tdiv (Int.tmod x3 16) 2)) + (-1)))] [.inl ((Z 105 (Int.tdiv (Int.tmod x3 16) 2)) + (-1)), .inl (Int.tdiv (Int.tmod x3 16) 2), .inr 105] Z20 (zri Q))
          obtain ⟨c24, v⟩ := v
          obtain ⟨Z25, eZ25⟩ : ∃ zz, zz = zup Z20 105 (Int.tdiv (Int.tmod x3 16) 2) ((Z 105 (Int.tdiv (Int.tmod x3 16) 2)) + (-1)) := ⟨_, rfl⟩
          have v := v Z25 eZ25
          refine z_as (by rfl) ln_105 c24 ?_
          show TZ (d + 1) 229 73 [some (.inr 100), some (.inl x1), some (.inl x2), some (.inl x3), some (.inl x4), some (.inl (Int.tdiv (Int.tmod x3 16) 2)), some (.inl ((Z 105 (Int.tdiv (Int.tmod x3 16) 2)) + (-1)))] [] (zup Z20 105 (Int.tdiv (Int.tmod x3 16) 2) ((Z 105 (Int.tdiv (Int.tmod x3 16) 2)) + (-1))) _
          rw [← eZ25]
          refine z0 (op := 3) (a := 3) (b := 0) (by rfl) (by rfl) (?_ : TZ (d + 1) 229 74 [some (.inr 100), some (.inl x1), some (.inl x2), some (.inl x3), some (.inl x4), some (.inl (Int.tdiv (Int.tmod x3 16) 2)), some (.inl ((Z 105 (Int.tdiv (Int.tmod x3 16) 2)) + (-1)))] [.inl x3] Z25 (zri Q))
          refine z0 (op := 1) (a := 0) (b := 16) (by rfl) (by rfl) (?_ : TZ (d + 1) 229 76 [some (.inr 100), some (.inl x1), some (.inl x2), some (.inl x3), some (.inl x4), some (.inl (Int.tdiv (Int.tmod x3 16) 2)), some (.inl ((Z 105 (Int.tdiv (Int.tmod x3 16) 2)) + (-1)))] [.inl 16, .inl x3] Z25 (zri Q))
          obtain ⟨c26, v⟩ := v
          refine z_div (by rfl) c26 (by decide) (?_ : TZ (d + 1) 229 77 [some (.inr 100), some (.inl x1), some (.inl x2), some (.inl x3), some (.inl x4), some (.inl (Int.tdiv (Int.tmod x3 16) 2)), some (.inl ((Z 105 (Int.tdiv (Int.tmod x3 16) 2)) + (-1)))] [.inl (Int.tdiv x3 16)] Z25 (zri Q))
          refine z0 (op := 7) (a := 3) (b := 0) (by rfl) (by rfl) (?_ : TZ (d + 1) 229 78 [some (.inr 100), some (.inl x1), some (.inl x2), some (.inl (Int.tdiv x3 16)), some (.inl x4), some (.inl (Int.tdiv (Int.tmod x3 16) 2)), some (.inl ((Z 105 (Int.tdiv (Int.tmod x3 16) 2)) + (-1)))] [] Z25 (zri Q))
          refine z0 (op := 11) (a := 4) (b := 1) (by rfl) (by rfl) (?_ : TZ (d + 1) 229 81 [some (.inr 100), some (.inl x1), some (.inl x2), some (.inl (Int.tdiv x3 16)), some (.inl (x4 + 1)), some (.inl (Int.tdiv (Int.tmod x3 16) 2)), some (.inl ((Z 105 (Int.tdiv (Int.tmod x3 16) 2)) + (-1)))] [] Z25 (zri Q))
          refine z_goto (t := 5) (by rfl) (by rfl) (?_ : TZ (d + 1) 229 5 [some (.inr 100), some (.inl x1), some (.inl x2), some (.inl (Int.tdiv x3 16)), some (.inl (x4 + 1)), some (.inl (Int.tdiv (Int.tmod x3 16) 2)), some (.inl ((Z 105 (Int.tdiv (Int.tmod x3 16) 2)) + (-1)))] [] Z25 (zri Q))
          exact v
        · have v := v2 h23; clear v1 v2
          show TZ (d + 1) 229 62 [some (.inr 100), some (.inl x1), some (.inl x2), some (.inl x3), some (.inl x4), some (.inl (Int.tdiv (Int.tmod x3 16) 2)), some (.inl ((Z 105 (Int.tdiv (Int.tmod x3 16) 2)) + (-1)))] [] Z20 (zri Q)
          refine z0 (op := 0) (a := 0) (b := 0) (by rfl) (by rfl) (?_ : TZ (d + 1) 229 63 [some (.inr 100), some (.inl x1), some (.inl x2), some (.inl x3), some (.inl x4), some (.inl (Int.tdiv (Int.tmod x3 16) 2)), some (.inl ((Z 105 (Int.tdiv (Int.tmod x3 16) 2)) + (-1)))] [.inl 0] Z20 (zri Q))
          exact z_retb (by rfl) (by rfl) (by decide) v
    · have v := v2 h8; clear v1 v2
      show TZ (d + 1) 229 28 [some (.inr 100), some (.inl x1), some (.inl x2), some (.inl x3), some (.inl x4), some (.inl (Int.tdiv (Int.tmod x3 16) 2)), o6] [] Z (zri Q)
      refine z0 (op := 0) (a := 0) (b := 0) (by rfl) (by rfl) (?_ : TZ (d + 1) 229 29 [some (.inr 100), some (.inl x1), some (.inl x2), some (.inl x3), some (.inl x4), some (.inl (Int.tdiv (Int.tmod x3 16) 2)), o6] [.inl 0] Z (zri Q))
      exact z_retb (by rfl) (by rfl) (by decide) v
theorem w230_0 {d : Nat} {x1 x2 : Int} {Z : zM} {Q : Int → zM → Prop}
    (v : TZ d 230 5 [some (.inr 100), some (.inl x1), some (.inl x2), some (.inl 1), some (.inl 0), none] [] Z (zri Q)) :
    TZ d 230 0 [some (.inr 100), some (.inl x1), some (.inl x2), none, none, none] [] Z (zri Q) := by
  refine z0 (op := 0) (a := 0) (b := 1) (by rfl) (by rfl) (?_ : TZ d 230 1 [some (.inr 100), some (.inl x1), some (.inl x2), none, none, none] [.inl 1] Z (zri Q))
  refine z0 (op := 7) (a := 3) (b := 0) (by rfl) (by rfl) (?_ : TZ d 230 2 [some (.inr 100), some (.inl x1), some (.inl x2), some (.inl 1), none, none] [] Z (zri Q))
  refine z0 (op := 0) (a := 0) (b := 0) (by rfl) (by rfl) (?_ : TZ d 230 3 [some (.inr 100), some (.inl x1), some (.inl x2), some (.inl 1), none, none] [.inl 0] Z (zri Q))
  refine z0 (op := 8) (a := 4) (b := 0) (by rfl) (by rfl) (?_ : TZ d 230 5 [some (.inr 100), some (.inl x1), some (.inl x2), some (.inl 1), some (.inl 0), none] [] Z (zri Q))
  exact v
theorem w230_5 {d : Nat} {x1 x2 x3 x4 : Int} {Z : zM} {Q : Int → zM → Prop}
    (v : zR x4 ∧
      zR x2 ∧
      (x2 ≤ x4 → TZ d 230 25 [some (.inr 100), some (.inl x1), some (.inl x2), some (.inl x3), some (.inl 0), none] [] Z (zri Q)) ∧
      (¬ x2 ≤ x4 → TZ d 230 5 [some (.inr 100), some (.inl x1), some (.inl x2), some (.inl (x3 * 16)), some (.inl (x4 + 1)), none] [] Z (zri Q))) :
    TZ d 230 5 [some (.inr 100), some (.inl x1), some (.inl x2), some (.inl x3), some (.inl x4), none] [] Z (zri Q) := by
  refine z0 (op := 4) (a := 4) (b := 0) (by rfl) (by rfl) (?_ : TZ d 230 7 [some (.inr 100), some (.inl x1), some (.inl x2), some (.inl x3), some (.inl x4), none] [.inl x4] Z (zri Q))
  refine z0 (op := 3) (a := 2) (b := 0) (by rfl) (by rfl) (?_ : TZ d 230 8 [some (.inr 100), some (.inl x1), some (.inl x2), some (.inl x3), some (.inl x4), none] [.inl x2, .inl x4] Z (zri Q))
  obtain ⟨c1, c2, v1, v2⟩ := v
  refine z_if2 (a := 3) (t := 22) (by rfl) (by rfl) c1 c2 (fun h3 => ?_) (fun h3 => ?_)
  · have v := v1 h3; clear v1 v2
    show TZ d 230 22 [some (.inr 100), some (.inl x1), some (.inl x2), some (.inl x3), some (.inl x4), none] [] Z (zri Q)
    refine z0 (op := 0) (a := 0) (b := 0) (by rfl) (by rfl) (?_ : TZ d 230 23 [some (.inr 100), some (.inl x1), some (.inl x2), some (.inl x3), some (.inl x4), none] [.inl 0] Z (zri Q))
    refine z0 (op := 8) (a := 4) (b := 0) (by rfl) (by rfl) (?_ : TZ d 230 25 [some (.inr 100), some (.inl x1), some (.inl x2), some (.inl x3), some (.inl 0), none] [] Z (zri Q))
    exact v
  · have v := v2 h3; clear v1 v2
    show TZ d 230 11 [some (.inr 100), some (.inl x1), some (.inl x2), some (.inl x3), some (.inl x4), none] [] Z (zri Q)
    refine z0 (op := 3) (a := 3) (b := 0) (by rfl) (by rfl) (?_ : TZ d 230 12 [some (.inr 100), some (.inl x1), some (.inl x2), some (.inl x3), some (.inl x4), none] [.inl x3] Z (zri Q))
    refine z0 (op := 1) (a := 0) (b := 16) (by rfl) (by rfl) (?_ : TZ d 230 14 [some (.inr 100), some (.inl x1), some (.inl x2), some (.inl x3), some (.inl x4), none] [.inl 16, .inl x3] Z (zri Q))
    refine z0 (op := 12) (a := 2) (b := 0) (by rfl) (by rfl) (?_ : TZ d 230 15 [some (.inr 100), some (.inl x1), some (.inl x2), some (.inl x3), some (.inl x4), none] [.inl (x3 * 16)] Z (zri Q))
    refine z0 (op := 7) (a := 3) (b := 0) (by rfl) (by rfl) (?_ : TZ d 230 16 [some (.inr 100), some (.inl x1), some (.inl x2), some (.inl (x3 * 16)), some (.inl x4), none] [] Z (zri Q))
    refine z0 (op := 11) (a := 4) (b := 1) (by rfl) (by rfl) (?_ : TZ d 230 19 [some (.inr 100), some (.inl x1), some (.inl x2), some (.inl (x3 * 16)), some (.inl (x4 + 1)), none] [] Z (zri Q))
    refine z_goto (t := 5) (by rfl) (by rfl) (?_ : TZ d 230 5 [some (.inr 100), some (.inl x1), some (.inl x2), some (.inl (x3 * 16)), some (.inl (x4 + 1)), none] [] Z (zri Q))
    exact v
theorem w230_25 {d : Nat} {x1 x2 x3 x4 : Int} {o5 : Option zV} {Z : zM} {Q : Int → zM → Prop}
    (v : zR x4 ∧
      zR x3 ∧
      (x3 ≤ x4 → Q 0 Z) ∧
      (¬ x3 ≤ x4 → TV d 179 [.inr 100] Z (fun Z4 =>
          TI d 229 [.inr 100, .inl x4, .inl x2] Z4 (fun r6 Z5 =>
            zR r6 ∧
              (r6 = 0 → TV d 180 [.inr 100] Z5 (fun Z9 =>
                  TZ (d + 1) 230 25 [some (.inr 100), some (.inl x1), some (.inl x2), some (.inl x3), some (.inl (x4 + 1)), some (.inl 0)] [] Z9 (zri Q))) ∧
              (¬ r6 = 0 → TI d 161 [.inr 100] Z5 (fun r11 Z10 =>
                  zR r11 ∧
                    zR x1 ∧
                    (r11 ≠ x1 → TV d 180 [.inr 100] Z10 (fun Z15 =>
                        TZ (d + 1) 230 25 [some (.inr 100), some (.inl x1), some (.inl x2), some (.inl x3), some (.inl (x4 + 1)), some (.inl 0)] [] Z15 (zri Q))) ∧
                    (¬ r11 ≠ x1 → TV d 180 [.inr 100] Z10 (fun Z16 =>
                        Q 1 Z16)))))))) :
    TZ (d + 1) 230 25 [some (.inr 100), some (.inl x1), some (.inl x2), some (.inl x3), some (.inl x4), o5] [] Z (zri Q) := by
  refine z0 (op := 4) (a := 4) (b := 0) (by rfl) (by rfl) (?_ : TZ (d + 1) 230 27 [some (.inr 100), some (.inl x1), some (.inl x2), some (.inl x3), some (.inl x4), o5] [.inl x4] Z (zri Q))
  refine z0 (op := 3) (a := 3) (b := 0) (by rfl) (by rfl) (?_ : TZ (d + 1) 230 28 [some (.inr 100), some (.inl x1), some (.inl x2), some (.inl x3), some (.inl x4), o5] [.inl x3, .inl x4] Z (zri Q))
  obtain ⟨c1, c2, v1, v2⟩ := v
  refine z_if2 (a := 3) (t := 77) (by rfl) (by rfl) c1 c2 (fun h3 => ?_) (fun h3 => ?_)
  · have v := v1 h3; clear v1 v2
    show TZ (d + 1) 230 77 [some (.inr 100), some (.inl x1), some (.inl x2), some (.inl x3), some (.inl x4), o5] [] Z (zri Q)
    refine z0 (op := 0) (a := 0) (b := 0) (by rfl) (by rfl) (?_ : TZ (d + 1) 230 78 [some (.inr 100), some (.inl x1), some (.inl x2), some (.inl x3), some (.inl x4), o5] [.inl 0] Z (zri Q))
    exact z_retb (by rfl) (by rfl) (by decide) v
  · have v := v2 h3; clear v1 v2
    show TZ (d + 1) 230 31 [some (.inr 100), some (.inl x1), some (.inl x2), some (.inl x3), some (.inl x4), o5] [] Z (zri Q)
    refine z0 (op := 5) (a := 0) (b := 0) (by rfl) (by rfl) (?_ : TZ (d + 1) 230 32 [some (.inr 100), some (.inl x1), some (.inl x2), some (.inl x3), some (.inl x4), o5] [.inr 100] Z (zri Q))
    refine z_vv (by rfl) (by rfl) cl_100 (TV.mono v fun Z4 v => ?_)
    show TZ (d + 1) 230 35 [some (.inr 100), some (.inl x1), some (.inl x2), some (.inl x3), some (.inl x4), o5] [] Z4 (zri Q)
    refine z0 (op := 5) (a := 0) (b := 0) (by rfl) (by rfl) (?_ : TZ (d + 1) 230 36 [some (.inr 100), some (.inl x1), some (.inl x2), some (.inl x3), some (.inl x4), o5] [.inr 100] Z4 (zri Q))
    refine z0 (op := 4) (a := 4) (b := 0) (by rfl) (by rfl) (?_ : TZ (d + 1) 230 38 [some (.inr 100), some (.inl x1), some (.inl x2), some (.inl x3), some (.inl x4), o5] [.inl x4, .inr 100] Z4 (zri Q))
    refine z0 (op := 3) (a := 2) (b := 0) (by rfl) (by rfl) (?_ : TZ (d + 1) 230 39 [some (.inr 100), some (.inl x1), some (.inl x2), some (.inl x3), some (.inl x4), o5] [.inl x2, .inl x4, .inr 100] Z4 (zri Q))
    refine z_vi (by rfl) (by rfl) cl_100 (TI.mono v fun r6 Z5 v => ?_)
    show TZ (d + 1) 230 42 [some (.inr 100), some (.inl x1), some (.inl x2), some (.inl x3), some (.inl x4), o5] [.inl r6] Z5 (zri Q)
    obtain ⟨c7, v1, v2⟩ := v
    refine z_if0 (a := 0) (t := 57) (by rfl) (by rfl) c7 (fun h8 => ?_) (fun h8 => ?_)
    · have v := v1 h8; clear v1 v2
      show TZ (d + 1) 230 57 [some (.inr 100), some (.inl x1), some (.inl x2), some (.inl x3), some (.inl x4), o5] [] Z5 (zri Q)
      refine z0 (op := 0) (a := 0) (b := 0) (by rfl) (by rfl) (?_ : TZ (d + 1) 230 58 [some (.inr 100), some (.inl x1), some (.inl x2), some (.inl x3), some (.inl x4), o5] [.inl 0] Z5 (zri Q))
      refine z0 (op := 8) (a := 5) (b := 0) (by rfl) (by rfl) (?_ : TZ (d + 1) 230 60 [some (.inr 100), some (.inl x1), some (.inl x2), some (.inl x3), some (.inl x4), some (.inl 0)] [] Z5 (zri Q))
      refine z0 (op := 5) (a := 0) (b := 0) (by rfl) (by rfl) (?_ : TZ (d + 1) 230 61 [some (.inr 100), some (.inl x1), some (.inl x2), some (.inl x3), some (.inl x4), some (.inl 0)] [.inr 100] Z5 (zri Q))
      refine z_vv (by rfl) (by rfl) cl_100 (TV.mono v fun Z9 v => ?_)
      show TZ (d + 1) 230 64 [some (.inr 100), some (.inl x1), some (.inl x2), some (.inl x3), some (.inl x4), some (.inl 0)] [] Z9 (zri Q)
      refine z0 (op := 4) (a := 5) (b := 0) (by rfl) (by rfl) (?_ : TZ (d + 1) 230 66 [some (.inr 100), some (.inl x1), some (.inl x2), some (.inl x3), some (.inl x4), some (.inl 0)] [.inl 0] Z9 (zri Q))
      refine z_if0 (a := 0) (t := 71) (by rfl) (by rfl) (by decide) (fun _ => ?_) (fun h => absurd (show (0 : Int) = (0 : Int) by decide) h)
      show TZ (d + 1) 230 71 [some (.inr 100), some (.inl x1), some (.inl x2), some (.inl x3), some (.inl x4), some (.inl 0)] [] Z9 (zri Q)
      refine z0 (op := 11) (a := 4) (b := 1) (by rfl) (by rfl) (?_ : TZ (d + 1) 230 74 [some (.inr 100), some (.inl x1), some (.inl x2), some (.inl x3), some (.inl (x4 + 1)), some (.inl 0)] [] Z9 (zri Q))
      refine z_goto (t := 25) (by rfl) (by rfl) (?_ : TZ (d + 1) 230 25 [some (.inr 100), some (.inl x1), some (.inl x2), some (.inl x3), some (.inl (x4 + 1)), some (.inl 0)] [] Z9 (zri Q))
      exact v
    · have v := v2 h8; clear v1 v2
      show TZ (d + 1) 230 45 [some (.inr 100), some (.inl x1), some (.inl x2), some (.inl x3), some (.inl x4), o5] [] Z5 (zri Q)
      refine z0 (op := 5) (a := 0) (b := 0) (by rfl) (by rfl) (?_ : TZ (d + 1) 230 46 [some (.inr 100), some (.inl x1), some (.inl x2), some (.inl x3), some (.inl x4), o5] [.inr 100] Z5 (zri Q))
      refine z_vi (by rfl) (by rfl) cl_100 (TI.mono v fun r11 Z10 v => ?_)
      show TZ (d + 1) 230 49 [some (.inr 100), some (.inl x1), some (.inl x2), some (.inl x3), some (.inl x4), o5] [.inl r11] Z10 (zri Q)
      refine z0 (op := 3) (a := 1) (b := 0) (by rfl) (by rfl) (?_ : TZ (d + 1) 230 50 [some (.inr 100), some (.inl x1), some (.inl x2), some (.inl x3), some (.inl x4), o5] [.inl x1, .inl r11] Z10 (zri Q))
      obtain ⟨c12, c13, v1, v2⟩ := v
      refine z_if2 (a := 1) (t := 57) (by rfl) (by rfl) c12 c13 (fun h14 => ?_) (fun h14 => ?_)
      · have v := v1 h14; clear v1 v2
        show TZ (d + 1) 230 57 [some (.inr 100), some (.inl x1), some (.inl x2), some (.inl x3), some (.inl x4), o5] [] Z10 (zri Q)
        refine z0 (op := 0) (a := 0) (b := 0) (by rfl) (by rfl) (?_ : TZ (d + 1) 230 58 [some (.inr 100), some (.inl x1), some (.inl x2), some (.inl x3), some (.inl x4), o5] [.inl 0] Z10 (zri Q))
        refine z0 (op := 8) (a := 5) (b := 0) (by rfl) (by rfl) (?_ : TZ (d + 1) 230 60 [some (.inr 100), some (.inl x1), some (.inl x2), some (.inl x3), some (.inl x4), some (.inl 0)] [] Z10 (zri Q))
        refine z0 (op := 5) (a := 0) (b := 0) (by rfl) (by rfl) (?_ : TZ (d + 1) 230 61 [some (.inr 100), some (.inl x1), some (.inl x2), some (.inl x3), some (.inl x4), some (.inl 0)] [.inr 100] Z10 (zri Q))
        refine z_vv (by rfl) (by rfl) cl_100 (TV.mono v fun Z15 v => ?_)
        show TZ (d + 1) 230 64 [some (.inr 100), some (.inl x1), some (.inl x2), some (.inl x3), some (.inl x4), some (.inl 0)] [] Z15 (zri Q)
        refine z0 (op := 4) (a := 5) (b := 0) (by rfl) (by rfl) (?_ : TZ (d + 1) 230 66 [some (.inr 100), some (.inl x1), some (.inl x2), some (.inl x3), some (.inl x4), some (.inl 0)] [.inl 0] Z15 (zri Q))
        refine z_if0 (a := 0) (t := 71) (by rfl) (by rfl) (by decide) (fun _ => ?_) (fun h => absurd (show (0 : Int) = (0 : Int) by decide) h)
        show TZ (d + 1) 230 71 [some (.inr 100), some (.inl x1), some (.inl x2), some (.inl x3), some (.inl x4), some (.inl 0)] [] Z15 (zri Q)
        refine z0 (op := 11) (a := 4) (b := 1) (by rfl) (by rfl) (?_ : TZ (d + 1) 230 74 [some (.inr 100), some (.inl x1), some (.inl x2), some (.inl x3), some (.inl (x4 + 1)), some (.inl 0)] [] Z15 (zri Q))
        refine z_goto (t := 25) (by rfl) (by rfl) (?_ : TZ (d + 1) 230 25 [some (.inr 100), some (.inl x1), some (.inl x2), some (.inl x3), some (.inl (x4 + 1)), some (.inl 0)] [] Z15 (zri Q))
        exact v
      · have v := v2 h14; clear v1 v2
        show TZ (d + 1) 230 53 [some (.inr 100), some (.inl x1), some (.inl x2), some (.inl x3), some (.inl x4), o5] [] Z10 (zri Q)
        refine z0 (op := 0) (a := 0) (b := 1) (by rfl) (by rfl) (?_ : TZ (d + 1) 230 54 [some (.inr 100), some (.inl x1), some (.inl x2), some (.inl x3), some (.inl x4), o5] [.inl 1] Z10 (zri Q))
        refine z_goto (t := 58) (by rfl) (by rfl) (?_ : TZ (d + 1) 230 58 [some (.inr 100), some (.inl x1), some (.inl x2), some (.inl x3), some (.inl x4), o5] [.inl 1] Z10 (zri Q))
        refine z0 (op := 8) (a := 5) (b := 0) (by rfl) (by rfl) (?_ : TZ (d + 1) 230 60 [some (.inr 100), some (.inl x1), some (.inl x2), some (.inl x3), some (.inl x4), some (.inl 1)] [] Z10 (zri Q))
        refine z0 (op := 5) (a := 0) (b := 0) (by rfl) (by rfl) (?_ : TZ (d + 1) 230 61 [some (.inr 100), some (.inl x1), some (.inl x2), some (.inl x3), some (.inl x4), some (.inl 1)] [.inr 100] Z10 (zri Q))
        refine z_vv (by rfl) (by rfl) cl_100 (TV.mono v fun Z16 v => ?_)
        show TZ (d + 1) 230 64 [some (.inr 100), some (.inl x1), some (.inl x2), some (.inl x3), some (.inl x4), some (.inl 1)] [] Z16 (zri Q)
        refine z0 (op := 4) (a := 5) (b := 0) (by rfl) (by rfl) (?_ : TZ (d + 1) 230 66 [some (.inr 100), some (.inl x1), some (.inl x2), some (.inl x3), some (.inl x4), some (.inl 1)] [.inl 1] Z16 (zri Q))
        refine z_if0 (a := 0) (t := 71) (by rfl) (by rfl) (by decide) (fun h => absurd (show (1 : Int) = (0 : Int) from h) (by decide)) (fun _ => ?_)
        show TZ (d + 1) 230 69 [some (.inr 100), some (.inl x1), some (.inl x2), some (.inl x3), some (.inl x4), some (.inl 1)] [] Z16 (zri Q)
        refine z0 (op := 0) (a := 0) (b := 1) (by rfl) (by rfl) (?_ : TZ (d + 1) 230 70 [some (.inr 100), some (.inl x1), some (.inl x2), some (.inl x3), some (.inl x4), some (.inl 1)] [.inl 1] Z16 (zri Q))
        exact z_retb (by rfl) (by rfl) (by decide) v
theorem w231_0 {d : Nat} {x1 : Int} {Z : zM} {Q : Int → zM → Prop}
    (v : TI d 156 [.inl x1, .inl 0, .inl 11] Z (fun r2 Z1 =>
      zR r2 ∧
        (r2 = 0 → TZ (d + 1) 231 20 [some (.inr 100), some (.inl x1), some (.inl r2), some (.inl 0)] [] Z1 (zri Q)) ∧
        (¬ r2 = 0 → TI d 154 [.inr 100, .inl r2] Z1 (fun r6 Z5 =>
            Q r6 Z5)))) :
    TZ (d + 1) 231 0 [some (.inr 100), some (.inl x1), none, none] [] Z (zri Q) := by
  refine z0 (op := 3) (a := 1) (b := 0) (by rfl) (by rfl) (?_ : TZ (d + 1) 231 1 [some (.inr 100), some (.inl x1), none, none] [.inl x1] Z (zri Q))
  refine z0 (op := 0) (a := 0) (b := 0) (by rfl) (by rfl) (?_ : TZ (d + 1) 231 2 [some (.inr 100), some (.inl x1), none, none] [.inl 0, .inl x1] Z (zri Q))
  refine z0 (op := 1) (a := 0) (b := 11) (by rfl) (by rfl) (?_ : TZ (d + 1) 231 4 [some (.inr 100), some (.inl x1), none, none] [.inl 11, .inl 0, .inl x1] Z (zri Q))
  refine z_si (by rfl) (by rfl) (TI.mono v fun r2 Z1 v => ?_)
  show TZ (d + 1) 231 7 [some (.inr 100), some (.inl x1), none, none] [.inl r2] Z1 (zri Q)
  refine z0 (op := 7) (a := 2) (b := 0) (by rfl) (by rfl) (?_ : TZ (d + 1) 231 8 [some (.inr 100), some (.inl x1), some (.inl r2), none] [] Z1 (zri Q))
  refine z0 (op := 3) (a := 2) (b := 0) (by rfl) (by rfl) (?_ : TZ (d + 1) 231 9 [some (.inr 100), some (.inl x1), some (.inl r2), none] [.inl r2] Z1 (zri Q))
  obtain ⟨c3, v1, v2⟩ := v
  refine z_if0 (a := 0) (t := 18) (by rfl) (by rfl) c3 (fun h4 => ?_) (fun h4 => ?_)
  · have v := v1 h4; clear v1 v2
    show TZ (d + 1) 231 18 [some (.inr 100), some (.inl x1), some (.inl r2), none] [] Z1 (zri Q)
    refine z0 (op := 0) (a := 0) (b := 0) (by rfl) (by rfl) (?_ : TZ (d + 1) 231 19 [some (.inr 100), some (.inl x1), some (.inl r2), none] [.inl 0] Z1 (zri Q))
    refine z0 (op := 7) (a := 3) (b := 0) (by rfl) (by rfl) (?_ : TZ (d + 1) 231 20 [some (.inr 100), some (.inl x1), some (.inl r2), some (.inl 0)] [] Z1 (zri Q))
    exact v
  · have v := v2 h4; clear v1 v2
    show TZ (d + 1) 231 12 [some (.inr 100), some (.inl x1), some (.inl r2), none] [] Z1 (zri Q)
    refine z0 (op := 5) (a := 0) (b := 0) (by rfl) (by rfl) (?_ : TZ (d + 1) 231 13 [some (.inr 100), some (.inl x1), some (.inl r2), none] [.inr 100] Z1 (zri Q))
    refine z0 (op := 3) (a := 2) (b := 0) (by rfl) (by rfl) (?_ : TZ (d + 1) 231 14 [some (.inr 100), some (.inl x1), some (.inl r2), none] [.inl r2, .inr 100] Z1 (zri Q))
    refine z_vi (by rfl) (by rfl) cl_100 (TI.mono v fun r6 Z5 v => ?_)
    show TZ (d + 1) 231 17 [some (.inr 100), some (.inl x1), some (.inl r2), none] [.inl r6] Z5 (zri Q)
    exact z_reti (by rfl) (by rfl) v
theorem w231_20 {d : Nat} {x1 x2 x3 : Int} {Z : zM} {Q : Int → zM → Prop}
    (v : zR x3 ∧
      (4 ≤ x3 → Q (-9) Z) ∧
      (¬ 4 ≤ x3 → TI d 230 [.inr 100, .inl x1, .inl x3] Z (fun r4 Z3 =>
          zR r4 ∧
            (r4 = 0 → TZ (d + 1) 231 20 [some (.inr 100), some (.inl x1), some (.inl x2), some (.inl (x3 + 1))] [] Z3 (zri Q)) ∧
            (¬ r4 = 0 → Q x3 Z3)))) :
    TZ (d + 1) 231 20 [some (.inr 100), some (.inl x1), some (.inl x2), some (.inl x3)] [] Z (zri Q) := by
  refine z0 (op := 3) (a := 3) (b := 0) (by rfl) (by rfl) (?_ : TZ (d + 1) 231 21 [some (.inr 100), some (.inl x1), some (.inl x2), some (.inl x3)] [.inl x3] Z (zri Q))
  refine z0 (op := 0) (a := 0) (b := 4) (by rfl) (by rfl) (?_ : TZ (d + 1) 231 22 [some (.inr 100), some (.inl x1), some (.inl x2), some (.inl x3)] [.inl 4, .inl x3] Z (zri Q))
  obtain ⟨c1, v1, v2⟩ := v
  refine z_if2 (a := 3) (t := 42) (by rfl) (by rfl) c1 (by decide) (fun h2 => ?_) (fun h2 => ?_)
  · have v := v1 h2; clear v1 v2
    show TZ (d + 1) 231 42 [some (.inr 100), some (.inl x1), some (.inl x2), some (.inl x3)] [] Z (zri Q)
    refine z0 (op := 1) (a := 0) (b := (-9)) (by rfl) (by rfl) (?_ : TZ (d + 1) 231 44 [some (.inr 100), some (.inl x1), some (.inl x2), some (.inl x3)] [.inl (-9)] Z (zri Q))
    exact z_reti (by rfl) (by rfl) v
  · have v := v2 h2; clear v1 v2
    show TZ (d + 1) 231 25 [some (.inr 100), some (.inl x1), some (.inl x2), some (.inl x3)] [] Z (zri Q)
    refine z0 (op := 5) (a := 0) (b := 0) (by rfl) (by rfl) (?_ : TZ (d + 1) 231 26 [some (.inr 100), some (.inl x1), some (.inl x2), some (.inl x3)] [.inr 100] Z (zri Q))
    refine z0 (op := 3) (a := 1) (b := 0) (by rfl) (by rfl) (?_ : TZ (d + 1) 231 27 [some (.inr 100), some (.inl x1), some (.inl x2), some (.inl x3)] [.inl x1, .inr 100] Z (zri Q))
    refine z0 (op := 3) (a := 3) (b := 0) (by rfl) (by rfl) (?_ : TZ (d + 1) 231 28 [some (.inr 100), some (.inl x1), some (.inl x2), some (.inl x3)] [.inl x3, .inl x1, .inr 100] Z (zri Q))
    refine z_vi (by rfl) (by rfl) cl_100 (TI.mono v fun r4 Z3 v => ?_)
    show TZ (d + 1) 231 31 [some (.inr 100), some (.inl x1), some (.inl x2), some (.inl x3)] [.inl r4] Z3 (zri Q)
    obtain ⟨c5, v1, v2⟩ := v
    refine z_if0 (a := 0) (t := 36) (by rfl) (by rfl) c5 (fun h6 => ?_) (fun h6 => ?_)
    · have v := v1 h6; clear v1 v2
      show TZ (d + 1) 231 36 [some (.inr 100), some (.inl x1), some (.inl x2), some (.inl x3)] [] Z3 (zri Q)
      refine z0 (op := 11) (a := 3) (b := 1) (by rfl) (by rfl) (?_ : TZ (d + 1) 231 39 [some (.inr 100), some (.inl x1), some (.inl x2), some (.inl (x3 + 1))] [] Z3 (zri Q))
      refine z_goto (t := 20) (by rfl) (by rfl) (?_ : TZ (d + 1) 231 20 [some (.inr 100), some (.inl x1), some (.inl x2), some (.inl (x3 + 1))] [] Z3 (zri Q))
      exact v
    · have v := v2 h6; clear v1 v2
      show TZ (d + 1) 231 34 [some (.inr 100), some (.inl x1), some (.inl x2), some (.inl x3)] [] Z3 (zri Q)
      refine z0 (op := 3) (a := 3) (b := 0) (by rfl) (by rfl) (?_ : TZ (d + 1) 231 35 [some (.inr 100), some (.inl x1), some (.inl x2), some (.inl x3)] [.inl x3] Z3 (zri Q))
      exact z_reti (by rfl) (by rfl) v
theorem w232_0 {d : Nat} {Z : zM} {Q : zM → Prop}
    (v : TZ d 232 2 [some (.inr 100), some (.inl 0), none, none] [] Z (zrv Q)) :
    TZ d 232 0 [some (.inr 100), none, none, none] [] Z (zrv Q) := by
  refine z0 (op := 0) (a := 0) (b := 0) (by rfl) (by rfl) (?_ : TZ d 232 1 [some (.inr 100), none, none, none] [.inl 0] Z (zrv Q))
  refine z0 (op := 7) (a := 1) (b := 0) (by rfl) (by rfl) (?_ : TZ d 232 2 [some (.inr 100), some (.inl 0), none, none] [] Z (zrv Q))
  exact v
theorem w232_2 {d : Nat} {x1 : Int} {Z : zM} {Q : zM → Prop}
    (v : zR x1 ∧
      (108 ≤ x1 → TZ d 232 31 [some (.inr 100), some (.inl 0), none, none] [] Z (zrv Q)) ∧
      (¬ 108 ≤ x1 → (zR x1 ∧
          (x1 ≠ 0 → ((0 ≤ x1 ∧ x1 < 108) ∧
              ∀ Z6, Z6 = zup Z 118 x1 0 →
              TZ d 232 2 [some (.inr 100), some (.inl (x1 + 1)), none, none] [] Z6 (zrv Q))) ∧
          (¬ x1 ≠ 0 → ((0 ≤ x1 ∧ x1 < 108) ∧
              ∀ Z8, Z8 = zup Z 118 x1 1 →
              TZ d 232 2 [some (.inr 100), some (.inl (x1 + 1)), none, none] [] Z8 (zrv Q)))))) :
    TZ d 232 2 [some (.inr 100), some (.inl x1), none, none] [] Z (zrv Q) := by
  refine z0 (op := 3) (a := 1) (b := 0) (by rfl) (by rfl) (?_ : TZ d 232 3 [some (.inr 100), some (.inl x1), none, none] [.inl x1] Z (zrv Q))
  refine z0 (op := 1) (a := 0) (b := 108) (by rfl) (by rfl) (?_ : TZ d 232 5 [some (.inr 100), some (.inl x1), none, none] [.inl 108, .inl x1] Z (zrv Q))
  obtain ⟨c1, v1, v2⟩ := v
  refine z_if2 (a := 3) (t := 29) (by rfl) (by rfl) c1 (by decide) (fun h2 => ?_) (fun h2 => ?_)
  · have v := v1 h2; clear v1 v2
    show TZ d 232 29 [some (.inr 100), some (.inl x1), none, none] [] Z (zrv Q)
    refine z0 (op := 0) (a := 0) (b := 0) (by rfl) (by rfl) (?_ : TZ d 232 30 [some (.inr 100), some (.inl x1), none, none] [.inl 0] Z (zrv Q))
    refine z0 (op := 7) (a := 1) (b := 0) (by rfl) (by rfl) (?_ : TZ d 232 31 [some (.inr 100), some (.inl 0), none, none] [] Z (zrv Q))
    exact v
  · have v := v2 h2; clear v1 v2
    show TZ d 232 8 [some (.inr 100), some (.inl x1), none, none] [] Z (zrv Q)
    refine z0 (op := 5) (a := 0) (b := 0) (by rfl) (by rfl) (?_ : TZ d 232 9 [some (.inr 100), some (.inl x1), none, none] [.inr 100] Z (zrv Q))
    refine z_fr (by rfl) fr105_100 (?_ : TZ d 232 12 [some (.inr 100), some (.inl x1), none, none] [.inr 118] Z (zrv Q))
    refine z0 (op := 3) (a := 1) (b := 0) (by rfl) (by rfl) (?_ : TZ d 232 13 [some (.inr 100), some (.inl x1), none, none] [.inl x1, .inr 118] Z (zrv Q))
    refine z0 (op := 3) (a := 1) (b := 0) (by rfl) (by rfl) (?_ : TZ d 232 14 [some (.inr 100), some (.inl x1), none, none] [.inl x1, .inl x1, .inr 118] Z (zrv Q))
    obtain ⟨c3, v1, v2⟩ := v
    refine z_if0 (a := 1) (t := 21) (by rfl) (by rfl) c3 (fun h4 => ?_) (fun h4 => ?_)
    · have v := v1 h4; clear v1 v2
      show TZ d 232 21 [some (.inr 100), some (.inl x1), none, none] [.inl x1, .inr 118] Z (zrv Q)
      refine z0 (op := 0) (a := 0) (b := 0) (by rfl) (by rfl) (?_ : TZ d 232 22 [some (.inr 100), some (.inl x1), none, none] [.inl 0, .inl x1, .inr 118] Z (zrv Q))
      obtain ⟨c5, v⟩ := v
      obtain ⟨Z6, eZ6⟩ : ∃ zz, zz = zup Z 118 x1 0 := ⟨_, rfl⟩
      have v := v Z6 eZ6
      refine z_as (by rfl) ln_118 c5 ?_
      show TZ d 232 23 [some (.inr 100), some (.inl x1), none, none] [] (zup Z 118 x1 0) _
      rw [← eZ6]
      refine z0 (op := 11) (a := 1) (b := 1) (by rfl) (by rfl) (?_ : TZ d 232 26 [some (.inr 100), some (.inl (x1 + 1)), none, none] [] Z6 (zrv Q))
      refine z_goto (t := 2) (by rfl) (by rfl) (?_ : TZ d 232 2 [some (.inr 100), some (.inl (x1 + 1)), none, none] [] Z6 (zrv Q))
      exact v
    · have v := v2 h4; clear v1 v2
      show TZ d 232 17 [some (.inr 100), some (.inl x1), none, none] [.inl x1, .inr 118] Z (zrv Q)
      refine z0 (op := 0) (a := 0) (b := 1) (by rfl) (by rfl) (?_ : TZ d 232 18 [some (.inr 100), some (.inl x1), none, none] [.inl 1, .inl x1, .inr 118] Z (zrv Q))
      refine z_goto (t := 22) (by rfl) (by rfl) (?_ : TZ d 232 22 [some (.inr 100), some (.inl x1), none, none] [.inl 1, .inl x1, .inr 118] Z (zrv Q))
      obtain ⟨c7, v⟩ := v
      obtain ⟨Z8, eZ8⟩ : ∃ zz, zz = zup Z 118 x1 1 := ⟨_, rfl⟩
      have v := v Z8 eZ8
      refine z_as (by rfl) ln_118 c7 ?_
      show TZ d 232 23 [some (.inr 100), some (.inl x1), none, none] [] (zup Z 118 x1 1) _
      rw [← eZ8]
      refine z0 (op := 11) (a := 1) (b := 1) (by rfl) (by rfl) (?_ : TZ d 232 26 [some (.inr 100), some (.inl (x1 + 1)), none, none] [] Z8 (zrv Q))
      refine z_goto (t := 2) (by rfl) (by rfl) (?_ : TZ d 232 2 [some (.inr 100), some (.inl (x1 + 1)), none, none] [] Z8 (zrv Q))
      exact v
theorem w232_31 {d : Nat} {x1 : Int} {o2 o3 : Option zV} {Z : zM} {Q : zM → Prop}
    (v : zR x1 ∧
      zR (Z 100 6) ∧
      ((Z 100 6) ≤ x1 → Q Z) ∧
      (¬ (Z 100 6) ≤ x1 → TZ d 232 41 [some (.inr 100), some (.inl x1), some (.inl 0), o3] [] Z (zrv Q))) :
    TZ d 232 31 [some (.inr 100), some (.inl x1), o2, o3] [] Z (zrv Q) := by
  refine z0 (op := 3) (a := 1) (b := 0) (by rfl) (by rfl) (?_ : TZ d 232 32 [some (.inr 100), some (.inl x1), o2, o3] [.inl x1] Z (zrv Q))
  refine z0 (op := 5) (a := 0) (b := 0) (by rfl) (by rfl) (?_ : TZ d 232 33 [some (.inr 100), some (.inl x1), o2, o3] [.inr 100, .inl x1] Z (zrv Q))
  refine z_fi (by rfl) fi110_100 (?_ : TZ d 232 36 [some (.inr 100), some (.inl x1), o2, o3] [.inl (Z 100 6), .inl x1] Z (zrv Q))
  obtain ⟨c1, c2, v1, v2⟩ := v
  refine z_if2 (a := 3) (t := 172) (by rfl) (by rfl) c1 c2 (fun h3 => ?_) (fun h3 => ?_)
  · have v := v1 h3; clear v1 v2
    show TZ d 232 172 [some (.inr 100), some (.inl x1), o2, o3] [] Z (zrv Q)
    exact z_retv (by rfl) (by rfl) v
  · have v := v2 h3; clear v1 v2
    show TZ d 232 39 [some (.inr 100), some (.inl x1), o2, o3] [] Z (zrv Q)
    refine z0 (op := 0) (a := 0) (b := 0) (by rfl) (by rfl) (?_ : TZ d 232 40 [some (.inr 100), some (.inl x1), o2, o3] [.inl 0] Z (zrv Q))
    refine z0 (op := 7) (a := 2) (b := 0) (by rfl) (by rfl) (?_ : TZ d 232 41 [some (.inr 100), some (.inl x1), some (.inl 0), o3] [] Z (zrv Q))
    exact v
theorem w232_41 {d : Nat} {x1 x2 : Int} {o3 : Option zV} {Z : zM} {Q : zM → Prop}
    (v : zR x2 ∧
      (108 ≤ x2 → TZ d 232 62 [some (.inr 100), some (.inl x1), some (.inl 0), o3] [] Z (zrv Q)) ∧
      (¬ 108 ≤ x2 → ((0 ≤ x2 ∧ x2 < 108) ∧
          ∀ Z4, Z4 = zup Z 119 x2 0 →
          TZ d 232 41 [some (.inr 100), some (.inl x1), some (.inl (x2 + 1)), o3] [] Z4 (zrv Q)))) :
    TZ d 232 41 [some (.inr 100), some (.inl x1), some (.inl x2), o3] [] Z (zrv Q) := by
  refine z0 (op := 3) (a := 2) (b := 0) (by rfl) (by rfl) (?_ : TZ d 232 42 [some (.inr 100), some (.inl x1), some (.inl x2), o3] [.inl x2] Z (zrv Q))
  refine z0 (op := 1) (a := 0) (b := 108) (by rfl) (by rfl) (?_ : TZ d 232 44 [some (.inr 100), some (.inl x1), some (.inl x2), o3] [.inl 108, .inl x2] Z (zrv Q))
  obtain ⟨c1, v1, v2⟩ := v
  refine z_if2 (a := 3) (t := 60) (by rfl) (by rfl) c1 (by decide) (fun h2 => ?_) (fun h2 => ?_)
  · have v := v1 h2; clear v1 v2
    show TZ d 232 60 [some (.inr 100), some (.inl x1), some (.inl x2), o3] [] Z (zrv Q)
    refine z0 (op := 0) (a := 0) (b := 0) (by rfl) (by rfl) (?_ : TZ d 232 61 [some (.inr 100), some (.inl x1), some (.inl x2), o3] [.inl 0] Z (zrv Q))
    refine z0 (op := 7) (a := 2) (b := 0) (by rfl) (by rfl) (?_ : TZ d 232 62 [some (.inr 100), some (.inl x1), some (.inl 0), o3] [] Z (zrv Q))
    exact v
  · have v := v2 h2; clear v1 v2
    show TZ d 232 47 [some (.inr 100), some (.inl x1), some (.inl x2), o3] [] Z (zrv Q)
    refine z0 (op := 5) (a := 0) (b := 0) (by rfl) (by rfl) (?_ : TZ d 232 48 [some (.inr 100), some (.inl x1), some (.inl x2), o3] [.inr 100] Z (zrv Q))
    refine z_fr (by rfl) fr106_100 (?_ : TZ d 232 51 [some (.inr 100), some (.inl x1), some (.inl x2), o3] [.inr 119] Z (zrv Q))
    refine z0 (op := 3) (a := 2) (b := 0) (by rfl) (by rfl) (?_ : TZ d 232 52 [some (.inr 100), some (.inl x1), some (.inl x2), o3] [.inl x2, .inr 119] Z (zrv Q))
    refine z0 (op := 0) (a := 0) (b := 0) (by rfl) (by rfl) (?_ : TZ d 232 53 [some (.inr 100), some (.inl x1), some (.inl x2), o3] [.inl 0, .inl x2, .inr 119] Z (zrv Q))
    obtain ⟨c3, v⟩ := v
    obtain ⟨Z4, eZ4⟩ : ∃ zz, zz = zup Z 119 x2 0 := ⟨_, rfl⟩
    have v := v Z4 eZ4
    refine z_as (by rfl) ln_119 c3 ?_
    show TZ d 232 54 [some (.inr 100), some (.inl x1), some (.inl x2), o3] [] (zup Z 119 x2 0) _
    rw [← eZ4]
    refine z0 (op := 11) (a := 2) (b := 1) (by rfl) (by rfl) (?_ : TZ d 232 57 [some (.inr 100), some (.inl x1), some (.inl (x2 + 1)), o3] [] Z4 (zrv Q))
    refine z_goto (t := 41) (by rfl) (by rfl) (?_ : TZ d 232 41 [some (.inr 100), some (.inl x1), some (.inl (x2 + 1)), o3] [] Z4 (zrv Q))
    exact v
theorem w232_62 {d : Nat} {x1 x2 : Int} {o3 : Option zV} {Z : zM} {Q : zM → Prop}
    (v : zR x2 ∧
      (108 ≤ x2 → TZ d 232 142 [some (.inr 100), some (.inl x1), some (.inl 0), o3] [] Z (zrv Q)) ∧
      (¬ 108 ≤ x2 → TZ d 232 70 [some (.inr 100), some (.inl x1), some (.inl x2), some (.inl 0)] [] Z (zrv Q))) :
    TZ d 232 62 [some (.inr 100), some (.inl x1), some (.inl x2), o3] [] Z (zrv Q) := by
  refine z0 (op := 3) (a := 2) (b := 0) (by rfl) (by rfl) (?_ : TZ d 232 63 [some (.inr 100), some (.inl x1), some (.inl x2), o3] [.inl x2] Z (zrv Q))
  refine z0 (op := 1) (a := 0) (b := 108) (by rfl) (by rfl) (?_ : TZ d 232 65 [some (.inr 100), some (.inl x1), some (.inl x2), o3] [.inl 108, .inl x2] Z (zrv Q))
  obtain ⟨c1, v1, v2⟩ := v
  refine z_if2 (a := 3) (t := 140) (by rfl) (by rfl) c1 (by decide) (fun h2 => ?_) (fun h2 => ?_)
  · have v := v1 h2; clear v1 v2
    show TZ d 232 140 [some (.inr 100), some (.inl x1), some (.inl x2), o3] [] Z (zrv Q)
    refine z0 (op := 0) (a := 0) (b := 0) (by rfl) (by rfl) (?_ : TZ d 232 141 [some (.inr 100), some (.inl x1), some (.inl x2), o3] [.inl 0] Z (zrv Q))
    refine z0 (op := 7) (a := 2) (b := 0) (by rfl) (by rfl) (?_ : TZ d 232 142 [some (.inr 100), some (.inl x1), some (.inl 0), o3] [] Z (zrv Q))
    exact v
  · have v := v2 h2; clear v1 v2
    show TZ d 232 68 [some (.inr 100), some (.inl x1), some (.inl x2), o3] [] Z (zrv Q)
    refine z0 (op := 0) (a := 0) (b := 0) (by rfl) (by rfl) (?_ : TZ d 232 69 [some (.inr 100), some (.inl x1), some (.inl x2), o3] [.inl 0] Z (zrv Q))
    refine z0 (op := 7) (a := 3) (b := 0) (by rfl) (by rfl) (?_ : TZ d 232 70 [some (.inr 100), some (.inl x1), some (.inl x2), some (.inl 0)] [] Z (zrv Q))
    exact v
