/-! what stretches of code need of integers -/
theorem w165_5 {d : Nat} {x1 x2 x3 x4 : Int} {Z : zM} {Q : Int → zM → Prop}
    (v : zR x4 ∧
      zR x2 ∧
      (x2 ≤ x4 → ((0 ≤ x1 ∧ x1 < 144) ∧
          ∀ Z5, Z5 = zup Z 109 x1 x3 →
          Q 1 Z5)) ∧
      (¬ x2 ≤ x4 → TI d 164 [.inr 100] Z (fun r7 Z6 =>
          TI d 155 [.inl r7, .inl 48, .inl 57] Z6 (fun r9 Z8 =>
            zR r9 ∧
              (r9 ≠ 0 → TI d 164 [.inr 100] Z8 (fun r13 Z12 =>
                  ∀ Z14, Z14 = zup Z12 100 13 ((Z12 100 13) + 1) →
                    TZ (d + 1) 165 5 [some (.inr 100), some (.inl x1), some (.inl x2), some (.inl (((10 * x3) + r13) - 48)), some (.inl (x4 + 1))] [] Z14 (zri Q))) ∧
              (¬ r9 ≠ 0 → Q 0 Z8))))) :
    TZ (d + 1) 165 5 [some (.inr 100), some (.inl x1), some (.inl x2), some (.inl x3), some (.inl x4)] [] Z (zri Q) := by
  refine z0 (op := 4) (a := 4) (b := 0) (by rfl) (by rfl) (?_ : TZ (d + 1) 165 7 [some (.inr 100), some (.inl x1), some (.inl x2), some (.inl x3), some (.inl x4)] [.inl x4] Z (zri Q))
  refine z0 (op := 3) (a := 2) (b := 0) (by rfl) (by rfl) (?_ : TZ (d + 1) 165 8 [some (.inr 100), some (.inl x1), some (.inl x2), some (.inl x3), some (.inl x4)] [.inl x2, .inl x4] Z (zri Q))
  obtain ⟨c1, c2, v1, v2⟩ := v
  refine z_if2 (a := 3) (t := 56) (by rfl) (by rfl) c1 c2 (fun h3 => ?_) (fun h3 => ?_)
  · have v := v1 h3; clear v1 v2
    show TZ (d + 1) 165 56 [some (.inr 100), some (.inl x1), some (.inl x2), some (.inl x3), some (.inl x4)] [] Z (zri Q)
    refine z0 (op := 5) (a := 0) (b := 0) (by rfl) (by rfl) (?_ : TZ (d + 1) 165 57 [some (.inr 100), some (.inl x1), some (.inl x2), some (.inl x3), some (.inl x4)] [.inr 100] Z (zri Q))
    refine z_fr (by rfl) fr96_100 (?_ : TZ (d + 1) 165 60 [some (.inr 100), some (.inl x1), some (.inl x2), some (.inl x3), some (.inl x4)] [.inr 109] Z (zri Q))
    refine z0 (op := 3) (a := 1) (b := 0) (by rfl) (by rfl) (?_ : TZ (d + 1) 165 61 [some (.inr 100), some (.inl x1), some (.inl x2), some (.inl x3), some (.inl x4)] [.inl x1, .inr 109] Z (zri Q))
    refine z0 (op := 3) (a := 3) (b := 0) (by rfl) (by rfl) (?_ : TZ (d + 1) 165 62 [some (.inr 100), some (.inl x1), some (.inl x2), some (.inl x3), some (.inl x4)] [.inl x3, .inl x1, .inr 109] Z (zri Q))
    obtain ⟨c4, v⟩ := v
    obtain ⟨Z5, eZ5⟩ : ∃ q, q = zup Z 109 x1 x3 := ⟨_, rfl⟩
    have v := v Z5 eZ5
    refine z_as (by rfl) ln_109 c4 ?_
    show TZ (d + 1) 165 63 [some (.inr 100), some (.inl x1), some (.inl x2), some (.inl x3), some (.inl x4)] [] (zup Z 109 x1 x3) _
    rw [← eZ5]
    refine z0 (op := 0) (a := 0) (b := 1) (by rfl) (by rfl) (?_ : TZ (d + 1) 165 64 [some (.inr 100), some (.inl x1), some (.inl x2), some (.inl x3), some (.inl x4)] [.inl 1] Z5 (zri Q))
    exact z_retb (by rfl) (by rfl) (by decide) v
  · have v := v2 h3; clear v1 v2
    show TZ (d + 1) 165 11 [some (.inr 100), some (.inl x1), some (.inl x2), some (.inl x3), some (.inl x4)] [] Z (zri Q)
    refine z0 (op := 5) (a := 0) (b := 0) (by rfl) (by rfl) (?_ : TZ (d + 1) 165 12 [some (.inr 100), some (.inl x1), some (.inl x2), some (.inl x3), some (.inl x4)] [.inr 100] Z (zri Q))
    refine z_vi (by rfl) (by rfl) cl_100 (TI.mono v fun r7 Z6 v => ?_)
    show TZ (d + 1) 165 15 [some (.inr 100), some (.inl x1), some (.inl x2), some (.inl x3), some (.inl x4)] [.inl r7] Z6 (zri Q)
    refine z0 (op := 1) (a := 0) (b := 48) (by rfl) (by rfl) (?_ : TZ (d + 1) 165 17 [some (.inr 100), some (.inl x1), some (.inl x2), some (.inl x3), some (.inl x4)] [.inl 48, .inl r7] Z6 (zri Q))
    refine z0 (op := 1) (a := 0) (b := 57) (by rfl) (by rfl) (?_ : TZ (d + 1) 165 19 [some (.inr 100), some (.inl x1), some (.inl x2), some (.inl x3), some (.inl x4)] [.inl 57, .inl 48, .inl r7] Z6 (zri Q))
    refine z_si (by rfl) (by rfl) (TI.mono v fun r9 Z8 v => ?_)
    show TZ (d + 1) 165 22 [some (.inr 100), some (.inl x1), some (.inl x2), some (.inl x3), some (.inl x4)] [.inl r9] Z8 (zri Q)
    obtain ⟨c10, v1, v2⟩ := v
    refine z_if0 (a := 1) (t := 27) (by rfl) (by rfl) c10 (fun h11 => ?_) (fun h11 => ?_)
    · have v := v1 h11; clear v1 v2
      show TZ (d + 1) 165 27 [some (.inr 100), some (.inl x1), some (.inl x2), some (.inl x3), some (.inl x4)] [] Z8 (zri Q)
      refine z0 (op := 1) (a := 0) (b := 10) (by rfl) (by rfl) (?_ : TZ (d + 1) 165 29 [some (.inr 100), some (.inl x1), some (.inl x2), some (.inl x3), some (.inl x4)] [.inl 10] Z8 (zri Q))
      refine z0 (op := 3) (a := 3) (b := 0) (by rfl) (by rfl) (?_ : TZ (d + 1) 165 30 [some (.inr 100), some (.inl x1), some (.inl x2), some (.inl x3), some (.inl x4)] [.inl x3, .inl 10] Z8 (zri Q))
      refine z0 (op := 12) (a := 2) (b := 0) (by rfl) (by rfl) (?_ : TZ (d + 1) 165 31 [some (.inr 100), some (.inl x1), some (.inl x2), some (.inl x3), some (.inl x4)] [.inl (10 * x3)] Z8 (zri Q))
      refine z0 (op := 5) (a := 0) (b := 0) (by rfl) (by rfl) (?_ : TZ (d + 1) 165 32 [some (.inr 100), some (.inl x1), some (.inl x2), some (.inl x3), some (.inl x4)] [.inr 100, .inl (10 * x3)] Z8 (zri Q))
      refine z_vi (by rfl) (by rfl) cl_100 (TI.mono v fun r13 Z12 v => ?_)
      show TZ (d + 1) 165 35 [some (.inr 100), some (.inl x1), some (.inl x2), some (.inl x3), some (.inl x4)] [.inl r13, .inl (10 * x3)] Z12 (zri Q)
      refine z0 (op := 12) (a := 0) (b := 0) (by rfl) (by rfl) (?_ : TZ (d + 1) 165 36 [some (.inr 100), some (.inl x1), some (.inl x2), some (.inl x3), some (.inl x4)] [.inl ((10 * x3) + r13)] Z12 (zri Q))
      refine z0 (op := 1) (a := 0) (b := 48) (by rfl) (by rfl) (?_ : TZ (d + 1) 165 38 [some (.inr 100), some (.inl x1), some (.inl x2), some (.inl x3), some (.inl x4)] [.inl 48, .inl ((10 * x3) + r13)] Z12 (zri Q))
      refine z0 (op := 12) (a := 1) (b := 0) (by rfl) (by rfl) (?_ : TZ (d + 1) 165 39 [some (.inr 100), some (.inl x1), some (.inl x2), some (.inl x3), some (.inl x4)] [.inl (((10 * x3) + r13) - 48)] Z12 (zri Q))
      refine z0 (op := 7) (a := 3) (b := 0) (by rfl) (by rfl) (?_ : TZ (d + 1) 165 40 [some (.inr 100), some (.inl x1), some (.inl x2), some (.inl (((10 * x3) + r13) - 48)), some (.inl x4)] [] Z12 (zri Q))
      refine z0 (op := 5) (a := 0) (b := 0) (by rfl) (by rfl) (?_ : TZ (d + 1) 165 41 [some (.inr 100), some (.inl x1), some (.inl x2), some (.inl (((10 * x3) + r13) - 48)), some (.inl x4)] [.inr 100] Z12 (zri Q))
      refine z0 (op := 15) (a := 0) (b := 0) (by rfl) (by rfl) (?_ : TZ (d + 1) 165 42 [some (.inr 100), some (.inl x1), some (.inl x2), some (.inl (((10 * x3) + r13) - 48)), some (.inl x4)] [.inr 100, .inr 100] Z12 (zri Q))
      refine z_fi (by rfl) fi114_100 (?_ : TZ (d + 1) 165 45 [some (.inr 100), some (.inl x1), some (.inl x2), some (.inl (((10 * x3) + r13) - 48)), some (.inl x4)] [.inl (Z12 100 13), .inr 100] Z12 (zri Q))
      refine z0 (op := 0) (a := 0) (b := 1) (by rfl) (by rfl) (?_ : TZ (d + 1) 165 46 [some (.inr 100), some (.inl x1), some (.inl x2), some (.inl (((10 * x3) + r13) - 48)), some (.inl x4)] [.inl 1, .inl (Z12 100 13), .inr 100] Z12 (zri Q))
      refine z0 (op := 12) (a := 0) (b := 0) (by rfl) (by rfl) (?_ : TZ (d + 1) 165 47 [some (.inr 100), some (.inl x1), some (.inl x2), some (.inl (((10 * x3) + r13) - 48)), some (.inl x4)] [.inl ((Z12 100 13) + 1), .inr 100] Z12 (zri Q))
      obtain ⟨Z14, eZ14⟩ : ∃ q, q = zup Z12 100 13 ((Z12 100 13) + 1) := ⟨_, rfl⟩
      have v := v Z14 eZ14
      refine z_pf (by rfl) pf114_100 (fun h => nomatch h) ?_
      show TZ (d + 1) 165 50 [some (.inr 100), some (.inl x1), some (.inl x2), some (.inl (((10 * x3) + r13) - 48)), some (.inl x4)] [] (zup Z12 100 13 ((Z12 100 13) + 1)) _
      rw [← eZ14]
      refine z0 (op := 11) (a := 4) (b := 1) (by rfl) (by rfl) (?_ : TZ (d + 1) 165 53 [some (.inr 100), some (.inl x1), some (.inl x2), some (.inl (((10 * x3) + r13) - 48)), some (.inl (x4 + 1))] [] Z14 (zri Q))
      refine z_goto (t := 5) (by rfl) (by rfl) (?_ : TZ (d + 1) 165 5 [some (.inr 100), some (.inl x1), some (.inl x2), some (.inl (((10 * x3) + r13) - 48)), some (.inl (x4 + 1))] [] Z14 (zri Q))
      exact v
    · have v := v2 h11; clear v1 v2
      show TZ (d + 1) 165 25 [some (.inr 100), some (.inl x1), some (.inl x2), some (.inl x3), some (.inl x4)] [] Z8 (zri Q)
      refine z0 (op := 0) (a := 0) (b := 0) (by rfl) (by rfl) (?_ : TZ (d + 1) 165 26 [some (.inr 100), some (.inl x1), some (.inl x2), some (.inl x3), some (.inl x4)] [.inl 0] Z8 (zri Q))
      exact z_retb (by rfl) (by rfl) (by decide) v
theorem w166_0 {d : Nat} {x1 x2 : Int} {Z : zM} {Q : Int → zM → Prop}
    (v : zR x1 ∧
      (x1 = 98 → TI d 165 [.inr 100, .inl x2, .inl 1] Z (fun r3 Z2 =>
          zR r3 ∧
            (r3 = 0 → Q 0 Z2) ∧
            (¬ r3 = 0 → TI d 165 [.inr 100, .inl (x2 + 1), .inl 1] Z2 (fun r7 Z6 =>
                zR r7 ∧
                  (r7 = 0 → Q 0 Z6) ∧
                  (¬ r7 = 0 → TI d 165 [.inr 100, .inl (x2 + 2), .inl 1] Z6 (fun r11 Z10 =>
                      zR r11 ∧
                        (r11 = 0 → Q 0 Z10) ∧
                        (¬ r11 = 0 → Q 1 Z10))))))) ∧
      ((x1 = 99 ∨ x1 = 102 ∨ x1 = 110) → TI d 165 [.inr 100, .inl x2, .inl 1] Z (fun r15 Z14 =>
          (r15 = 0 ∨ r15 = 1) ∧ Q r15 Z14)) ∧
      (x1 = 119 → TI d 165 [.inr 100, .inl x2, .inl 1] Z (fun r18 Z17 =>
          zR r18 ∧
            (r18 = 0 → Q 0 Z17) ∧
            (¬ r18 = 0 → TI d 165 [.inr 100, .inl (x2 + 1), .inl 2] Z17 (fun r22 Z21 =>
                zR r22 ∧
                  (r22 = 0 → Q 0 Z21) ∧
                  (¬ r22 = 0 → Q 1 Z21))))) ∧
      ((x1 ≠ 98 ∧ x1 ≠ 99 ∧ x1 ≠ 102 ∧ x1 ≠ 110 ∧ x1 ≠ 119) → Q 1 Z)) :
    TZ (d + 1) 166 0 [some (.inr 100), some (.inl x1), some (.inl x2)] [] Z (zri Q) := by
  refine z0 (op := 3) (a := 1) (b := 0) (by rfl) (by rfl) (?_ : TZ (d + 1) 166 1 [some (.inr 100), some (.inl x1), some (.inl x2)] [.inl x1] Z (zri Q))
  obtain ⟨c1, v⟩ := v
  obtain ⟨w0, w1, w2, w3⟩ := v
  have hd : x1 ≠ 98 ∧ x1 ≠ 99 ∧ x1 ≠ 102 ∧ x1 ≠ 110 ∧ x1 ≠ 119 → TZ (d + 1) 166 122 [some (.inr 100), some (.inl x1), some (.inl x2)] [] Z (zri Q) := fun hh => by
    have v := w3 hh; clear w0 w1 w2 w3
    refine z0 (op := 0) (a := 0) (b := 1) (by rfl) (by rfl) (?_ : TZ (d + 1) 166 123 [some (.inr 100), some (.inl x1), some (.inl x2)] [.inl 1] Z (zri Q))
    exact z_retb (by rfl) (by rfl) (by decide) v
  have hc0 : x1 = 98 → TZ (d + 1) 166 52 [some (.inr 100), some (.inl x1), some (.inl x2)] [] Z (zri Q) := fun hh => by
    have v := w0 hh; clear w0 w1 w2 w3 hd
    refine z0 (op := 5) (a := 0) (b := 0) (by rfl) (by rfl) (?_ : TZ (d + 1) 166 53 [some (.inr 100), some (.inl x1), some (.inl x2)] [.inr 100] Z (zri Q))
    refine z0 (op := 3) (a := 2) (b := 0) (by rfl) (by rfl) (?_ : TZ (d + 1) 166 54 [some (.inr 100), some (.inl x1), some (.inl x2)] [.inl x2, .inr 100] Z (zri Q))
    refine z0 (op := 0) (a := 0) (b := 1) (by rfl) (by rfl) (?_ : TZ (d + 1) 166 55 [some (.inr 100), some (.inl x1), some (.inl x2)] [.inl 1, .inl x2, .inr 100] Z (zri Q))
    refine z_vi (by rfl) (by rfl) cl_100 (TI.mono v fun r3 Z2 v => ?_)
    show TZ (d + 1) 166 58 [some (.inr 100), some (.inl x1), some (.inl x2)] [.inl r3] Z2 (zri Q)
    obtain ⟨c4, v1, v2⟩ := v
    refine z_if0 (a := 0) (t := 87) (by rfl) (by rfl) c4 (fun h5 => ?_) (fun h5 => ?_)
    · have v := v1 h5; clear v1 v2
      show TZ (d + 1) 166 87 [some (.inr 100), some (.inl x1), some (.inl x2)] [] Z2 (zri Q)
      refine z0 (op := 0) (a := 0) (b := 0) (by rfl) (by rfl) (?_ : TZ (d + 1) 166 88 [some (.inr 100), some (.inl x1), some (.inl x2)] [.inl 0] Z2 (zri Q))
      exact z_retb (by rfl) (by rfl) (by decide) v
    · have v := v2 h5; clear v1 v2
      show TZ (d + 1) 166 61 [some (.inr 100), some (.inl x1), some (.inl x2)] [] Z2 (zri Q)
      refine z0 (op := 5) (a := 0) (b := 0) (by rfl) (by rfl) (?_ : TZ (d + 1) 166 62 [some (.inr 100), some (.inl x1), some (.inl x2)] [.inr 100] Z2 (zri Q))
      refine z0 (op := 3) (a := 2) (b := 0) (by rfl) (by rfl) (?_ : TZ (d + 1) 166 63 [some (.inr 100), some (.inl x1), some (.inl x2)] [.inl x2, .inr 100] Z2 (zri Q))
      refine z0 (op := 0) (a := 0) (b := 1) (by rfl) (by rfl) (?_ : TZ (d + 1) 166 64 [some (.inr 100), some (.inl x1), some (.inl x2)] [.inl 1, .inl x2, .inr 100] Z2 (zri Q))
      refine z0 (op := 12) (a := 0) (b := 0) (by rfl) (by rfl) (?_ : TZ (d + 1) 166 65 [some (.inr 100), some (.inl x1), some (.inl x2)] [.inl (x2 + 1), .inr 100] Z2 (zri Q))
      refine z0 (op := 0) (a := 0) (b := 1) (by rfl) (by rfl) (?_ : TZ (d + 1) 166 66 [some (.inr 100), some (.inl x1), some (.inl x2)] [.inl 1, .inl (x2 + 1), .inr 100] Z2 (zri Q))
      refine z_vi (by rfl) (by rfl) cl_100 (TI.mono v fun r7 Z6 v => ?_)
      show TZ (d + 1) 166 69 [some (.inr 100), some (.inl x1), some (.inl x2)] [.inl r7] Z6 (zri Q)
      obtain ⟨c8, v1, v2⟩ := v
      refine z_if0 (a := 0) (t := 87) (by rfl) (by rfl) c8 (fun h9 => ?_) (fun h9 => ?_)
      · have v := v1 h9; clear v1 v2
        show TZ (d + 1) 166 87 [some (.inr 100), some (.inl x1), some (.inl x2)] [] Z6 (zri Q)
        refine z0 (op := 0) (a := 0) (b := 0) (by rfl) (by rfl) (?_ : TZ (d + 1) 166 88 [some (.inr 100), some (.inl x1), some (.inl x2)] [.inl 0] Z6 (zri Q))
        exact z_retb (by rfl) (by rfl) (by decide) v
      · have v := v2 h9; clear v1 v2
        show TZ (d + 1) 166 72 [some (.inr 100), some (.inl x1), some (.inl x2)] [] Z6 (zri Q)
        refine z0 (op := 5) (a := 0) (b := 0) (by rfl) (by rfl) (?_ : TZ (d + 1) 166 73 [some (.inr 100), some (.inl x1), some (.inl x2)] [.inr 100] Z6 (zri Q))
        refine z0 (op := 3) (a := 2) (b := 0) (by rfl) (by rfl) (?_ : TZ (d + 1) 166 74 [some (.inr 100), some (.inl x1), some (.inl x2)] [.inl x2, .inr 100] Z6 (zri Q))
        refine z0 (op := 0) (a := 0) (b := 2) (by rfl) (by rfl) (?_ : TZ (d + 1) 166 75 [some (.inr 100), some (.inl x1), some (.inl x2)] [.inl 2, .inl x2, .inr 100] Z6 (zri Q))
        refine z0 (op := 12) (a := 0) (b := 0) (by rfl) (by rfl) (?_ : TZ (d + 1) 166 76 [some (.inr 100), some (.inl x1), some (.inl x2)] [.inl (x2 + 2), .inr 100] Z6 (zri Q))
        refine z0 (op := 0) (a := 0) (b := 1) (by rfl) (by rfl) (?_ : TZ (d + 1) 166 77 [some (.inr 100), some (.inl x1), some (.inl x2)] [.inl 1, .inl (x2 + 2), .inr 100] Z6 (zri Q))
        refine z_vi (by rfl) (by rfl) cl_100 (TI.mono v fun r11 Z10 v => ?_)
        show TZ (d + 1) 166 80 [some (.inr 100), some (.inl x1), some (.inl x2)] [.inl r11] Z10 (zri Q)
        obtain ⟨c12, v1, v2⟩ := v
        refine z_if0 (a := 0) (t := 87) (by rfl) (by rfl) c12 (fun h13 => ?_) (fun h13 => ?_)
        · have v := v1 h13; clear v1 v2
          show TZ (d + 1) 166 87 [some (.inr 100), some (.inl x1), some (.inl x2)] [] Z10 (zri Q)
          refine z0 (op := 0) (a := 0) (b := 0) (by rfl) (by rfl) (?_ : TZ (d + 1) 166 88 [some (.inr 100), some (.inl x1), some (.inl x2)] [.inl 0] Z10 (zri Q))
          exact z_retb (by rfl) (by rfl) (by decide) v
        · have v := v2 h13; clear v1 v2
          show TZ (d + 1) 166 83 [some (.inr 100), some (.inl x1), some (.inl x2)] [] Z10 (zri Q)
          refine z0 (op := 0) (a := 0) (b := 1) (by rfl) (by rfl) (?_ : TZ (d + 1) 166 84 [some (.inr 100), some (.inl x1), some (.inl x2)] [.inl 1] Z10 (zri Q))
          refine z_goto (t := 88) (by rfl) (by rfl) (?_ : TZ (d + 1) 166 88 [some (.inr 100), some (.inl x1), some (.inl x2)] [.inl 1] Z10 (zri Q))
          exact z_retb (by rfl) (by rfl) (by decide) v
  have hc1 : x1 = 99 ∨ x1 = 102 ∨ x1 = 110 → TZ (d + 1) 166 115 [some (.inr 100), some (.inl x1), some (.inl x2)] [] Z (zri Q) := fun hh => by
    have v := w1 hh; clear w0 w1 w2 w3 hd hc0
    refine z0 (op := 5) (a := 0) (b := 0) (by rfl) (by rfl) (?_ : TZ (d + 1) 166 116 [some (.inr 100), some (.inl x1), some (.inl x2)] [.inr 100] Z (zri Q))
    refine z0 (op := 3) (a := 2) (b := 0) (by rfl) (by rfl) (?_ : TZ (d + 1) 166 117 [some (.inr 100), some (.inl x1), some (.inl x2)] [.inl x2, .inr 100] Z (zri Q))
    refine z0 (op := 0) (a := 0) (b := 1) (by rfl) (by rfl) (?_ : TZ (d + 1) 166 118 [some (.inr 100), some (.inl x1), some (.inl x2)] [.inl 1, .inl x2, .inr 100] Z (zri Q))
    refine z_vi (by rfl) (by rfl) cl_100 (TI.mono v fun r15 Z14 v => ?_)
    show TZ (d + 1) 166 121 [some (.inr 100), some (.inl x1), some (.inl x2)] [.inl r15] Z14 (zri Q)
    obtain ⟨c16, v⟩ := v
    exact z_retb (by rfl) (by rfl) c16 v
  have hc2 : x1 = 119 → TZ (d + 1) 166 89 [some (.inr 100), some (.inl x1), some (.inl x2)] [] Z (zri Q) := fun hh => by
    have v := w2 hh; clear w0 w1 w2 w3 hd hc0 hc1
    refine z0 (op := 5) (a := 0) (b := 0) (by rfl) (by rfl) (?_ : TZ (d + 1) 166 90 [some (.inr 100), some (.inl x1), some (.inl x2)] [.inr 100] Z (zri Q))
    refine z0 (op := 3) (a := 2) (b := 0) (by rfl) (by rfl) (?_ : TZ (d + 1) 166 91 [some (.inr 100), some (.inl x1), some (.inl x2)] [.inl x2, .inr 100] Z (zri Q))
    refine z0 (op := 0) (a := 0) (b := 1) (by rfl) (by rfl) (?_ : TZ (d + 1) 166 92 [some (.inr 100), some (.inl x1), some (.inl x2)] [.inl 1, .inl x2, .inr 100] Z (zri Q))
    refine z_vi (by rfl) (by rfl) cl_100 (TI.mono v fun r18 Z17 v => ?_)
    show TZ (d + 1) 166 95 [some (.inr 100), some (.inl x1), some (.inl x2)] [.inl r18] Z17 (zri Q)
    obtain ⟨c19, v1, v2⟩ := v
    refine z_if0 (a := 0) (t := 113) (by rfl) (by rfl) c19 (fun h20 => ?_) (fun h20 => ?_)
    · have v := v1 h20; clear v1 v2
      show TZ (d + 1) 166 113 [some (.inr 100), some (.inl x1), some (.inl x2)] [] Z17 (zri Q)
      refine z0 (op := 0) (a := 0) (b := 0) (by rfl) (by rfl) (?_ : TZ (d + 1) 166 114 [some (.inr 100), some (.inl x1), some (.inl x2)] [.inl 0] Z17 (zri Q))
      exact z_retb (by rfl) (by rfl) (by decide) v
    · have v := v2 h20; clear v1 v2
      show TZ (d + 1) 166 98 [some (.inr 100), some (.inl x1), some (.inl x2)] [] Z17 (zri Q)
      refine z0 (op := 5) (a := 0) (b := 0) (by rfl) (by rfl) (?_ : TZ (d + 1) 166 99 [some (.inr 100), some (.inl x1), some (.inl x2)] [.inr 100] Z17 (zri Q))
      refine z0 (op := 3) (a := 2) (b := 0) (by rfl) (by rfl) (?_ : TZ (d + 1) 166 100 [some (.inr 100), some (.inl x1), some (.inl x2)] [.inl x2, .inr 100] Z17 (zri Q))
      refine z0 (op := 0) (a := 0) (b := 1) (by rfl) (by rfl) (?_ : TZ (d + 1) 166 101 [some (.inr 100), some (.inl x1), some (.inl x2)] [.inl 1, .inl x2, .inr 100] Z17 (zri Q))
      refine z0 (op := 12) (a := 0) (b := 0) (by rfl) (by rfl) (?_ : TZ (d + 1) 166 102 [some (.inr 100), some (.inl x1), some (.inl x2)] [.inl (x2 + 1), .inr 100] Z17 (zri Q))
      refine z0 (op := 0) (a := 0) (b := 2) (by rfl) (by rfl) (?_ : TZ (d + 1) 166 103 [some (.inr 100), some (.inl x1), some (.inl x2)] [.inl 2, .inl (x2 + 1), .inr 100] Z17 (zri Q))
      refine z_vi (by rfl) (by rfl) cl_100 (TI.mono v fun r22 Z21 v => ?_)
      show TZ (d + 1) 166 106 [some (.inr 100), some (.inl x1), some (.inl x2)] [.inl r22] Z21 (zri Q)
      obtain ⟨c23, v1, v2⟩ := v
      refine z_if0 (a := 0) (t := 113) (by rfl) (by rfl) c23 (fun h24 => ?_) (fun h24 => ?_)
      · have v := v1 h24; clear v1 v2
        show TZ (d + 1) 166 113 [some (.inr 100), some (.inl x1), some (.inl x2)] [] Z21 (zri Q)
        refine z0 (op := 0) (a := 0) (b := 0) (by rfl) (by rfl) (?_ : TZ (d + 1) 166 114 [some (.inr 100), some (.inl x1), some (.inl x2)] [.inl 0] Z21 (zri Q))
        exact z_retb (by rfl) (by rfl) (by decide) v
      · have v := v2 h24; clear v1 v2
        show TZ (d + 1) 166 109 [some (.inr 100), some (.inl x1), some (.inl x2)] [] Z21 (zri Q)
        refine z0 (op := 0) (a := 0) (b := 1) (by rfl) (by rfl) (?_ : TZ (d + 1) 166 110 [some (.inr 100), some (.inl x1), some (.inl x2)] [.inl 1] Z21 (zri Q))
        refine z_goto (t := 114) (by rfl) (by rfl) (?_ : TZ (d + 1) 166 114 [some (.inr 100), some (.inl x1), some (.inl x2)] [.inl 1] Z21 (zri Q))
        exact z_retb (by rfl) (by rfl) (by decide) v
  refine z_lsw (a := 4) (by rfl) (by rfl) (by decide) c1 ?_
  refine z_lc (fun hx => ⟨52, by rfl, hc0 (by omega)⟩) (fun hx0 => ?_)
  refine z_lc (fun hx => ⟨115, by rfl, hc1 (by omega)⟩) (fun hx1 => ?_)
  refine z_lc (fun hx => ⟨115, by rfl, hc1 (by omega)⟩) (fun hx2 => ?_)
  refine z_lc (fun hx => ⟨115, by rfl, hc1 (by omega)⟩) (fun hx3 => ?_)
  refine z_lc (fun hx => ⟨89, by rfl, hc2 (by omega)⟩) (fun hx4 => ?_)
  exact ⟨122, by rfl, hd (by omega)⟩
theorem w167_0 {d : Nat} {Z : zM} {Q : Int → zM → Prop}
    (v : TI d 164 [.inr 100] Z (fun r2 Z1 =>
      zR r2 ∧
        (r2 = 98 → ((0 ≤ (Z1 100 14) ∧ (Z1 100 14) < 48) ∧
            ∀ Z6, Z6 = zup Z1 107 (Z1 100 14) r2 →
            (0 ≤ (Z6 100 14) ∧ (Z6 100 14) < 48) ∧
            ∀ Z8, Z8 = zup Z6 108 (Z6 100 14) (Z6 100 13) →
            ∀ Z9, Z9 = zup Z8 100 13 ((Z8 100 13) + 1) →
            TI d 166 [.inr 100, .inl r2, .inl (3 * (Z9 100 14))] Z9 (fun r11 Z10 =>
            zR r11 ∧
              (r11 = 0 → Q 0 Z10) ∧
              (¬ r11 = 0 → TI d 164 [.inr 100] Z10 (fun r15 Z14 =>
                  zR r15 ∧
                    (r15 = 59 → ∀ Z18, Z18 = zup Z14 100 13 ((Z14 100 13) + 1) →
                        Q 1 Z18) ∧
                    (¬ r15 = 59 → Q 0 Z14)))))) ∧
        (¬ r2 = 98 → (zR r2 ∧
            (r2 = 119 → ((0 ≤ (Z1 100 14) ∧ (Z1 100 14) < 48) ∧
                ∀ Z22, Z22 = zup Z1 107 (Z1 100 14) r2 →
                (0 ≤ (Z22 100 14) ∧ (Z22 100 14) < 48) ∧
                ∀ Z24, Z24 = zup Z22 108 (Z22 100 14) (Z22 100 13) →
                ∀ Z25, Z25 = zup Z24 100 13 ((Z24 100 13) + 1) →
                TI d 166 [.inr 100, .inl r2, .inl (3 * (Z25 100 14))] Z25 (fun r27 Z26 =>
                zR r27 ∧
                  (r27 = 0 → Q 0 Z26) ∧
                  (¬ r27 = 0 → TI d 164 [.inr 100] Z26 (fun r31 Z30 =>
                      zR r31 ∧
                        (r31 = 59 → ∀ Z34, Z34 = zup Z30 100 13 ((Z30 100 13) + 1) →
                            Q 1 Z34) ∧
                        (¬ r31 = 59 → Q 0 Z30)))))) ∧
            (¬ r2 = 119 → (zR r2 ∧
                (r2 = 102 → ((0 ≤ (Z1 100 14) ∧ (Z1 100 14) < 48) ∧
                    ∀ Z38, Z38 = zup Z1 107 (Z1 100 14) r2 →
                    (0 ≤ (Z38 100 14) ∧ (Z38 100 14) < 48) ∧
                    ∀ Z40, Z40 = zup Z38 108 (Z38 100 14) (Z38 100 13) →
                    ∀ Z41, Z41 = zup Z40 100 13 ((Z40 100 13) + 1) →
                    TI d 166 [.inr 100, .inl r2, .inl (3 * (Z41 100 14))] Z41 (fun r43 Z42 =>
                    zR r43 ∧
                      (r43 = 0 → Q 0 Z42) ∧
                      (¬ r43 = 0 → TI d 164 [.inr 100] Z42 (fun r47 Z46 =>
                          zR r47 ∧
                            (r47 = 59 → ∀ Z50, Z50 = zup Z46 100 13 ((Z46 100 13) + 1) →
                                Q 1 Z50) ∧
                            (¬ r47 = 59 → Q 0 Z46)))))) ∧
                (¬ r2 = 102 → (zR r2 ∧
                    (r2 = 110 → ((0 ≤ (Z1 100 14) ∧ (Z1 100 14) < 48) ∧
                        ∀ Z54, Z54 = zup Z1 107 (Z1 100 14) r2 →
                        (0 ≤ (Z54 100 14) ∧ (Z54 100 14) < 48) ∧
                        ∀ Z56, Z56 = zup Z54 108 (Z54 100 14) (Z54 100 13) →
                        ∀ Z57, Z57 = zup Z56 100 13 ((Z56 100 13) + 1) →
                        TI d 166 [.inr 100, .inl r2, .inl (3 * (Z57 100 14))] Z57 (fun r59 Z58 =>
                        zR r59 ∧
                          (r59 = 0 → Q 0 Z58) ∧
                          (¬ r59 = 0 → TI d 164 [.inr 100] Z58 (fun r63 Z62 =>
                              zR r63 ∧
                                (r63 = 59 → ∀ Z66, Z66 = zup Z62 100 13 ((Z62 100 13) + 1) →
                                    Q 1 Z66) ∧
                                (¬ r63 = 59 → Q 0 Z62)))))) ∧
                    (¬ r2 = 110 → (zR r2 ∧
                        (r2 = 99 → ((0 ≤ (Z1 100 14) ∧ (Z1 100 14) < 48) ∧
                            ∀ Z70, Z70 = zup Z1 107 (Z1 100 14) r2 →
                            (0 ≤ (Z70 100 14) ∧ (Z70 100 14) < 48) ∧
                            ∀ Z72, Z72 = zup Z70 108 (Z70 100 14) (Z70 100 13) →
                            ∀ Z73, Z73 = zup Z72 100 13 ((Z72 100 13) + 1) →
                            TI d 166 [.inr 100, .inl r2, .inl (3 * (Z73 100 14))] Z73 (fun r75 Z74 =>
                            zR r75 ∧
                              (r75 = 0 → Q 0 Z74) ∧
                              (¬ r75 = 0 → TI d 164 [.inr 100] Z74 (fun r79 Z78 =>
                                  zR r79 ∧
                                    (r79 = 59 → ∀ Z82, Z82 = zup Z78 100 13 ((Z78 100 13) + 1) →
                                        Q 1 Z82) ∧
                                    (¬ r79 = 59 → Q 0 Z78)))))) ∧
                        (¬ r2 = 99 → (zR r2 ∧
                            (r2 = 104 → ((0 ≤ (Z1 100 14) ∧ (Z1 100 14) < 48) ∧
                                ∀ Z86, Z86 = zup Z1 107 (Z1 100 14) r2 →
                                (0 ≤ (Z86 100 14) ∧ (Z86 100 14) < 48) ∧
                                ∀ Z88, Z88 = zup Z86 108 (Z86 100 14) (Z86 100 13) →
                                ∀ Z89, Z89 = zup Z88 100 13 ((Z88 100 13) + 1) →
                                TI d 166 [.inr 100, .inl r2, .inl (3 * (Z89 100 14))] Z89 (fun r91 Z90 =>
                                zR r91 ∧
                                  (r91 = 0 → Q 0 Z90) ∧
                                  (¬ r91 = 0 → TI d 164 [.inr 100] Z90 (fun r95 Z94 =>
                                      zR r95 ∧
                                        (r95 = 59 → ∀ Z98, Z98 = zup Z94 100 13 ((Z94 100 13) + 1) →
                                            Q 1 Z98) ∧
                                        (¬ r95 = 59 → Q 0 Z94)))))) ∧
                            (¬ r2 = 104 → (zR r2 ∧
                                (r2 = 114 → ((0 ≤ (Z1 100 14) ∧ (Z1 100 14) < 48) ∧
                                    ∀ Z102, Z102 = zup Z1 107 (Z1 100 14) r2 →
                                    (0 ≤ (Z102 100 14) ∧ (Z102 100 14) < 48) ∧
                                    ∀ Z104, Z104 = zup Z102 108 (Z102 100 14) (Z102 100 13) →
                                    ∀ Z105, Z105 = zup Z104 100 13 ((Z104 100 13) + 1) →
                                    TI d 166 [.inr 100, .inl r2, .inl (3 * (Z105 100 14))] Z105 (fun r107 Z106 =>
                                    zR r107 ∧
                                      (r107 = 0 → Q 0 Z106) ∧
                                      (¬ r107 = 0 → TI d 164 [.inr 100] Z106 (fun r111 Z110 =>
                                          zR r111 ∧
                                            (r111 = 59 → ∀ Z114, Z114 = zup Z110 100 13 ((Z110 100 13) + 1) →
                                                Q 1 Z114) ∧
                                            (¬ r111 = 59 → Q 0 Z110)))))) ∧
                                (¬ r2 = 114 → (zR r2 ∧
                                    (r2 = 115 → ((0 ≤ (Z1 100 14) ∧ (Z1 100 14) < 48) ∧
                                        ∀ Z118, Z118 = zup Z1 107 (Z1 100 14) r2 →
                                        (0 ≤ (Z118 100 14) ∧ (Z118 100 14) < 48) ∧
                                        ∀ Z120, Z120 = zup Z118 108 (Z118 100 14) (Z118 100 13) →
                                        ∀ Z121, Z121 = zup Z120 100 13 ((Z120 100 13) + 1) →
                                        TI d 166 [.inr 100, .inl r2, .inl (3 * (Z121 100 14))] Z121 (fun r123 Z122 =>
                                        zR r123 ∧
                                          (r123 = 0 → Q 0 Z122) ∧
                                          (¬ r123 = 0 → TI d 164 [.inr 100] Z122 (fun r127 Z126 =>
                                              zR r127 ∧
                                                (r127 = 59 → ∀ Z130, Z130 = zup Z126 100 13 ((Z126 100 13) + 1) →
                                                    Q 1 Z130) ∧
                                                (¬ r127 = 59 → Q 0 Z126)))))) ∧
                                    (¬ r2 = 115 → Q 0 Z1))))))))))))))))) :
    TZ (d + 1) 167 0 [some (.inr 100), none] [] Z (zri Q) := by
  refine z0 (op := 5) (a := 0) (b := 0) (by rfl) (by rfl) (?_ : TZ (d + 1) 167 1 [some (.inr 100), none] [.inr 100] Z (zri Q))
  refine z_vi (by rfl) (by rfl) cl_100 (TI.mono v fun r2 Z1 v => ?_)
  show TZ (d + 1) 167 4 [some (.inr 100), none] [.inl r2] Z1 (zri Q)
  refine z0 (op := 7) (a := 1) (b := 0) (by rfl) (by rfl) (?_ : TZ (d + 1) 167 5 [some (.inr 100), some (.inl r2)] [] Z1 (zri Q))
  refine z0 (op := 3) (a := 1) (b := 0) (by rfl) (by rfl) (?_ : TZ (d + 1) 167 6 [some (.inr 100), some (.inl r2)] [.inl r2] Z1 (zri Q))
  refine z0 (op := 1) (a := 0) (b := 98) (by rfl) (by rfl) (?_ : TZ (d + 1) 167 8 [some (.inr 100), some (.inl r2)] [.inl 98, .inl r2] Z1 (zri Q))
  obtain ⟨c3, v1, v2⟩ := v
  refine z_if2 (a := 0) (t := 55) (by rfl) (by rfl) c3 (by decide) (fun h4 => ?_) (fun h4 => ?_)
  · have v := v1 h4; clear v1 v2
    show TZ (d + 1) 167 55 [some (.inr 100), some (.inl r2)] [] Z1 (zri Q)
    refine z0 (op := 5) (a := 0) (b := 0) (by rfl) (by rfl) (?_ : TZ (d + 1) 167 56 [some (.inr 100), some (.inl r2)] [.inr 100] Z1 (zri Q))
    refine z_fr (by rfl) fr94_100 (?_ : TZ (d + 1) 167 59 [some (.inr 100), some (.inl r2)] [.inr 107] Z1 (zri Q))
    refine z0 (op := 5) (a := 0) (b := 0) (by rfl) (by rfl) (?_ : TZ (d + 1) 167 60 [some (.inr 100), some (.inl r2)] [.inr 100, .inr 107] Z1 (zri Q))
    refine z_fi (by rfl) fi115_100 (?_ : TZ (d + 1) 167 63 [some (.inr 100), some (.inl r2)] [.inl (Z1 100 14), .inr 107] Z1 (zri Q))
    refine z0 (op := 3) (a := 1) (b := 0) (by rfl) (by rfl) (?_ : TZ (d + 1) 167 64 [some (.inr 100), some (.inl r2)] [.inl r2, .inl (Z1 100 14), .inr 107] Z1 (zri Q))
    obtain ⟨c5, v⟩ := v
    obtain ⟨Z6, eZ6⟩ : ∃ q, q = zup Z1 107 (Z1 100 14) r2 := ⟨_, rfl⟩
    have v := v Z6 eZ6
    refine z_as (by rfl) ln_107 c5 ?_
    show TZ (d + 1) 167 65 [some (.inr 100), some (.inl r2)] [] (zup Z1 107 (Z1 100 14) r2) _
    rw [← eZ6]
    refine z0 (op := 5) (a := 0) (b := 0) (by rfl) (by rfl) (?_ : TZ (d + 1) 167 66 [some (.inr 100), some (.inl r2)] [.inr 100] Z6 (zri Q))
    refine z_fr (by rfl) fr95_100 (?_ : TZ (d + 1) 167 69 [some (.inr 100), some (.inl r2)] [.inr 108] Z6 (zri Q))
    refine z0 (op := 5) (a := 0) (b := 0) (by rfl) (by rfl) (?_ : TZ (d + 1) 167 70 [some (.inr 100), some (.inl r2)] [.inr 100, .inr 108] Z6 (zri Q))
    refine z_fi (by rfl) fi115_100 (?_ : TZ (d + 1) 167 73 [some (.inr 100), some (.inl r2)] [.inl (Z6 100 14), .inr 108] Z6 (zri Q))
    refine z0 (op := 5) (a := 0) (b := 0) (by rfl) (by rfl) (?_ : TZ (d + 1) 167 74 [some (.inr 100), some (.inl r2)] [.inr 100, .inl (Z6 100 14), .inr 108] Z6 (zri Q))
    refine z_fi (by rfl) fi114_100 (?_ : TZ (d + 1) 167 77 [some (.inr 100), some (.inl r2)] [.inl (Z6 100 13), .inl (Z6 100 14), .inr 108] Z6 (zri Q))
    obtain ⟨c7, v⟩ := v
    obtain ⟨Z8, eZ8⟩ : ∃ q, q = zup Z6 108 (Z6 100 14) (Z6 100 13) := ⟨_, rfl⟩
    have v := v Z8 eZ8
    refine z_as (by rfl) ln_108 c7 ?_
    show TZ (d + 1) 167 78 [some (.inr 100), some (.inl r2)] [] (zup Z6 108 (Z6 100 14) (Z6 100 13)) _
    rw [← eZ8]
    refine z0 (op := 5) (a := 0) (b := 0) (by rfl) (by rfl) (?_ : TZ (d + 1) 167 79 [some (.inr 100), some (.inl r2)] [.inr 100] Z8 (zri Q))
    refine z0 (op := 15) (a := 0) (b := 0) (by rfl) (by rfl) (?_ : TZ (d + 1) 167 80 [some (.inr 100), some (.inl r2)] [.inr 100, .inr 100] Z8 (zri Q))
    refine z_fi (by rfl) fi114_100 (?_ : TZ (d + 1) 167 83 [some (.inr 100), some (.inl r2)] [.inl (Z8 100 13), .inr 100] Z8 (zri Q))
    refine z0 (op := 0) (a := 0) (b := 1) (by rfl) (by rfl) (?_ : TZ (d + 1) 167 84 [some (.inr 100), some (.inl r2)] [.inl 1, .inl (Z8 100 13), .inr 100] Z8 (zri Q))
    refine z0 (op := 12) (a := 0) (b := 0) (by rfl) (by rfl) (?_ : TZ (d + 1) 167 85 [some (.inr 100), some (.inl r2)] [.inl ((Z8 100 13) + 1), .inr 100] Z8 (zri Q))
    obtain ⟨Z9, eZ9⟩ : ∃ q, q = zup Z8 100 13 ((Z8 100 13) + 1) := ⟨_, rfl⟩
    have v := v Z9 eZ9
    refine z_pf (by rfl) pf114_100 (fun h => nomatch h) ?_
    show TZ (d + 1) 167 88 [some (.inr 100), some (.inl r2)] [] (zup Z8 100 13 ((Z8 100 13) + 1)) _
    rw [← eZ9]
    refine z0 (op := 5) (a := 0) (b := 0) (by rfl) (by rfl) (?_ : TZ (d + 1) 167 89 [some (.inr 100), some (.inl r2)] [.inr 100] Z9 (zri Q))
    refine z0 (op := 3) (a := 1) (b := 0) (by rfl) (by rfl) (?_ : TZ (d + 1) 167 90 [some (.inr 100), some (.inl r2)] [.inl r2, .inr 100] Z9 (zri Q))
    refine z0 (op := 0) (a := 0) (b := 3) (by rfl) (by rfl) (?_ : TZ (d + 1) 167 91 [some (.inr 100), some (.inl r2)] [.inl 3, .inl r2, .inr 100] Z9 (zri Q))
    refine z0 (op := 5) (a := 0) (b := 0) (by rfl) (by rfl) (?_ : TZ (d + 1) 167 92 [some (.inr 100), some (.inl r2)] [.inr 100, .inl 3, .inl r2, .inr 100] Z9 (zri Q))
    refine z_fi (by rfl) fi115_100 (?_ : TZ (d + 1) 167 95 [some (.inr 100), some (.inl r2)] [.inl (Z9 100 14), .inl 3, .inl r2, .inr 100] Z9 (zri Q))
    refine z0 (op := 12) (a := 2) (b := 0) (by rfl) (by rfl) (?_ : TZ (d + 1) 167 96 [some (.inr 100), some (.inl r2)] [.inl (3 * (Z9 100 14)), .inl r2, .inr 100] Z9 (zri Q))
    refine z_vi (by rfl) (by rfl) cl_100 (TI.mono v fun r11 Z10 v => ?_)
    show TZ (d + 1) 167 99 [some (.inr 100), some (.inl r2)] [.inl r11] Z10 (zri Q)
    obtain ⟨c12, v1, v2⟩ := v
    refine z_if0 (a := 0) (t := 111) (by rfl) (by rfl) c12 (fun h13 => ?_) (fun h13 => ?_)
    · have v := v1 h13; clear v1 v2
      show TZ (d + 1) 167 111 [some (.inr 100), some (.inl r2)] [] Z10 (zri Q)
      refine z0 (op := 0) (a := 0) (b := 0) (by rfl) (by rfl) (?_ : TZ (d + 1) 167 112 [some (.inr 100), some (.inl r2)] [.inl 0] Z10 (zri Q))
      exact z_retb (by rfl) (by rfl) (by decide) v
    · have v := v2 h13; clear v1 v2
      show TZ (d + 1) 167 102 [some (.inr 100), some (.inl r2)] [] Z10 (zri Q)
      refine z0 (op := 5) (a := 0) (b := 0) (by rfl) (by rfl) (?_ : TZ (d + 1) 167 103 [some (.inr 100), some (.inl r2)] [.inr 100] Z10 (zri Q))
      refine z_vi (by rfl) (by rfl) cl_100 (TI.mono v fun r15 Z14 v => ?_)
      show TZ (d + 1) 167 106 [some (.inr 100), some (.inl r2)] [.inl r15] Z14 (zri Q)
      refine z0 (op := 1) (a := 0) (b := 59) (by rfl) (by rfl) (?_ : TZ (d + 1) 167 108 [some (.inr 100), some (.inl r2)] [.inl 59, .inl r15] Z14 (zri Q))
      obtain ⟨c16, v1, v2⟩ := v
      refine z_if2 (a := 0) (t := 113) (by rfl) (by rfl) c16 (by decide) (fun h17 => ?_) (fun h17 => ?_)
      · have v := v1 h17; clear v1 v2
        show TZ (d + 1) 167 113 [some (.inr 100), some (.inl r2)] [] Z14 (zri Q)
        refine z0 (op := 5) (a := 0) (b := 0) (by rfl) (by rfl) (?_ : TZ (d + 1) 167 114 [some (.inr 100), some (.inl r2)] [.inr 100] Z14 (zri Q))
        refine z0 (op := 15) (a := 0) (b := 0) (by rfl) (by rfl) (?_ : TZ (d + 1) 167 115 [some (.inr 100), some (.inl r2)] [.inr 100, .inr 100] Z14 (zri Q))
        refine z_fi (by rfl) fi114_100 (?_ : TZ (d + 1) 167 118 [some (.inr 100), some (.inl r2)] [.inl (Z14 100 13), .inr 100] Z14 (zri Q))
        refine z0 (op := 0) (a := 0) (b := 1) (by rfl) (by rfl) (?_ : TZ (d + 1) 167 119 [some (.inr 100), some (.inl r2)] [.inl 1, .inl (Z14 100 13), .inr 100] Z14 (zri Q))
        refine z0 (op := 12) (a := 0) (b := 0) (by rfl) (by rfl) (?_ : TZ (d + 1) 167 120 [some (.inr 100), some (.inl r2)] [.inl ((Z14 100 13) + 1), .inr 100] Z14 (zri Q))
        obtain ⟨Z18, eZ18⟩ : ∃ q, q = zup Z14 100 13 ((Z14 100 13) + 1) := ⟨_, rfl⟩
        have v := v Z18 eZ18
        refine z_pf (by rfl) pf114_100 (fun h => nomatch h) ?_
        show TZ (d + 1) 167 123 [some (.inr 100), some (.inl r2)] [] (zup Z14 100 13 ((Z14 100 13) + 1)) _
        rw [← eZ18]
        refine z0 (op := 0) (a := 0) (b := 1) (by rfl) (by rfl) (?_ : TZ (d + 1) 167 124 [some (.inr 100), some (.inl r2)] [.inl 1] Z18 (zri Q))
        exact z_retb (by rfl) (by rfl) (by decide) v
      · have v := v2 h17; clear v1 v2
        show TZ (d + 1) 167 111 [some (.inr 100), some (.inl r2)] [] Z14 (zri Q)
        refine z0 (op := 0) (a := 0) (b := 0) (by rfl) (by rfl) (?_ : TZ (d + 1) 167 112 [some (.inr 100), some (.inl r2)] [.inl 0] Z14 (zri Q))
        exact z_retb (by rfl) (by rfl) (by decide) v
  · have v := v2 h4; clear v1 v2
    show TZ (d + 1) 167 11 [some (.inr 100), some (.inl r2)] [] Z1 (zri Q)
    refine z0 (op := 3) (a := 1) (b := 0) (by rfl) (by rfl) (?_ : TZ (d + 1) 167 12 [some (.inr 100), some (.inl r2)] [.inl r2] Z1 (zri Q))
    refine z0 (op := 1) (a := 0) (b := 119) (by rfl) (by rfl) (?_ : TZ (d + 1) 167 14 [some (.inr 100), some (.inl r2)] [.inl 119, .inl r2] Z1 (zri Q))
    obtain ⟨c19, v1, v2⟩ := v
    refine z_if2 (a := 0) (t := 55) (by rfl) (by rfl) c19 (by decide) (fun h20 => ?_) (fun h20 => ?_)
    · have v := v1 h20; clear v1 v2
      show TZ (d + 1) 167 55 [some (.inr 100), some (.inl r2)] [] Z1 (zri Q)
      refine z0 (op := 5) (a := 0) (b := 0) (by rfl) (by rfl) (?_ : TZ (d + 1) 167 56 [some (.inr 100), some (.inl r2)] [.inr 100] Z1 (zri Q))
      refine z_fr (by rfl) fr94_100 (?_ : TZ (d + 1) 167 59 [some (.inr 100), some (.inl r2)] [.inr 107] Z1 (zri Q))
      refine z0 (op := 5) (a := 0) (b := 0) (by rfl) (by rfl) (?_ : TZ (d + 1) 167 60 [some (.inr 100), some (.inl r2)] [.inr 100, .inr 107] Z1 (zri Q))
      refine z_fi (by rfl) fi115_100 (?_ : TZ (d + 1) 167 63 [some (.inr 100), some (.inl r2)] [.inl (Z1 100 14), .inr 107] Z1 (zri Q))
      refine z0 (op := 3) (a := 1) (b := 0) (by rfl) (by rfl) (?_ : TZ (d + 1) 167 64 [some (.inr 100), some (.inl r2)] [.inl r2, .inl (Z1 100 14), .inr 107] Z1 (zri Q))
      obtain ⟨c21, v⟩ := v
      obtain ⟨Z22, eZ22⟩ : ∃ q, q = zup Z1 107 (Z1 100 14) r2 := ⟨_, rfl⟩
      have v := v Z22 eZ22
      refine z_as (by rfl) ln_107 c21 ?_
      show TZ (d + 1) 167 65 [some (.inr 100), some (.inl r2)] [] (zup Z1 107 (Z1 100 14) r2) _
      rw [← eZ22]
      refine z0 (op := 5) (a := 0) (b := 0) (by rfl) (by rfl) (?_ : TZ (d + 1) 167 66 [some (.inr 100), some (.inl r2)] [.inr 100] Z22 (zri Q))
      refine z_fr (by rfl) fr95_100 (?_ : TZ (d + 1) 167 69 [some (.inr 100), some (.inl r2)] [.inr 108] Z22 (zri Q))
      refine z0 (op := 5) (a := 0) (b := 0) (by rfl) (by rfl) (?_ : TZ (d + 1) 167 70 [some (.inr 100), some (.inl r2)] [.inr 100, .inr 108] Z22 (zri Q))
      refine z_fi (by rfl) fi115_100 (?_ : TZ (d + 1) 167 73 [some (.inr 100), some (.inl r2)] [.inl (Z22 100 14), .inr 108] Z22 (zri Q))
      refine z0 (op := 5) (a := 0) (b := 0) (by rfl) (by rfl) (?_ : TZ (d + 1) 167 74 [some (.inr 100), some (.inl r2)] [.inr 100, .inl (Z22 100 14), .inr 108] Z22 (zri Q))
      refine z_fi (by rfl) fi114_100 (?_ : TZ (d + 1) 167 77 [some (.inr 100), some (.inl r2)] [.inl (Z22 100 13), .inl (Z22 100 14), .inr 108] Z22 (zri Q))
      obtain ⟨c23, v⟩ := v
      obtain ⟨Z24, eZ24⟩ : ∃ q, q = zup Z22 108 (Z22 100 14) (Z22 100 13) := ⟨_, rfl⟩
      have v := v Z24 eZ24
      refine z_as (by rfl) ln_108 c23 ?_
      show TZ (d + 1) 167 78 [some (.inr 100), some (.inl r2)] [] (zup Z22 108 (Z22 100 14) (Z22 100 13)) _
      rw [← eZ24]
      refine z0 (op := 5) (a := 0) (b := 0) (by rfl) (by rfl) (?_ : TZ (d + 1) 167 79 [some (.inr 100), some (.inl r2)] [.inr 100] Z24 (zri Q))
      refine z0 (op := 15) (a := 0) (b := 0) (by rfl) (by rfl) (?_ : TZ (d + 1) 167 80 [some (.inr 100), some (.inl r2)] [.inr 100, .inr 100] Z24 (zri Q))
      refine z_fi (by rfl) fi114_100 (?_ : TZ (d + 1) 167 83 [some (.inr 100), some (.inl r2)] [.inl (Z24 100 13), .inr 100] Z24 (zri Q))
      refine z0 (op := 0) (a := 0) (b := 1) (by rfl) (by rfl) (?_ : TZ (d + 1) 167 84 [some (.inr 100), some (.inl r2)] [.inl 1, .inl (Z24 100 13), .inr 100] Z24 (zri Q))
      refine z0 (op := 12) (a := 0) (b := 0) (by rfl) (by rfl) (?_ : TZ (d + 1) 167 85 [some (.inr 100), some (.inl r2)] [.inl ((Z24 100 13) + 1), .inr 100] Z24 (zri Q))
      obtain ⟨Z25, eZ25⟩ : ∃ q, q = zup Z24 100 13 ((Z24 100 13) + 1) := ⟨_, rfl⟩
      have v := v Z25 eZ25
      refine z_pf (by rfl) pf114_100 (fun h => nomatch h) ?_
      show TZ (d + 1) 167 88 [some (.inr 100), some (.inl r2)] [] (zup Z24 100 13 ((Z24 100 13) + 1)) _
      rw [← eZ25]
      refine z0 (op := 5) (a := 0) (b := 0) (by rfl) (by rfl) (?_ : TZ (d + 1) 167 89 [some (.inr 100), some (.inl r2)] [.inr 100] Z25 (zri Q))
      refine z0 (op := 3) (a := 1) (b := 0) (by rfl) (by rfl) (?_ : TZ (d + 1) 167 90 [some (.inr 100), some (.inl r2)] [.inl r2, .inr 100] Z25 (zri Q))
      refine z0 (op := 0) (a := 0) (b := 3) (by rfl) (by rfl) (?_ : TZ (d + 1) 167 91 [some (.inr 100), some (.inl r2)] [.inl 3, .inl r2, .inr 100] Z25 (zri Q))
      refine z0 (op := 5) (a := 0) (b := 0) (by rfl) (by rfl) (?_ : TZ (d + 1) 167 92 [some (.inr 100), some (.inl r2)] [.inr 100, .inl 3, .inl r2, .inr 100] Z25 (zri Q))
      refine z_fi (by rfl) fi115_100 (?_ : TZ (d + 1) 167 95 [some (.inr 100), some (.inl r2)] [.inl (Z25 100 14), .inl 3, .inl r2, .inr 100] Z25 (zri Q))
      refine z0 (op := 12) (a := 2) (b := 0) (by rfl) (by rfl) (?_ : TZ (d + 1) 167 96 [some (.inr 100), some (.inl r2)] [.inl (3 * (Z25 100 14)), .inl r2, .inr 100] Z25 (zri Q))
      refine z_vi (by rfl) (by rfl) cl_100 (TI.mono v fun r27 Z26 v => ?_)
      show TZ (d + 1) 167 99 [some (.inr 100), some (.inl r2)] [.inl r27] Z26 (zri Q)
      obtain ⟨c28, v1, v2⟩ := v
      refine z_if0 (a := 0) (t := 111) (by rfl) (by rfl) c28 (fun h29 => ?_) (fun h29 => ?_)
      · have v := v1 h29; clear v1 v2
        show TZ (d + 1) 167 111 [some (.inr 100), some (.inl r2)] [] Z26 (zri Q)
        refine z0 (op := 0) (a := 0) (b := 0) (by rfl) (by rfl) (?_ : TZ (d + 1) 167 112 [some (.inr 100), some (.inl r2)] [.inl 0] Z26 (zri Q))
        exact z_retb (by rfl) (by rfl) (by decide) v
      · have v := v2 h29; clear v1 v2
        show TZ (d + 1) 167 102 [some (.inr 100), some (.inl r2)] [] Z26 (zri Q)
        refine z0 (op := 5) (a := 0) (b := 0) (by rfl) (by rfl) (?_ : TZ (d + 1) 167 103 [some (.inr 100), some (.inl r2)] [.inr 100] Z26 (zri Q))
        refine z_vi (by rfl) (by rfl) cl_100 (TI.mono v fun r31 Z30 v => ?_)
        show TZ (d + 1) 167 106 [some (.inr 100), some (.inl r2)] [.inl r31] Z30 (zri Q)
        refine z0 (op := 1) (a := 0) (b := 59) (by rfl) (by rfl) (?_ : TZ (d + 1) 167 108 [some (.inr 100), some (.inl r2)] [.inl 59, .inl r31] Z30 (zri Q))
        obtain ⟨c32, v1, v2⟩ := v
        refine z_if2 (a := 0) (t := 113) (by rfl) (by rfl) c32 (by decide) (fun h33 => ?_) (fun h33 => ?_)
        · have v := v1 h33; clear v1 v2
          show TZ (d + 1) 167 113 [some (.inr 100), some (.inl r2)] [] Z30 (zri Q)
          refine z0 (op := 5) (a := 0) (b := 0) (by rfl) (by rfl) (?_ : TZ (d + 1) 167 114 [some (.inr 100), some (.inl r2)] [.inr 100] Z30 (zri Q))
          refine z0 (op := 15) (a := 0) (b := 0) (by rfl) (by rfl) (?_ : TZ (d + 1) 167 115 [some (.inr 100), some (.inl r2)] [.inr 100, .inr 100] Z30 (zri Q))
          refine z_fi (by rfl) fi114_100 (?_ : TZ (d + 1) 167 118 [some (.inr 100), some (.inl r2)] [.inl (Z30 100 13), .inr 100] Z30 (zri Q))
          refine z0 (op := 0) (a := 0) (b := 1) (by rfl) (by rfl) (?_ : TZ (d + 1) 167 119 [some (.inr 100), some (.inl r2)] [.inl 1, .inl (Z30 100 13), .inr 100] Z30 (zri Q))
          refine z0 (op := 12) (a := 0) (b := 0) (by rfl) (by rfl) (?_ : TZ (d + 1) 167 120 [some (.inr 100), some (.inl r2)] [.inl ((Z30 100 13) + 1), .inr 100] Z30 (zri Q))
          obtain ⟨Z34, eZ34⟩ : ∃ q, q = zup Z30 100 13 ((Z30 100 13) + 1) := ⟨_, rfl⟩
          have v := v Z34 eZ34
          refine z_pf (by rfl) pf114_100 (fun h => nomatch h) ?_
          show TZ (d + 1) 167 123 [some (.inr 100), some (.inl r2)] [] (zup Z30 100 13 ((Z30 100 13) + 1)) _
          rw [← eZ34]
          refine z0 (op := 0) (a := 0) (b := 1) (by rfl) (by rfl) (?_ : TZ (d + 1) 167 124 [some (.inr 100), some (.inl r2)] [.inl 1] Z34 (zri Q))
          exact z_retb (by rfl) (by rfl) (by decide) v
        · have v := v2 h33; clear v1 v2
          show TZ (d + 1) 167 111 [some (.inr 100), some (.inl r2)] [] Z30 (zri Q)
          refine z0 (op := 0) (a := 0) (b := 0) (by rfl) (by rfl) (?_ : TZ (d + 1) 167 112 [some (.inr 100), some (.inl r2)] [.inl 0] Z30 (zri Q))
          exact z_retb (by rfl) (by rfl) (by decide) v
    · have v := v2 h20; clear v1 v2
      show TZ (d + 1) 167 17 [some (.inr 100), some (.inl r2)] [] Z1 (zri Q)
      refine z0 (op := 3) (a := 1) (b := 0) (by rfl) (by rfl) (?_ : TZ (d + 1) 167 18 [some (.inr 100), some (.inl r2)] [.inl r2] Z1 (zri Q))
      refine z0 (op := 1) (a := 0) (b := 102) (by rfl) (by rfl) (?_ : TZ (d + 1) 167 20 [some (.inr 100), some (.inl r2)] [.inl 102, .inl r2] Z1 (zri Q))
      obtain ⟨c35, v1, v2⟩ := v
      refine z_if2 (a := 0) (t := 55) (by rfl) (by rfl) c35 (by decide) (fun h36 => ?_) (fun h36 => ?_)
      · have v := v1 h36; clear v1 v2
        show TZ (d + 1) 167 55 [some (.inr 100), some (.inl r2)] [] Z1 (zri Q)
        refine z0 (op := 5) (a := 0) (b := 0) (by rfl) (by rfl) (?_ : TZ (d + 1) 167 56 [some (.inr 100), some (.inl r2)] [.inr 100] Z1 (zri Q))
        refine z_fr (by rfl) fr94_100 (?_ : TZ (d + 1) 167 59 [some (.inr 100), some (.inl r2)] [.inr 107] Z1 (zri Q))
        refine z0 (op := 5) (a := 0) (b := 0) (by rfl) (by rfl) (?_ : TZ (d + 1) 167 60 [some (.inr 100), some (.inl r2)] [.inr 100, .inr 107] Z1 (zri Q))
        refine z_fi (by rfl) fi115_100 (?_ : TZ (d + 1) 167 63 [some (.inr 100), some (.inl r2)] [.inl (Z1 100 14), .inr 107] Z1 (zri Q))
        refine z0 (op := 3) (a := 1) (b := 0) (by rfl) (by rfl) (?_ : TZ (d + 1) 167 64 [some (.inr 100), some (.inl r2)] [.inl r2, .inl (Z1 100 14), .inr 107] Z1 (zri Q))
        obtain ⟨c37, v⟩ := v
        obtain ⟨Z38, eZ38⟩ : ∃ q, q = zup Z1 107 (Z1 100 14) r2 := ⟨_, rfl⟩
        have v := v Z38 eZ38
        refine z_as (by rfl) ln_107 c37 ?_
        show TZ (d + 1) 167 65 [some (.inr 100), some (.inl r2)] [] (zup Z1 107 (Z1 100 14) r2) _
        rw [← eZ38]
        refine z0 (op := 5) (a := 0) (b := 0) (by rfl) (by rfl) (?_ : TZ (d + 1) 167 66 [some (.inr 100), some (.inl r2)] [.inr 100] Z38 (zri Q))
        refine z_fr (by rfl) fr95_100 (?_ : TZ (d + 1) 167 69 [some (.inr 100), some (.inl r2)] [.inr 108] Z38 (zri Q))
        refine z0 (op := 5) (a := 0) (b := 0) (by rfl) (by rfl) (?_ : TZ (d + 1) 167 70 [some (.inr 100), some (.inl r2)] [.inr 100, .inr 108] Z38 (zri Q))
        refine z_fi (by rfl) fi115_100 (?_ : TZ (d + 1) 167 73 [some (.inr 100), some (.inl r2)] [.inl (Z38 100 14), .inr 108] Z38 (zri Q))
        refine z0 (op := 5) (a := 0) (b := 0) (by rfl) (by rfl) (?_ : TZ (d + 1) 167 74 [some (.inr 100), some (.inl r2)] [.inr 100, .inl (Z38 100 14), .inr 108] Z38 (zri Q))
        refine z_fi (by rfl) fi114_100 (?_ : TZ (d + 1) 167 77 [some (.inr 100), some (.inl r2)] [.inl (Z38 100 13), .inl (Z38 100 14), .inr 108] Z38 (zri Q))
        obtain ⟨c39, v⟩ := v
        obtain ⟨Z40, eZ40⟩ : ∃ q, q = zup Z38 108 (Z38 100 14) (Z38 100 13) := ⟨_, rfl⟩
        have v := v Z40 eZ40
        refine z_as (by rfl) ln_108 c39 ?_
        show TZ (d + 1) 167 78 [some (.inr 100), some (.inl r2)] [] (zup Z38 108 (Z38 100 14) (Z38 100 13)) _
        rw [← eZ40]
        refine z0 (op := 5) (a := 0) (b := 0) (by rfl) (by rfl) (?_ : TZ (d + 1) 167 79 [some (.inr 100), some (.inl r2)] [.inr 100] Z40 (zri Q))
        refine z0 (op := 15) (a := 0) (b := 0) (by rfl) (by rfl) (?_ : TZ (d + 1) 167 80 [some (.inr 100), some (.inl r2)] [.inr 100, .inr 100] Z40 (zri Q))
        refine z_fi (by rfl) fi114_100 (?_ : TZ (d + 1) 167 83 [some (.inr 100), some (.inl r2)] [.inl (Z40 100 13), .inr 100] Z40 (zri Q))
        refine z0 (op := 0) (a := 0) (b := 1) (by rfl) (by rfl) (?_ : TZ (d + 1) 167 84 [some (.inr 100), some (.inl r2)] [.inl 1, .inl (Z40 100 13), .inr 100] Z40 (zri Q))
        refine z0 (op := 12) (a := 0) (b := 0) (by rfl) (by rfl) (?_ : TZ (d + 1) 167 85 [some (.inr 100), some (.inl r2)] [.inl ((Z40 100 13) + 1), .inr 100] Z40 (zri Q))
        obtain ⟨Z41, eZ41⟩ : ∃ q, q = zup Z40 100 13 ((Z40 100 13) + 1) := ⟨_, rfl⟩
        have v := v Z41 eZ41
        refine z_pf (by rfl) pf114_100 (fun h => nomatch h) ?_
        show TZ (d + 1) 167 88 [some (.inr 100), some (.inl r2)] [] (zup Z40 100 13 ((Z40 100 13) + 1)) _
        rw [← eZ41]
        refine z0 (op := 5) (a := 0) (b := 0) (by rfl) (by rfl) (?_ : TZ (d + 1) 167 89 [some (.inr 100), some (.inl r2)] [.inr 100] Z41 (zri Q))
        refine z0 (op := 3) (a := 1) (b := 0) (by rfl) (by rfl) (?_ : TZ (d + 1) 167 90 [some (.inr 100), some (.inl r2)] [.inl r2, .inr 100] Z41 (zri Q))
        refine z0 (op := 0) (a := 0) (b := 3) (by rfl) (by rfl) (?_ : TZ (d + 1) 167 91 [some (.inr 100), some (.inl r2)] [.inl 3, .inl r2, .inr 100] Z41 (zri Q))
        refine z0 (op := 5) (a := 0) (b := 0) (by rfl) (by rfl) (?_ : TZ (d + 1) 167 92 [some (.inr 100), some (.inl r2)] [.inr 100, .inl 3, .inl r2, .inr 100] Z41 (zri Q))
        refine z_fi (by rfl) fi115_100 (?_ : TZ (d + 1) 167 95 [some (.inr 100), some (.inl r2)] [.inl (Z41 100 14), .inl 3, .inl r2, .inr 100] Z41 (zri Q))
        refine z0 (op := 12) (a := 2) (b := 0) (by rfl) (by rfl) (?_ : TZ (d + 1) 167 96 [some (.inr 100), some (.inl r2)] [.inl (3 * (Z41 100 14)), .inl r2, .inr 100] Z41 (zri Q))
        refine z_vi (by rfl) (by rfl) cl_100 (TI.mono v fun r43 Z42 v => ?_)
        show TZ (d + 1) 167 99 [some (.inr 100), some (.inl r2)] [.inl r43] Z42 (zri Q)
        obtain ⟨c44, v1, v2⟩ := v
        refine z_if0 (a := 0) (t := 111) (by rfl) (by rfl) c44 (fun h45 => ?_) (fun h45 => ?_)
        · have v := v1 h45; clear v1 v2
          show TZ (d + 1) 167 111 [some (.inr 100), some (.inl r2)] [] Z42 (zri Q)
          refine z0 (op := 0) (a := 0) (b := 0) (by rfl) (by rfl) (?_ : TZ (d + 1) 167 112 [some (.inr 100), some (.inl r2)] [.inl 0] Z42 (zri Q))
          exact z_retb (by rfl) (by rfl) (by decide) v
        · have v := v2 h45; clear v1 v2
          show TZ (d + 1) 167 102 [some (.inr 100), some (.inl r2)] [] Z42 (zri Q)
          refine z0 (op := 5) (a := 0) (b := 0) (by rfl) (by rfl) (?_ : TZ (d + 1) 167 103 [some (.inr 100), some (.inl r2)] [.inr 100] Z42 (zri Q))
          refine z_vi (by rfl) (by rfl) cl_100 (TI.mono v fun r47 Z46 v => ?_)
          show TZ (d + 1) 167 106 [some (.inr 100), some (.inl r2)] [.inl r47] Z46 (zri Q)
          refine z0 (op := 1) (a := 0) (b := 59) (by rfl) (by rfl) (?_ : TZ (d + 1) 167 108 [some (.inr 100), some (.inl r2)] [.inl 59, .inl r47] Z46 (zri Q))
          obtain ⟨c48, v1, v2⟩ := v
          refine z_if2 (a := 0) (t := 113) (by rfl) (by rfl) c48 (by decide) (fun h49 => ?_) (fun h49 => ?_)
          · have v := v1 h49; clear v1 v2
            show TZ (d + 1) 167 113 [some (.inr 100), some (.inl r2)] [] Z46 (zri Q)
            refine z0 (op := 5) (a := 0) (b := 0) (by rfl) (by rfl) (?_ : TZ (d + 1) 167 114 [some (.inr 100), some (.inl r2)] [.inr 100] Z46 (zri Q))
            refine z0 (op := 15) (a := 0) (b := 0) (by rfl) (by rfl) (?_ : TZ (d + 1) 167 115 [some (.inr 100), some (.inl r2)] [.inr 100, .inr 100] Z46 (zri Q))
            refine z_fi (by rfl) fi114_100 (?_ : TZ (d + 1) 167 118 [some (.inr 100), some (.inl r2)] [.inl (Z46 100 13), .inr 100] Z46 (zri Q))
            refine z0 (op := 0) (a := 0) (b := 1) (by rfl) (by rfl) (?_ : TZ (d + 1) 167 119 [some (.inr 100), some (.inl r2)] [.inl 1, .inl (Z46 100 13), .inr 100] Z46 (zri Q))
            refine z0 (op := 12) (a := 0) (b := 0) (by rfl) (by rfl) (?_ : TZ (d + 1) 167 120 [some (.inr 100), some (.inl r2)] [.inl ((Z46 100 13) + 1), .inr 100] Z46 (zri Q))
            obtain ⟨Z50, eZ50⟩ : ∃ q, q = zup Z46 100 13 ((Z46 100 13) + 1) := ⟨_, rfl⟩
            have v := v Z50 eZ50
            refine z_pf (by rfl) pf114_100 (fun h => nomatch h) ?_
            show TZ (d + 1) 167 123 [some (.inr 100), some (.inl r2)] [] (zup Z46 100 13 ((Z46 100 13) + 1)) _
            rw [← eZ50]
            refine z0 (op := 0) (a := 0) (b := 1) (by rfl) (by rfl) (?_ : TZ (d + 1) 167 124 [some (.inr 100), some (.inl r2)] [.inl 1] Z50 (zri Q))
            exact z_retb (by rfl) (by rfl) (by decide) v
          · have v := v2 h49; clear v1 v2
            show TZ (d + 1) 167 111 [some (.inr 100), some (.inl r2)] [] Z46 (zri Q)
            refine z0 (op := 0) (a := 0) (b := 0) (by rfl) (by rfl) (?_ : TZ (d + 1) 167 112 [some (.inr 100), some (.inl r2)] [.inl 0] Z46 (zri Q))
            exact z_retb (by rfl) (by rfl) (by decide) v
      · have v := v2 h36; clear v1 v2
        show TZ (d + 1) 167 23 [some (.inr 100), some (.inl r2)] [] Z1 (zri Q)
        refine z0 (op := 3) (a := 1) (b := 0) (by rfl) (by rfl) (?_ : TZ (d + 1) 167 24 [some (.inr 100), some (.inl r2)] [.inl r2] Z1 (zri Q))
        refine z0 (op := 1) (a := 0) (b := 110) (by rfl) (by rfl) (?_ : TZ (d + 1) 167 26 [some (.inr 100), some (.inl r2)] [.inl 110, .inl r2] Z1 (zri Q))
        obtain ⟨c51, v1, v2⟩ := v
        refine z_if2 (a := 0) (t := 55) (by rfl) (by rfl) c51 (by decide) (fun h52 => ?_) (fun h52 => ?_)
        · have v := v1 h52; clear v1 v2
          show TZ (d + 1) 167 55 [some (.inr 100), some (.inl r2)] [] Z1 (zri Q)
          refine z0 (op := 5) (a := 0) (b := 0) (by rfl) (by rfl) (?_ : TZ (d + 1) 167 56 [some (.inr 100), some (.inl r2)] [.inr 100] Z1 (zri Q))
          refine z_fr (by rfl) fr94_100 (?_ : TZ (d + 1) 167 59 [some (.inr 100), some (.inl r2)] [.inr 107] Z1 (zri Q))
          refine z0 (op := 5) (a := 0) (b := 0) (by rfl) (by rfl) (?_ : TZ (d + 1) 167 60 [some (.inr 100), some (.inl r2)] [.inr 100, .inr 107] Z1 (zri Q))
          refine z_fi (by rfl) fi115_100 (?_ : TZ (d + 1) 167 63 [some (.inr 100), some (.inl r2)] [.inl (Z1 100 14), .inr 107] Z1 (zri Q))
          refine z0 (op := 3) (a := 1) (b := 0) (by rfl) (by rfl) (?_ : TZ (d + 1) 167 64 [some (.inr 100), some (.inl r2)] [.inl r2, .inl (Z1 100 14), .inr 107] Z1 (zri Q))
          obtain ⟨c53, v⟩ := v
          obtain ⟨Z54, eZ54⟩ : ∃ q, q = zup Z1 107 (Z1 100 14) r2 := ⟨_, rfl⟩
          have v := v Z54 eZ54
          refine z_as (by rfl) ln_107 c53 ?_
          show TZ (d + 1) 167 65 [some (.inr 100), some (.inl r2)] [] (zup Z1 107 (Z1 100 14) r2) _
          rw [← eZ54]
          refine z0 (op := 5) (a := 0) (b := 0) (by rfl) (by rfl) (?_ : TZ (d + 1) 167 66 [some (.inr 100), some (.inl r2)] [.inr 100] Z54 (zri Q))
          refine z_fr (by rfl) fr95_100 (?_ : TZ (d + 1) 167 69 [some (.inr 100), some (.inl r2)] [.inr 108] Z54 (zri Q))
          refine z0 (op := 5) (a := 0) (b := 0) (by rfl) (by rfl) (?_ : TZ (d + 1) 167 70 [some (.inr 100), some (.inl r2)] [.inr 100, .inr 108] Z54 (zri Q))
          refine z_fi (by rfl) fi115_100 (?_ : TZ (d + 1) 167 73 [some (.inr 100), some (.inl r2)] [.inl (Z54 100 14), .inr 108] Z54 (zri Q))
          refine z0 (op := 5) (a := 0) (b := 0) (by rfl) (by rfl) (?_ : TZ (d + 1) 167 74 [some (.inr 100), some (.inl r2)] [.inr 100, .inl (Z54 100 14), .inr 108] Z54 (zri Q))
          refine z_fi (by rfl) fi114_100 (?_ : TZ (d + 1) 167 77 [some (.inr 100), some (.inl r2)] [.inl (Z54 100 13), .inl (Z54 100 14), .inr 108] Z54 (zri Q))
          obtain ⟨c55, v⟩ := v
          obtain ⟨Z56, eZ56⟩ : ∃ q, q = zup Z54 108 (Z54 100 14) (Z54 100 13) := ⟨_, rfl⟩
          have v := v Z56 eZ56
          refine z_as (by rfl) ln_108 c55 ?_
          show TZ (d + 1) 167 78 [some (.inr 100), some (.inl r2)] [] (zup Z54 108 (Z54 100 14) (Z54 100 13)) _
          rw [← eZ56]
          refine z0 (op := 5) (a := 0) (b := 0) (by rfl) (by rfl) (?_ : TZ (d + 1) 167 79 [some (.inr 100), some (.inl r2)] [.inr 100] Z56 (zri Q))
          refine z0 (op := 15) (a := 0) (b := 0) (by rfl) (by rfl) (?_ : TZ (d + 1) 167 80 [some (.inr 100), some (.inl r2)] [.inr 100, .inr 100] Z56 (zri Q))
          refine z_fi (by rfl) fi114_100 (?_ : TZ (d + 1) 167 83 [some (.inr 100), some (.inl r2)] [.inl (Z56 100 13), .inr 100] Z56 (zri Q))
          refine z0 (op := 0) (a := 0) (b := 1) (by rfl) (by rfl) (?_ : TZ (d + 1) 167 84 [some (.inr 100), some (.inl r2)] [.inl 1, .inl (Z56 100 13), .inr 100] Z56 (zri Q))
          refine z0 (op := 12) (a := 0) (b := 0) (by rfl) (by rfl) (?_ : TZ (d + 1) 167 85 [some (.inr 100), some (.inl r2)] [.inl ((Z56 100 13) + 1), .inr 100] Z56 (zri Q))
          obtain ⟨Z57, eZ57⟩ : ∃ q, q = zup Z56 100 13 ((Z56 100 13) + 1) := ⟨_, rfl⟩
          have v := v Z57 eZ57
          refine z_pf (by rfl) pf114_100 (fun h => nomatch h) ?_
          show TZ (d + 1) 167 88 [some (.inr 100), some (.inl r2)] [] (zup Z56 100 13 ((Z56 100 13) + 1)) _
          rw [← eZ57]
          refine z0 (op := 5) (a := 0) (b := 0) (by rfl) (by rfl) (?_ : TZ (d + 1) 167 89 [some (.inr 100), some (.inl r2)] [.inr 100] Z57 (zri Q))
          refine z0 (op := 3) (a := 1) (b := 0) (by rfl) (by rfl) (?_ : TZ (d + 1) 167 90 [some (.inr 100), some (.inl r2)] [.inl r2, .inr 100] Z57 (zri Q))
          refine z0 (op := 0) (a := 0) (b := 3) (by rfl) (by rfl) (?_ : TZ (d + 1) 167 91 [some (.inr 100), some (.inl r2)] [.inl 3, .inl r2, .inr 100] Z57 (zri Q))
          refine z0 (op := 5) (a := 0) (b := 0) (by rfl) (by rfl) (?_ : TZ (d + 1) 167 92 [some (.inr 100), some (.inl r2)] [.inr 100, .inl 3, .inl r2, .inr 100] Z57 (zri Q))
          refine z_fi (by rfl) fi115_100 (?_ : TZ (d + 1) 167 95 [some (.inr 100), some (.inl r2)] [.inl (Z57 100 14), .inl 3, .inl r2, .inr 100] Z57 (zri Q))
          refine z0 (op := 12) (a := 2) (b := 0) (by rfl) (by rfl) (?_ : TZ (d + 1) 167 96 [some (.inr 100), some (.inl r2)] [.inl (3 * (Z57 100 14)), .inl r2, .inr 100] Z57 (zri Q))
          refine z_vi (by rfl) (by rfl) cl_100 (TI.mono v fun r59 Z58 v => ?_)
          show TZ (d + 1) 167 99 [some (.inr 100), some (.inl r2)] [.inl r59] Z58 (zri Q)
          obtain ⟨c60, v1, v2⟩ := v
          refine z_if0 (a := 0) (t := 111) (by rfl) (by rfl) c60 (fun h61 => ?_) (fun h61 => ?_)
          · have v := v1 h61; clear v1 v2
            show TZ (d + 1) 167 111 [some (.inr 100), some (.inl r2)] [] Z58 (zri Q)
            refine z0 (op := 0) (a := 0) (b := 0) (by rfl) (by rfl) (?_ : TZ (d + 1) 167 112 [some (.inr 100), some (.inl r2)] [.inl 0] Z58 (zri Q))
            exact z_retb (by rfl) (by rfl) (by decide) v
          · have v := v2 h61; clear v1 v2
            show TZ (d + 1) 167 102 [some (.inr 100), some (.inl r2)] [] Z58 (zri Q)
            refine z0 (op := 5) (a := 0) (b := 0) (by rfl) (by rfl) (?_ : TZ (d + 1) 167 103 [some (.inr 100), some (.inl r2)] [.inr 100] Z58 (zri Q))
            refine z_vi (by rfl) (by rfl) cl_100 (TI.mono v fun r63 Z62 v => ?_)
            show TZ (d + 1) 167 106 [some (.inr 100), some (.inl r2)] [.inl r63] Z62 (zri Q)
            refine z0 (op := 1) (a := 0) (b := 59) (by rfl) (by rfl) (?_ : TZ (d + 1) 167 108 [some (.inr 100), some (.inl r2)] [.inl 59, .inl r63] Z62 (zri Q))
            obtain ⟨c64, v1, v2⟩ := v
            refine z_if2 (a := 0) (t := 113) (by rfl) (by rfl) c64 (by decide) (fun h65 => ?_) (fun h65 => ?_)
            · have v := v1 h65; clear v1 v2
              show TZ (d + 1) 167 113 [some (.inr 100), some (.inl r2)] [] Z62 (zri Q)
              refine z0 (op := 5) (a := 0) (b := 0) (by rfl) (by rfl) (?_ : TZ (d + 1) 167 114 [some (.inr 100), some (.inl r2)] [.inr 100] Z62 (zri Q))
              refine z0 (op := 15) (a := 0) (b := 0) (by rfl) (by rfl) (?_ : TZ (d + 1) 167 115 [some (.inr 100), some (.inl r2)] [.inr 100, .inr 100] Z62 (zri Q))
              refine z_fi (by rfl) fi114_100 (?_ : TZ (d + 1) 167 118 [some (.inr 100), some (.inl r2)] [.inl (Z62 100 13), .inr 100] Z62 (zri Q))
              refine z0 (op := 0) (a := 0) (b := 1) (by rfl) (by rfl) (?_ : TZ (d + 1) 167 119 [some (.inr 100), some (.inl r2)] [.inl 1, .inl (Z62 100 13), .inr 100] Z62 (zri Q))
              refine z0 (op := 12) (a := 0) (b := 0) (by rfl) (by rfl) (?_ : TZ (d + 1) 167 120 [some (.inr 100), some (.inl r2)] [.inl ((Z62 100 13) + 1), .inr 100] Z62 (zri Q))
              obtain ⟨Z66, eZ66⟩ : ∃ q, q = zup Z62 100 13 ((Z62 100 13) + 1) := ⟨_, rfl⟩
              have v := v Z66 eZ66
              refine z_pf (by rfl) pf114_100 (fun h => nomatch h) ?_
              show TZ (d + 1) 167 123 [some (.inr 100), some (.inl r2)] [] (zup Z62 100 13 ((Z62 100 13) + 1)) _
              rw [← eZ66]
              refine z0 (op := 0) (a := 0) (b := 1) (by rfl) (by rfl) (?_ : TZ (d + 1) 167 124 [some (.inr 100), some (.inl r2)] [.inl 1] Z66 (zri Q))
              exact z_retb (by rfl) (by rfl) (by decide) v
            · have v := v2 h65; clear v1 v2
              show TZ (d + 1) 167 111 [some (.inr 100), some (.inl r2)] [] Z62 (zri Q)
              refine z0 (op := 0) (a := 0) (b := 0) (by rfl) (by rfl) (?_ : TZ (d + 1) 167 112 [some (.inr 100), some (.inl r2)] [.inl 0] Z62 (zri Q))
              exact z_retb (by rfl) (by rfl) (by decide) v
        · have v := v2 h52; clear v1 v2
          show TZ (d + 1) 167 29 [some (.inr 100), some (.inl r2)] [] Z1 (zri Q)
          refine z0 (op := 3) (a := 1) (b := 0) (by rfl) (by rfl) (?_ : TZ (d + 1) 167 30 [some (.inr 100), some (.inl r2)] [.inl r2] Z1 (zri Q))
          refine z0 (op := 1) (a := 0) (b := 99) (by rfl) (by rfl) (?_ : TZ (d + 1) 167 32 [some (.inr 100), some (.inl r2)] [.inl 99, .inl r2] Z1 (zri Q))
          obtain ⟨c67, v1, v2⟩ := v
          refine z_if2 (a := 0) (t := 55) (by rfl) (by rfl) c67 (by decide) (fun h68 => ?_) (fun h68 => ?_)
          · have v := v1 h68; clear v1 v2
            show TZ (d + 1) 167 55 [some (.inr 100), some (.inl r2)] [] Z1 (zri Q)
            refine z0 (op := 5) (a := 0) (b := 0) (by rfl) (by rfl) (?_ : TZ (d + 1) 167 56 [some (.inr 100), some (.inl r2)] [.inr 100] Z1 (zri Q))
            refine z_fr (by rfl) fr94_100 (?_ : TZ (d + 1) 167 59 [some (.inr 100), some (.inl r2)] [.inr 107] Z1 (zri Q))
            refine z0 (op := 5) (a := 0) (b := 0) (by rfl) (by rfl) (?_ : TZ (d + 1) 167 60 [some (.inr 100), some (.inl r2)] [.inr 100, .inr 107] Z1 (zri Q))
            refine z_fi (by rfl) fi115_100 (?_ : TZ (d + 1) 167 63 [some (.inr 100), some (.inl r2)] [.inl (Z1 100 14), .inr 107] Z1 (zri Q))
            refine z0 (op := 3) (a := 1) (b := 0) (by rfl) (by rfl) (?_ : TZ (d + 1) 167 64 [some (.inr 100), some (.inl r2)] [.inl r2, .inl (Z1 100 14), .inr 107] Z1 (zri Q))
            obtain ⟨c69, v⟩ := v
            obtain ⟨Z70, eZ70⟩ : ∃ q, q = zup Z1 107 (Z1 100 14) r2 := ⟨_, rfl⟩
            have v := v Z70 eZ70
            refine z_as (by rfl) ln_107 c69 ?_
            show TZ (d + 1) 167 65 [some (.inr 100), some (.inl r2)] [] (zup Z1 107 (Z1 100 14) r2) _
            rw [← eZ70]
            refine z0 (op := 5) (a := 0) (b := 0) (by rfl) (by rfl) (?_ : TZ (d + 1) 167 66 [some (.inr 100), some (.inl r2)] [.inr 100] Z70 (zri Q))
            refine z_fr (by rfl) fr95_100 (?_ : TZ (d + 1) 167 69 [some (.inr 100), some (.inl r2)] [.inr 108] Z70 (zri Q))
            refine z0 (op := 5) (a := 0) (b := 0) (by rfl) (by rfl) (?_ : TZ (d + 1) 167 70 [some (.inr 100), some (.inl r2)] [.inr 100, .inr 108] Z70 (zri Q))
            refine z_fi (by rfl) fi115_100 (?_ : TZ (d + 1) 167 73 [some (.inr 100), some (.inl r2)] [.inl (Z70 100 14), .inr 108] Z70 (zri Q))
            refine z0 (op := 5) (a := 0) (b := 0) (by rfl) (by rfl) (?_ : TZ (d + 1) 167 74 [some (.inr 100), some (.inl r2)] [.inr 100, .inl (Z70 100 14), .inr 108] Z70 (zri Q))
            refine z_fi (by rfl) fi114_100 (?_ : TZ (d + 1) 167 77 [some (.inr 100), some (.inl r2)] [.inl (Z70 100 13), .inl (Z70 100 14), .inr 108] Z70 (zri Q))
            obtain ⟨c71, v⟩ := v
            obtain ⟨Z72, eZ72⟩ : ∃ q, q = zup Z70 108 (Z70 100 14) (Z70 100 13) := ⟨_, rfl⟩
            have v := v Z72 eZ72
            refine z_as (by rfl) ln_108 c71 ?_
            show TZ (d + 1) 167 78 [some (.inr 100), some (.inl r2)] [] (zup Z70 108 (Z70 100 14) (Z70 100 13)) _
            rw [← eZ72]
            refine z0 (op := 5) (a := 0) (b := 0) (by rfl) (by rfl) (?_ : TZ (d + 1) 167 79 [some (.inr 100), some (.inl r2)] [.inr 100] Z72 (zri Q))
            refine z0 (op := 15) (a := 0) (b := 0) (by rfl) (by rfl) (?_ : TZ (d + 1) 167 80 [some (.inr 100), some (.inl r2)] [.inr 100, .inr 100] Z72 (zri Q))
            refine z_fi (by rfl) fi114_100 (?_ : TZ (d + 1) 167 83 [some (.inr 100), some (.inl r2)] [.inl (Z72 100 13), .inr 100] Z72 (zri Q))
            refine z0 (op := 0) (a := 0) (b := 1) (by rfl) (by rfl) (?_ : TZ (d + 1) 167 84 [some (.inr 100), some (.inl r2)] [.inl 1, .inl (Z72 100 13), .inr 100] Z72 (zri Q))
            refine z0 (op := 12) (a := 0) (b := 0) (by rfl) (by rfl) (?_ : TZ (d + 1) 167 85 [some (.inr 100), some (.inl r2)] [.inl ((Z72 100 13) + 1), .inr 100] Z72 (zri Q))
            obtain ⟨Z73, eZ73⟩ : ∃ q, q = zup Z72 100 13 ((Z72 100 13) + 1) := ⟨_, rfl⟩
            have v := v Z73 eZ73
            refine z_pf (by rfl) pf114_100 (fun h => nomatch h) ?_
            show TZ (d + 1) 167 88 [some (.inr 100), some (.inl r2)] [] (zup Z72 100 13 ((Z72 100 13) + 1)) _
            rw [← eZ73]
            refine z0 (op := 5) (a := 0) (b := 0) (by rfl) (by rfl) (?_ : TZ (d + 1) 167 89 [some (.inr 100), some (.inl r2)] [.inr 100] Z73 (zri Q))
            refine z0 (op := 3) (a := 1) (b := 0) (by rfl) (by rfl) (?_ : TZ (d + 1) 167 90 [some (.inr 100), some (.inl r2)] [.inl r2, .inr 100] Z73 (zri Q))
            refine z0 (op := 0) (a := 0) (b := 3) (by rfl) (by rfl) (?_ : TZ (d + 1) 167 91 [some (.inr 100), some (.inl r2)] [.inl 3, .inl r2, .inr 100] Z73 (zri Q))
            refine z0 (op := 5) (a := 0) (b := 0) (by rfl) (by rfl) (?_ : TZ (d + 1) 167 92 [some (.inr 100), some (.inl r2)] [.inr 100, .inl 3, .inl r2, .inr 100] Z73 (zri Q))
            refine z_fi (by rfl) fi115_100 (?_ : TZ (d + 1) 167 95 [some (.inr 100), some (.inl r2)] [.inl (Z73 100 14), .inl 3, .inl r2, .inr 100] Z73 (zri Q))
            refine z0 (op := 12) (a := 2) (b := 0) (by rfl) (by rfl) (?_ : TZ (d + 1) 167 96 [some (.inr 100), some (.inl r2)] [.inl (3 * (Z73 100 14)), .inl r2, .inr 100] Z73 (zri Q))
            refine z_vi (by rfl) (by rfl) cl_100 (TI.mono v fun r75 Z74 v => ?_)
            show TZ (d + 1) 167 99 [some (.inr 100), some (.inl r2)] [.inl r75] Z74 (zri Q)
            obtain ⟨c76, v1, v2⟩ := v
            refine z_if0 (a := 0) (t := 111) (by rfl) (by rfl) c76 (fun h77 => ?_) (fun h77 => ?_)
            · have v := v1 h77; clear v1 v2
              show TZ (d + 1) 167 111 [some (.inr 100), some (.inl r2)] [] Z74 (zri Q)
              refine z0 (op := 0) (a := 0) (b := 0) (by rfl) (by rfl) (?_ : TZ (d + 1) 167 112 [some (.inr 100), some (.inl r2)] [.inl 0] Z74 (zri Q))
              exact z_retb (by rfl) (by rfl) (by decide) v
            · have v := v2 h77; clear v1 v2
              show TZ (d + 1) 167 102 [some (.inr 100), some (.inl r2)] [] Z74 (zri Q)
              refine z0 (op := 5) (a := 0) (b := 0) (by rfl) (by rfl) (?_ : TZ (d + 1) 167 103 [some (.inr 100), some (.inl r2)] [.inr 100] Z74 (zri Q))
              refine z_vi (by rfl) (by rfl) cl_100 (TI.mono v fun r79 Z78 v => ?_)
              show TZ (d + 1) 167 106 [some (.inr 100), some (.inl r2)] [.inl r79] Z78 (zri Q)
              refine z0 (op := 1) (a := 0) (b := 59) (by rfl) (by rfl) (?_ : TZ (d + 1) 167 108 [some (.inr 100), some (.inl r2)] [.inl 59, .inl r79] Z78 (zri Q))
              obtain ⟨c80, v1, v2⟩ := v
              refine z_if2 (a := 0) (t := 113) (by rfl) (by rfl) c80 (by decide) (fun h81 => ?_) (fun h81 => ?_)
              · have v := v1 h81; clear v1 v2
                show TZ (d + 1) 167 113 [some (.inr 100), some (.inl r2)] [] Z78 (zri Q)
                refine z0 (op := 5) (a := 0) (b := 0) (by rfl) (by rfl) (?_ : TZ (d + 1) 167 114 [some (.inr 100), some (.inl r2)] [.inr 100] Z78 (zri Q))
                refine z0 (op := 15) (a := 0) (b := 0) (by rfl) (by rfl) (?_ : TZ (d + 1) 167 115 [some (.inr 100), some (.inl r2)] [.inr 100, .inr 100] Z78 (zri Q))
                refine z_fi (by rfl) fi114_100 (?_ : TZ (d + 1) 167 118 [some (.inr 100), some (.inl r2)] [.inl (Z78 100 13), .inr 100] Z78 (zri Q))
                refine z0 (op := 0) (a := 0) (b := 1) (by rfl) (by rfl) (?_ : TZ (d + 1) 167 119 [some (.inr 100), some (.inl r2)] [.inl 1, .inl (Z78 100 13), .inr 100] Z78 (zri Q))
                refine z0 (op := 12) (a := 0) (b := 0) (by rfl) (by rfl) (?_ : TZ (d + 1) 167 120 [some (.inr 100), some (.inl r2)] [.inl ((Z78 100 13) + 1), .inr 100] Z78 (zri Q))
                obtain ⟨Z82, eZ82⟩ : ∃ q, q = zup Z78 100 13 ((Z78 100 13) + 1) := ⟨_, rfl⟩
                have v := v Z82 eZ82
                refine z_pf (by rfl) pf114_100 (fun h => nomatch h) ?_
                show TZ (d + 1) 167 123 [some (.inr 100), some (.inl r2)] [] (zup Z78 100 13 ((Z78 100 13) + 1)) _
                rw [← eZ82]
                refine z0 (op := 0) (a := 0) (b := 1) (by rfl) (by rfl) (?_ : TZ (d + 1) 167 124 [some (.inr 100), some (.inl r2)] [.inl 1] Z82 (zri Q))
                exact z_retb (by rfl) (by rfl) (by decide) v
              · have v := v2 h81; clear v1 v2
                show TZ (d + 1) 167 111 [some (.inr 100), some (.inl r2)] [] Z78 (zri Q)
                refine z0 (op := 0) (a := 0) (b := 0) (by rfl) (by rfl) (?_ : TZ (d + 1) 167 112 [some (.inr 100), some (.inl r2)] [.inl 0] Z78 (zri Q))
                exact z_retb (by rfl) (by rfl) (by decide) v
          · have v := v2 h68; clear v1 v2
            show TZ (d + 1) 167 35 [some (.inr 100), some (.inl r2)] [] Z1 (zri Q)
            refine z0 (op := 3) (a := 1) (b := 0) (by rfl) (by rfl) (?_ : TZ (d + 1) 167 36 [some (.inr 100), some (.inl r2)] [.inl r2] Z1 (zri Q))
            refine z0 (op := 1) (a := 0) (b := 104) (by rfl) (by rfl) (?_ : TZ (d + 1) 167 38 [some (.inr 100), some (.inl r2)] [.inl 104, .inl r2] Z1 (zri Q))
            obtain ⟨c83, v1, v2⟩ := v
            refine z_if2 (a := 0) (t := 55) (by rfl) (by rfl) c83 (by decide) (fun h84 => ?_) (fun h84 => ?_)
            · have v := v1 h84; clear v1 v2
              show TZ (d + 1) 167 55 [some (.inr 100), some (.inl r2)] [] Z1 (zri Q)
              refine z0 (op := 5) (a := 0) (b := 0) (by rfl) (by rfl) (?_ : TZ (d + 1) 167 56 [some (.inr 100), some (.inl r2)] [.inr 100] Z1 (zri Q))
              refine z_fr (by rfl) fr94_100 (?_ : TZ (d + 1) 167 59 [some (.inr 100), some (.inl r2)] [.inr 107] Z1 (zri Q))
              refine z0 (op := 5) (a := 0) (b := 0) (by rfl) (by rfl) (?_ : TZ (d + 1) 167 60 [some (.inr 100), some (.inl r2)] [.inr 100, .inr 107] Z1 (zri Q))
              refine z_fi (by rfl) fi115_100 (?_ : TZ (d + 1) 167 63 [some (.inr 100), some (.inl r2)] [.inl (Z1 100 14), .inr 107] Z1 (zri Q))
              refine z0 (op := 3) (a := 1) (b := 0) (by rfl) (by rfl) (?_ : TZ (d + 1) 167 64 [some (.inr 100), some (.inl r2)] [.inl r2, .inl (Z1 100 14), .inr 107] Z1 (zri Q))
              obtain ⟨c85, v⟩ := v
              obtain ⟨Z86, eZ86⟩ : ∃ q, q = zup Z1 107 (Z1 100 14) r2 := ⟨_, rfl⟩
              have v := v Z86 eZ86
              refine z_as (by rfl) ln_107 c85 ?_
              show TZ (d + 1) 167 65 [some (.inr 100), some (.inl r2)] [] (zup Z1 107 (Z1 100 14) r2) _
              rw [← eZ86]
              refine z0 (op := 5) (a := 0) (b := 0) (by rfl) (by rfl) (?_ : TZ (d + 1) 167 66 [some (.inr 100), some (.inl r2)] [.inr 100] Z86 (zri Q))
              refine z_fr (by rfl) fr95_100 (?_ : TZ (d + 1) 167 69 [some (.inr 100), some (.inl r2)] [.inr 108] Z86 (zri Q))
              refine z0 (op := 5) (a := 0) (b := 0) (by rfl) (by rfl) (?_ : TZ (d + 1) 167 70 [some (.inr 100), some (.inl r2)] [.inr 100, .inr 108] Z86 (zri Q))
              refine z_fi (by rfl) fi115_100 (?_ : TZ (d + 1) 167 73 [some (.inr 100), some (.inl r2)] [.inl (Z86 100 14), .inr 108] Z86 (zri Q))
              refine z0 (op := 5) (a := 0) (b := 0) (by rfl) (by rfl) (?_ : TZ (d + 1) 167 74 [some (.inr 100), some (.inl r2)] [.inr 100, .inl (Z86 100 14), .inr 108] Z86 (zri Q))
              refine z_fi (by rfl) fi114_100 (?_ : TZ (d + 1) 167 77 [some (.inr 100), some (.inl r2)] [.inl (Z86 100 13), .inl (Z86 100 14), .inr 108] Z86 (zri Q))
              obtain ⟨c87, v⟩ := v
              obtain ⟨Z88, eZ88⟩ : ∃ q, q = zup Z86 108 (Z86 100 14) (Z86 100 13) := ⟨_, rfl⟩
              have v := v Z88 eZ88
              refine z_as (by rfl) ln_108 c87 ?_
              show TZ (d + 1) 167 78 [some (.inr 100), some (.inl r2)] [] (zup Z86 108 (Z86 100 14) (Z86 100 13)) _
              rw [← eZ88]
              refine z0 (op := 5) (a := 0) (b := 0) (by rfl) (by rfl) (?_ : TZ (d + 1) 167 79 [some (.inr 100), some (.inl r2)] [.inr 100] Z88 (zri Q))
              refine z0 (op := 15) (a := 0) (b := 0) (by rfl) (by rfl) (?_ : TZ (d + 1) 167 80 [some (.inr 100), some (.inl r2)] [.inr 100, .inr 100] Z88 (zri Q))
              refine z_fi (by rfl) fi114_100 (?_ : TZ (d + 1) 167 83 [some (.inr 100), some (.inl r2)] [.inl (Z88 100 13), .inr 100] Z88 (zri Q))
              refine z0 (op := 0) (a := 0) (b := 1) (by rfl) (by rfl) (?_ : TZ (d + 1) 167 84 [some (.inr 100), some (.inl r2)] [.inl 1, .inl (Z88 100 13), .inr 100] Z88 (zri Q))
              refine z0 (op := 12) (a := 0) (b := 0) (by rfl) (by rfl) (?_ : TZ (d + 1) 167 85 [some (.inr 100), some (.inl r2)] [.inl ((Z88 100 13) + 1), .inr 100] Z88 (zri Q))
              obtain ⟨Z89, eZ89⟩ : ∃ q, q = zup Z88 100 13 ((Z88 100 13) + 1) := ⟨_, rfl⟩
              have v := v Z89 eZ89
              refine z_pf (by rfl) pf114_100 (fun h => nomatch h) ?_
              show TZ (d + 1) 167 88 [some (.inr 100), some (.inl r2)] [] (zup Z88 100 13 ((Z88 100 13) + 1)) _
              rw [← eZ89]
              refine z0 (op := 5) (a := 0) (b := 0) (by rfl) (by rfl) (?_ : TZ (d + 1) 167 89 [some (.inr 100), some (.inl r2)] [.inr 100] Z89 (zri Q))
              refine z0 (op := 3) (a := 1) (b := 0) (by rfl) (by rfl) (?_ : TZ (d + 1) 167 90 [some (.inr 100), some (.inl r2)] [.inl r2, .inr 100] Z89 (zri Q))
              refine z0 (op := 0) (a := 0) (b := 3) (by rfl) (by rfl) (?_ : TZ (d + 1) 167 91 [some (.inr 100), some (.inl r2)] [.inl 3, .inl r2, .inr 100] Z89 (zri Q))
              refine z0 (op := 5) (a := 0) (b := 0) (by rfl) (by rfl) (?_ : TZ (d + 1) 167 92 [some (.inr 100), some (.inl r2)] [.inr 100, .inl 3, .inl r2, .inr 100] Z89 (zri Q))
              refine z_fi (by rfl) fi115_100 (?_ : TZ (d + 1) 167 95 [some (.inr 100), some (.inl r2)] [.inl (Z89 100 14), .inl 3, .inl r2, .inr 100] Z89 (zri Q))
              refine z0 (op := 12) (a := 2) (b := 0) (by rfl) (by rfl) (?_ : TZ (d + 1) 167 96 [some (.inr 100), some (.inl r2)] [.inl (3 * (Z89 100 14)), .inl r2, .inr 100] Z89 (zri Q))
              refine z_vi (by rfl) (by rfl) cl_100 (TI.mono v fun r91 Z90 v => ?_)
              show TZ (d + 1) 167 99 [some (.inr 100), some (.inl r2)] [.inl r91] Z90 (zri Q)
              obtain ⟨c92, v1, v2⟩ := v
              refine z_if0 (a := 0) (t := 111) (by rfl) (by rfl) c92 (fun h93 => ?_) (fun h93 => ?_)
              · have v := v1 h93; clear v1 v2
                show TZ (d + 1) 167 111 [some (.inr 100), some (.inl r2)] [] Z90 (zri Q)
                refine z0 (op := 0) (a := 0) (b := 0) (by rfl) (by rfl) (?_ : TZ (d + 1) 167 112 [some (.inr 100), some (.inl r2)] [.inl 0] Z90 (zri Q))
                exact z_retb (by rfl) (by rfl) (by decide) v
              · have v := v2 h93; clear v1 v2
                show TZ (d + 1) 167 102 [some (.inr 100), some (.inl r2)] [] Z90 (zri Q)
                refine z0 (op := 5) (a := 0) (b := 0) (by rfl) (by rfl) (?_ : TZ (d + 1) 167 103 [some (.inr 100), some (.inl r2)] [.inr 100] Z90 (zri Q))
                refine z_vi (by rfl) (by rfl) cl_100 (TI.mono v fun r95 Z94 v => ?_)
                show TZ (d + 1) 167 106 [some (.inr 100), some (.inl r2)] [.inl r95] Z94 (zri Q)
                refine z0 (op := 1) (a := 0) (b := 59) (by rfl) (by rfl) (?_ : TZ (d + 1) 167 108 [some (.inr 100), some (.inl r2)] [.inl 59, .inl r95] Z94 (zri Q))
                obtain ⟨c96, v1, v2⟩ := v
                refine z_if2 (a := 0) (t := 113) (by rfl) (by rfl) c96 (by decide) (fun h97 => ?_) (fun h97 => ?_)
                · have v := v1 h97; clear v1 v2
                  show TZ (d + 1) 167 113 [some (.inr 100), some (.inl r2)] [] Z94 (zri Q)
                  refine z0 (op := 5) (a := 0) (b := 0) (by rfl) (by rfl) (?_ : TZ (d + 1) 167 114 [some (.inr 100), some (.inl r2)] [.inr 100] Z94 (zri Q))
                  refine z0 (op := 15) (a := 0) (b := 0) (by rfl) (by rfl) (?_ : TZ (d + 1) 167 115 [some (.inr 100), some (.inl r2)] [.inr 100, .inr 100] Z94 (zri Q))
                  refine z_fi (by rfl) fi114_100 (?_ : TZ (d + 1) 167 118 [some (.inr 100), some (.inl r2)] [.inl (Z94 100 13), .inr 100] Z94 (zri Q))
                  refine z0 (op := 0) (a := 0) (b := 1) (by rfl) (by rfl) (?_ : TZ (d + 1) 167 119 [some (.inr 100), some (.inl r2)] [.inl 1, .inl (Z94 100 13), .inr 100] Z94 (zri Q))
                  refine z0 (op := 12) (a := 0) (b := 0) (by rfl) (by rfl) (?_ : TZ (d + 1) 167 120 [some (.inr 100), some (.inl r2)] [.inl ((Z94 100 13) + 1), .inr 100] Z94 (zri Q))
                  obtain ⟨Z98, eZ98⟩ : ∃ q, q = zup Z94 100 13 ((Z94 100 13) + 1) := ⟨_, rfl⟩
                  have v := v Z98 eZ98
                  refine z_pf (by rfl) pf114_100 (fun h => nomatch h) ?_
                  show TZ (d + 1) 167 123 [some (.inr 100), some (.inl r2)] [] (zup Z94 100 13 ((Z94 100 13) + 1)) _
                  rw [← eZ98]
                  refine z0 (op := 0) (a := 0) (b := 1) (by rfl) (by rfl) (?_ : TZ (d + 1) 167 124 [some (.inr 100), some (.inl r2)] [.inl 1] Z98 (zri Q))
                  exact z_retb (by rfl) (by rfl) (by decide) v
                · have v := v2 h97; clear v1 v2
                  show TZ (d + 1) 167 111 [some (.inr 100), some (.inl r2)] [] Z94 (zri Q)
                  refine z0 (op := 0) (a := 0) (b := 0) (by rfl) (by rfl) (?_ : TZ (d + 1) 167 112 [some (.inr 100), some (.inl r2)] [.inl 0] Z94 (zri Q))
                  exact z_retb (by rfl) (by rfl) (by decide) v
            · have v := v2 h84; clear v1 v2
              show TZ (d + 1) 167 41 [some (.inr 100), some (.inl r2)] [] Z1 (zri Q)
              refine z0 (op := 3) (a := 1) (b := 0) (by rfl) (by rfl) (?_ : TZ (d + 1) 167 42 [some (.inr 100), some (.inl r2)] [.inl r2] Z1 (zri Q))
              refine z0 (op := 1) (a := 0) (b := 114) (by rfl) (by rfl) (?_ : TZ (d + 1) 167 44 [some (.inr 100), some (.inl r2)] [.inl 114, .inl r2] Z1 (zri Q))
              obtain ⟨c99, v1, v2⟩ := v
              refine z_if2 (a := 0) (t := 55) (by rfl) (by rfl) c99 (by decide) (fun h100 => ?_) (fun h100 => ?_)
              · have v := v1 h100; clear v1 v2
                show TZ (d + 1) 167 55 [some (.inr 100), some (.inl r2)] [] Z1 (zri Q)
                refine z0 (op := 5) (a := 0) (b := 0) (by rfl) (by rfl) (?_ : TZ (d + 1) 167 56 [some (.inr 100), some (.inl r2)] [.inr 100] Z1 (zri Q))
                refine z_fr (by rfl) fr94_100 (?_ : TZ (d + 1) 167 59 [some (.inr 100), some (.inl r2)] [.inr 107] Z1 (zri Q))
                refine z0 (op := 5) (a := 0) (b := 0) (by rfl) (by rfl) (?_ : TZ (d + 1) 167 60 [some (.inr 100), some (.inl r2)] [.inr 100, .inr 107] Z1 (zri Q))
                refine z_fi (by rfl) fi115_100 (?_ : TZ (d + 1) 167 63 [some (.inr 100), some (.inl r2)] [.inl (Z1 100 14), .inr 107] Z1 (zri Q))
                refine z0 (op := 3) (a := 1) (b := 0) (by rfl) (by rfl) (?_ : TZ (d + 1) 167 64 [some (.inr 100), some (.inl r2)] [.inl r2, .inl (Z1 100 14), .inr 107] Z1 (zri Q))
                obtain ⟨c101, v⟩ := v
                obtain ⟨Z102, eZ102⟩ : ∃ q, q = zup Z1 107 (Z1 100 14) r2 := ⟨_, rfl⟩
                have v := v Z102 eZ102
                refine z_as (by rfl) ln_107 c101 ?_
                show TZ (d + 1) 167 65 [some (.inr 100), some (.inl r2)] [] (zup Z1 107 (Z1 100 14) r2) _
                rw [← eZ102]
                refine z0 (op := 5) (a := 0) (b := 0) (by rfl) (by rfl) (?_ : TZ (d + 1) 167 66 [some (.inr 100), some (.inl r2)] [.inr 100] Z102 (zri Q))
                refine z_fr (by rfl) fr95_100 (?_ : TZ (d + 1) 167 69 [some (.inr 100), some (.inl r2)] [.inr 108] Z102 (zri Q))
                refine z0 (op := 5) (a := 0) (b := 0) (by rfl) (by rfl) (?_ : TZ (d + 1) 167 70 [some (.inr 100), some (.inl r2)] [.inr 100, .inr 108] Z102 (zri Q))
                refine z_fi (by rfl) fi115_100 (?_ : TZ (d + 1) 167 73 [some (.inr 100), some (.inl r2)] [.inl (Z102 100 14), .inr 108] Z102 (zri Q))
                refine z0 (op := 5) (a := 0) (b := 0) (by rfl) (by rfl) (?_ : TZ (d + 1) 167 74 [some (.inr 100), some (.inl r2)] [.inr 100, .inl (Z102 100 14), .inr 108] Z102 (zri Q))
                refine z_fi (by rfl) fi114_100 (?_ : TZ (d + 1) 167 77 [some (.inr 100), some (.inl r2)] [.inl (Z102 100 13), .inl (Z102 100 14), .inr 108] Z102 (zri Q))
                obtain ⟨c103, v⟩ := v
                obtain ⟨Z104, eZ104⟩ : ∃ q, q = zup Z102 108 (Z102 100 14) (Z102 100 13) := ⟨_, rfl⟩
                have v := v Z104 eZ104
                refine z_as (by rfl) ln_108 c103 ?_
                show TZ (d + 1) 167 78 [some (.inr 100), some (.inl r2)] [] (zup Z102 108 (Z102 100 14) (Z102 100 13)) _
                rw [← eZ104]
                refine z0 (op := 5) (a := 0) (b := 0) (by rfl) (by rfl) (?_ : TZ (d + 1) 167 79 [some (.inr 100), some (.inl r2)] [.inr 100] Z104 (zri Q))
                refine z0 (op := 15) (a := 0) (b := 0) (by rfl) (by rfl) (?_ : TZ (d + 1) 167 80 [some (.inr 100), some (.inl r2)] [.inr 100, .inr 100] Z104 (zri Q))
                refine z_fi (by rfl) fi114_100 (?_ : TZ (d + 1) 167 83 [some (.inr 100), some (.inl r2)] [.inl (Z104 100 13), .inr 100] Z104 (zri Q))
                refine z0 (op := 0) (a := 0) (b := 1) (by rfl) (by rfl) (?_ : TZ (d + 1) 167 84 [some (.inr 100), some (.inl r2)] [.inl 1, .inl (Z104 100 13), .inr 100] Z104 (zri Q))
                refine z0 (op := 12) (a := 0) (b := 0) (by rfl) (by rfl) (?_ : TZ (d + 1) 167 85 [some (.inr 100), some (.inl r2)] [.inl ((Z104 100 13) + 1), .inr 100] Z104 (zri Q))
                obtain ⟨Z105, eZ105⟩ : ∃ q, q = zup Z104 100 13 ((Z104 100 13) + 1) := ⟨_, rfl⟩
                have v := v Z105 eZ105
                refine z_pf (by rfl) pf114_100 (fun h => nomatch h) ?_
                show TZ (d + 1) 167 88 [some (.inr 100), some (.inl r2)] [] (zup Z104 100 13 ((Z104 100 13) + 1)) _
                rw [← eZ105]
                refine z0 (op := 5) (a := 0) (b := 0) (by rfl) (by rfl) (?_ : TZ (d + 1) 167 89 [some (.inr 100), some (.inl r2)] [.inr 100] Z105 (zri Q))
                refine z0 (op := 3) (a := 1) (b := 0) (by rfl) (by rfl) (?_ : TZ (d + 1) 167 90 [some (.inr 100), some (.inl r2)] [.inl r2, .inr 100] Z105 (zri Q))
                refine z0 (op := 0) (a := 0) (b := 3) (by rfl) (by rfl) (?_ : TZ (d + 1) 167 91 [some (.inr 100), some (.inl r2)] [.inl 3, .inl r2, .inr 100] Z105 (zri Q))
                refine z0 (op := 5) (a := 0) (b := 0) (by rfl) (by rfl) (?_ : TZ (d + 1) 167 92 [some (.inr 100), some (.inl r2)] [.inr 100, .inl 3, .inl r2, .inr 100] Z105 (zri Q))
                refine z_fi (by rfl) fi115_100 (?_ : TZ (d + 1) 167 95 [some (.inr 100), some (.inl r2)] [.inl (Z105 100 14), .inl 3, .inl r2, .inr 100] Z105 (zri Q))
                refine z0 (op := 12) (a := 2) (b := 0) (by rfl) (by rfl) (?_ : TZ (d + 1) 167 96 [some (.inr 100), some (.inl r2)] [.inl (3 * (Z105 100 14)), .inl r2, .inr 100] Z105 (zri Q))
                refine z_vi (by rfl) (by rfl) cl_100 (TI.mono v fun r107 Z106 v => ?_)
                show TZ (d + 1) 167 99 [some (.inr 100), some (.inl r2)] [.inl r107] Z106 (zri Q)
                obtain ⟨c108, v1, v2⟩ := v
                refine z_if0 (a := 0) (t := 111) (by rfl) (by rfl) c108 (fun h109 => ?_) (fun h109 => ?_)
                · have v := v1 h109; clear v1 v2
                  show TZ (d + 1) 167 111 [some (.inr 100), some (.inl r2)] [] Z106 (zri Q)
                  refine z0 (op := 0) (a := 0) (b := 0) (by rfl) (by rfl) (?_ : TZ (d + 1) 167 112 [some (.inr 100), some (.inl r2)] [.inl 0] Z106 (zri Q))
                  exact z_retb (by rfl) (by rfl) (by decide) v
                · have v := v2 h109; clear v1 v2
                  show TZ (d + 1) 167 102 [some (.inr 100), some (.inl r2)] [] Z106 (zri Q)
                  refine z0 (op := 5) (a := 0) (b := 0) (by rfl) (by rfl) (?_ : TZ (d + 1) 167 103 [some (.inr 100), some (.inl r2)] [.inr 100] Z106 (zri Q))
                  refine z_vi (by rfl) (by rfl) cl_100 (TI.mono v fun r111 Z110 v => ?_)
                  show TZ (d + 1) 167 106 [some (.inr 100), some (.inl r2)] [.inl r111] Z110 (zri Q)
                  refine z0 (op := 1) (a := 0) (b := 59) (by rfl) (by rfl) (?_ : TZ (d + 1) 167 108 [some (.inr 100), some (.inl r2)] [.inl 59, .inl r111] Z110 (zri Q))
                  obtain ⟨c112, v1, v2⟩ := v
                  refine z_if2 (a := 0) (t := 113) (by rfl) (by rfl) c112 (by decide) (fun h113 => ?_) (fun h113 => ?_)
                  · have v := v1 h113; clear v1 v2
                    show TZ (d + 1) 167 113 [some (.inr 100), some (.inl r2)] [] Z110 (zri Q)
                    refine z0 (op := 5) (a := 0) (b := 0) (by rfl) (by rfl) (?_ : TZ (d + 1) 167 114 [some (.inr 100), some (.inl r2)] [.inr 100] Z110 (zri Q))
                    refine z0 (op := 15) (a := 0) (b := 0) (by rfl) (by rfl) (?_ : TZ (d + 1) 167 115 [some (.inr 100), some (.inl r2)] [.inr 100, .inr 100] Z110 (zri Q))
                    refine z_fi (by rfl) fi114_100 (?_ : TZ (d + 1) 167 118 [some (.inr 100), some (.inl r2)] [.inl (Z110 100 13), .inr 100] Z110 (zri Q))
                    refine z0 (op := 0) (a := 0) (b := 1) (by rfl) (by rfl) (?_ : TZ (d + 1) 167 119 [some (.inr 100), some (.inl r2)] [.inl 1, .inl (Z110 100 13), .inr 100] Z110 (zri Q))
                    refine z0 (op := 12) (a := 0) (b := 0) (by rfl) (by rfl) (?_ : TZ (d + 1) 167 120 [some (.inr 100), some (.inl r2)] [.inl ((Z110 100 13) + 1), .inr 100] Z110 (zri Q))
                    obtain ⟨Z114, eZ114⟩ : ∃ q, q = zup Z110 100 13 ((Z110 100 13) + 1) := ⟨_, rfl⟩
                    have v := v Z114 eZ114
                    refine z_pf (by rfl) pf114_100 (fun h => nomatch h) ?_
                    show TZ (d + 1) 167 123 [some (.inr 100), some (.inl r2)] [] (zup Z110 100 13 ((Z110 100 13) + 1)) _
                    rw [← eZ114]
                    refine z0 (op := 0) (a := 0) (b := 1) (by rfl) (by rfl) (?_ : TZ (d + 1) 167 124 [some (.inr 100), some (.inl r2)] [.inl 1] Z114 (zri Q))
                    exact z_retb (by rfl) (by rfl) (by decide) v
                  · have v := v2 h113; clear v1 v2
                    show TZ (d + 1) 167 111 [some (.inr 100), some (.inl r2)] [] Z110 (zri Q)
                    refine z0 (op := 0) (a := 0) (b := 0) (by rfl) (by rfl) (?_ : TZ (d + 1) 167 112 [some (.inr 100), some (.inl r2)] [.inl 0] Z110 (zri Q))
                    exact z_retb (by rfl) (by rfl) (by decide) v
              · have v := v2 h100; clear v1 v2
                show TZ (d + 1) 167 47 [some (.inr 100), some (.inl r2)] [] Z1 (zri Q)
                refine z0 (op := 3) (a := 1) (b := 0) (by rfl) (by rfl) (?_ : TZ (d + 1) 167 48 [some (.inr 100), some (.inl r2)] [.inl r2] Z1 (zri Q))
                refine z0 (op := 1) (a := 0) (b := 115) (by rfl) (by rfl) (?_ : TZ (d + 1) 167 50 [some (.inr 100), some (.inl r2)] [.inl 115, .inl r2] Z1 (zri Q))
                obtain ⟨c115, v1, v2⟩ := v
                refine z_if2 (a := 0) (t := 55) (by rfl) (by rfl) c115 (by decide) (fun h116 => ?_) (fun h116 => ?_)
                · have v := v1 h116; clear v1 v2
                  show TZ (d + 1) 167 55 [some (.inr 100), some (.inl r2)] [] Z1 (zri Q)
                  refine z0 (op := 5) (a := 0) (b := 0) (by rfl) (by rfl) (?_ : TZ (d + 1) 167 56 [some (.inr 100), some (.inl r2)] [.inr 100] Z1 (zri Q))
                  refine z_fr (by rfl) fr94_100 (?_ : TZ (d + 1) 167 59 [some (.inr 100), some (.inl r2)] [.inr 107] Z1 (zri Q))
                  refine z0 (op := 5) (a := 0) (b := 0) (by rfl) (by rfl) (?_ : TZ (d + 1) 167 60 [some (.inr 100), some (.inl r2)] [.inr 100, .inr 107] Z1 (zri Q))
                  refine z_fi (by rfl) fi115_100 (?_ : TZ (d + 1) 167 63 [some (.inr 100), some (.inl r2)] [.inl (Z1 100 14), .inr 107] Z1 (zri Q))
                  refine z0 (op := 3) (a := 1) (b := 0) (by rfl) (by rfl) (?_ : TZ (d + 1) 167 64 [some (.inr 100), some (.inl r2)] [.inl r2, .inl (Z1 100 14), .inr 107] Z1 (zri Q))
                  obtain ⟨c117, v⟩ := v
                  obtain ⟨Z118, eZ118⟩ : ∃ q, q = zup Z1 107 (Z1 100 14) r2 := ⟨_, rfl⟩
                  have v := v Z118 eZ118
                  refine z_as (by rfl) ln_107 c117 ?_
                  show TZ (d + 1) 167 65 [some (.inr 100), some (.inl r2)] [] (zup Z1 107 (Z1 100 14) r2) _
                  rw [← eZ118]
                  refine z0 (op := 5) (a := 0) (b := 0) (by rfl) (by rfl) (?_ : TZ (d + 1) 167 66 [some (.inr 100), some (.inl r2)] [.inr 100] Z118 (zri Q))
                  refine z_fr (by rfl) fr95_100 (?_ : TZ (d + 1) 167 69 [some (.inr 100), some (.inl r2)] [.inr 108] Z118 (zri Q))
                  refine z0 (op := 5) (a := 0) (b := 0) (by rfl) (by rfl) (?_ : TZ (d + 1) 167 70 [some (.inr 100), some (.inl r2)] [.inr 100, .inr 108] Z118 (zri Q))
                  refine z_fi (by rfl) fi115_100 (?_ : TZ (d + 1) 167 73 [some (.inr 100), some (.inl r2)] [.inl (Z118 100 14), .inr 108] Z118 (zri Q))
                  refine z0 (op := 5) (a := 0) (b := 0) (by rfl) (by rfl) (?_ : TZ (d + 1) 167 74 [some (.inr 100), some (.inl r2)] [.inr 100, .inl (Z118 100 14), .inr 108] Z118 (zri Q))
                  refine z_fi (by rfl) fi114_100 (?_ : TZ (d + 1) 167 77 [some (.inr 100), some (.inl r2)] [.inl (Z118 100 13), .inl (Z118 100 14), .inr 108] Z118 (zri Q))
                  obtain ⟨c119, v⟩ := v
                  obtain ⟨Z120, eZ120⟩ : ∃ q, q = zup Z118 108 (Z118 100 14) (Z118 100 13) := ⟨_, rfl⟩
                  have v := v Z120 eZ120
                  refine z_as (by rfl) ln_108 c119 ?_
                  show TZ (d + 1) 167 78 [some (.inr 100), some (.inl r2)] [] (zup Z118 108 (Z118 100 14) (Z118 100 13)) _
                  rw [← eZ120]
                  refine z0 (op := 5) (a := 0) (b := 0) (by rfl) (by rfl) (?_ : TZ (d + 1) 167 79 [some (.inr 100), some (.inl r2)] [.inr 100] Z120 (zri Q))
                  refine z0 (op := 15) (a := 0) (b := 0) (by rfl) (by rfl) (?_ : TZ (d + 1) 167 80 [some (.inr 100), some (.inl r2)] [.inr 100, .inr 100] Z120 (zri Q))
                  refine z_fi (by rfl) fi114_100 (?_ : TZ (d + 1) 167 83 [some (.inr 100), some (.inl r2)] [.inl (Z120 100 13), .inr 100] Z120 (zri Q))
                  refine z0 (op := 0) (a := 0) (b := 1) (by rfl) (by rfl) (?_ : TZ (d + 1) 167 84 [some (.inr 100), some (.inl r2)] [.inl 1, .inl (Z120 100 13), .inr 100] Z120 (zri Q))
                  refine z0 (op := 12) (a := 0) (b := 0) (by rfl) (by rfl) (?_ : TZ (d + 1) 167 85 [some (.inr 100), some (.inl r2)] [.inl ((Z120 100 13) + 1), .inr 100] Z120 (zri Q))
                  obtain ⟨Z121, eZ121⟩ : ∃ q, q = zup Z120 100 13 ((Z120 100 13) + 1) := ⟨_, rfl⟩
                  have v := v Z121 eZ121
                  refine z_pf (by rfl) pf114_100 (fun h => nomatch h) ?_
                  show TZ (d + 1) 167 88 [some (.inr 100), some (.inl r2)] [] (zup Z120 100 13 ((Z120 100 13) + 1)) _
                  rw [← eZ121]
                  refine z0 (op := 5) (a := 0) (b := 0) (by rfl) (by rfl) (?_ : TZ (d + 1) 167 89 [some (.inr 100), some (.inl r2)] [.inr 100] Z121 (zri Q))
                  refine z0 (op := 3) (a := 1) (b := 0) (by rfl) (by rfl) (?_ : TZ (d + 1) 167 90 [some (.inr 100), some (.inl r2)] [.inl r2, .inr 100] Z121 (zri Q))
                  refine z0 (op := 0) (a := 0) (b := 3) (by rfl) (by rfl) (?_ : TZ (d + 1) 167 91 [some (.inr 100), some (.inl r2)] [.inl 3, .inl r2, .inr 100] Z121 (zri Q))
                  refine z0 (op := 5) (a := 0) (b := 0) (by rfl) (by rfl) (?_ : TZ (d + 1) 167 92 [some (.inr 100), some (.inl r2)] [.inr 100, .inl 3, .inl r2, .inr 100] Z121 (zri Q))
                  refine z_fi (by rfl) fi115_100 (?_ : TZ (d + 1) 167 95 [some (.inr 100), some (.inl r2)] [.inl (Z121 100 14), .inl 3, .inl r2, .inr 100] Z121 (zri Q))
                  refine z0 (op := 12) (a := 2) (b := 0) (by rfl) (by rfl) (?_ : TZ (d + 1) 167 96 [some (.inr 100), some (.inl r2)] [.inl (3 * (Z121 100 14)), .inl r2, .inr 100] Z121 (zri Q))
                  refine z_vi (by rfl) (by rfl) cl_100 (TI.mono v fun r123 Z122 v => ?_)
                  show TZ (d + 1) 167 99 [some (.inr 100), some (.inl r2)] [.inl r123] Z122 (zri Q)
                  obtain ⟨c124, v1, v2⟩ := v
                  refine z_if0 (a := 0) (t := 111) (by rfl) (by rfl) c124 (fun h125 => ?_) (fun h125 => ?_)
                  · have v := v1 h125; clear v1 v2
                    show TZ (d + 1) 167 111 [some (.inr 100), some (.inl r2)] [] Z122 (zri Q)
                    refine z0 (op := 0) (a := 0) (b := 0) (by rfl) (by rfl) (?_ : TZ (d + 1) 167 112 [some (.inr 100), some (.inl r2)] [.inl 0] Z122 (zri Q))
                    exact z_retb (by rfl) (by rfl) (by decide) v
                  · have v := v2 h125; clear v1 v2
                    show TZ (d + 1) 167 102 [some (.inr 100), some (.inl r2)] [] Z122 (zri Q)
                    refine z0 (op := 5) (a := 0) (b := 0) (by rfl) (by rfl) (?_ : TZ (d + 1) 167 103 [some (.inr 100), some (.inl r2)] [.inr 100] Z122 (zri Q))
                    refine z_vi (by rfl) (by rfl) cl_100 (TI.mono v fun r127 Z126 v => ?_)
                    show TZ (d + 1) 167 106 [some (.inr 100), some (.inl r2)] [.inl r127] Z126 (zri Q)
                    refine z0 (op := 1) (a := 0) (b := 59) (by rfl) (by rfl) (?_ : TZ (d + 1) 167 108 [some (.inr 100), some (.inl r2)] [.inl 59, .inl r127] Z126 (zri Q))
                    obtain ⟨c128, v1, v2⟩ := v
                    refine z_if2 (a := 0) (t := 113) (by rfl) (by rfl) c128 (by decide) (fun h129 => ?_) (fun h129 => ?_)
                    · have v := v1 h129; clear v1 v2
                      show TZ (d + 1) 167 113 [some (.inr 100), some (.inl r2)] [] Z126 (zri Q)
                      refine z0 (op := 5) (a := 0) (b := 0) (by rfl) (by rfl) (?_ : TZ (d + 1) 167 114 [some (.inr 100), some (.inl r2)] [.inr 100] Z126 (zri Q))
                      refine z0 (op := 15) (a := 0) (b := 0) (by rfl) (by rfl) (?_ : TZ (d + 1) 167 115 [some (.inr 100), some (.inl r2)] [.inr 100, .inr 100] Z126 (zri Q))
                      refine z_fi (by rfl) fi114_100 (?_ : TZ (d + 1) 167 118 [some (.inr 100), some (.inl r2)] [.inl (Z126 100 13), .inr 100] Z126 (zri Q))
                      refine z0 (op := 0) (a := 0) (b := 1) (by rfl) (by rfl) (?_ : TZ (d + 1) 167 119 [some (.inr 100), some (.inl r2)] [.inl 1, .inl (Z126 100 13), .inr 100] Z126 (zri Q))
                      refine z0 (op := 12) (a := 0) (b := 0) (by rfl) (by rfl) (?_ : TZ (d + 1) 167 120 [some (.inr 100), some (.inl r2)] [.inl ((Z126 100 13) + 1), .inr 100] Z126 (zri Q))
                      obtain ⟨Z130, eZ130⟩ : ∃ q, q = zup Z126 100 13 ((Z126 100 13) + 1) := ⟨_, rfl⟩
                      have v := v Z130 eZ130
                      refine z_pf (by rfl) pf114_100 (fun h => nomatch h) ?_
                      show TZ (d + 1) 167 123 [some (.inr 100), some (.inl r2)] [] (zup Z126 100 13 ((Z126 100 13) + 1)) _
                      rw [← eZ130]
                      refine z0 (op := 0) (a := 0) (b := 1) (by rfl) (by rfl) (?_ : TZ (d + 1) 167 124 [some (.inr 100), some (.inl r2)] [.inl 1] Z130 (zri Q))
                      exact z_retb (by rfl) (by rfl) (by decide) v
                    · have v := v2 h129; clear v1 v2
                      show TZ (d + 1) 167 111 [some (.inr 100), some (.inl r2)] [] Z126 (zri Q)
                      refine z0 (op := 0) (a := 0) (b := 0) (by rfl) (by rfl) (?_ : TZ (d + 1) 167 112 [some (.inr 100), some (.inl r2)] [.inl 0] Z126 (zri Q))
                      exact z_retb (by rfl) (by rfl) (by decide) v
                · have v := v2 h116; clear v1 v2
                  show TZ (d + 1) 167 53 [some (.inr 100), some (.inl r2)] [] Z1 (zri Q)
                  refine z0 (op := 0) (a := 0) (b := 0) (by rfl) (by rfl) (?_ : TZ (d + 1) 167 54 [some (.inr 100), some (.inl r2)] [.inl 0] Z1 (zri Q))
                  exact z_retb (by rfl) (by rfl) (by decide) v
theorem w168_0 {d : Nat} {x1 : Int} {Z : zM} {Q : Int → zM → Prop}
    (v : (0 ≤ x1 ∧ x1 < 144) ∧
      zR (Z 109 x1) ∧
      (5 < (Z 109 x1) → Q 0 Z) ∧
      (¬ 5 < (Z 109 x1) → ((0 ≤ (x1 + 2) ∧ (x1 + 2) < 144) ∧
          TI d 157 [.inr 100, .inl (Z 109 (x1 + 2))] Z (fun r6 Z5 =>
          zR r6 ∧
            (r6 = 0 → Q 0 Z5) ∧
            (¬ r6 = 0 → (zR (Z5 100 5) ∧
                ((Z5 100 5) = 8 → Q 0 Z5) ∧
                (¬ (Z5 100 5) = 8 → ((0 ≤ (x1 + 2) ∧ (x1 + 2) < 144) ∧
                    TI d 160 [.inr 100, .inl (Z5 109 (x1 + 2))] Z5 (fun r13 Z12 =>
                    zR r13 ∧
                      (r13 ≠ 0 → ((0 ≤ x1 ∧ x1 < 144) ∧
                          (0 ≤ (x1 + 1) ∧ (x1 + 1) < 144) ∧
                          (0 ≤ (x1 + 2) ∧ (x1 + 2) < 144) ∧
                          TV d 181 [.inr 100, .inl (Z12 109 x1), .inl (Z12 109 (x1 + 1)), .inl (Z12 109 (x1 + 2))] Z12 (fun Z19 =>
                          Q 1 Z19))) ∧
                      (¬ r13 ≠ 0 → Q 0 Z12)))))))))) :
    TZ (d + 1) 168 0 [some (.inr 100), some (.inl x1)] [] Z (zri Q) := by
  refine z0 (op := 5) (a := 0) (b := 0) (by rfl) (by rfl) (?_ : TZ (d + 1) 168 1 [some (.inr 100), some (.inl x1)] [.inr 100] Z (zri Q))
  refine z_fr (by rfl) fr96_100 (?_ : TZ (d + 1) 168 4 [some (.inr 100), some (.inl x1)] [.inr 109] Z (zri Q))
  refine z0 (op := 3) (a := 1) (b := 0) (by rfl) (by rfl) (?_ : TZ (d + 1) 168 5 [some (.inr 100), some (.inl x1)] [.inl x1, .inr 109] Z (zri Q))
  obtain ⟨c1, v⟩ := v
  refine z_al (by rfl) ln_109 c1 (?_ : TZ (d + 1) 168 6 [some (.inr 100), some (.inl x1)] [.inl (Z 109 x1)] Z (zri Q))
  refine z0 (op := 0) (a := 0) (b := 5) (by rfl) (by rfl) (?_ : TZ (d + 1) 168 7 [some (.inr 100), some (.inl x1)] [.inl 5, .inl (Z 109 x1)] Z (zri Q))
  obtain ⟨c2, v1, v2⟩ := v
  refine z_if2 (a := 4) (t := 49) (by rfl) (by rfl) c2 (by decide) (fun h3 => ?_) (fun h3 => ?_)
  · have v := v1 h3; clear v1 v2
    show TZ (d + 1) 168 49 [some (.inr 100), some (.inl x1)] [] Z (zri Q)
    refine z0 (op := 0) (a := 0) (b := 0) (by rfl) (by rfl) (?_ : TZ (d + 1) 168 50 [some (.inr 100), some (.inl x1)] [.inl 0] Z (zri Q))
    exact z_retb (by rfl) (by rfl) (by decide) v
  · have v := v2 h3; clear v1 v2
    show TZ (d + 1) 168 10 [some (.inr 100), some (.inl x1)] [] Z (zri Q)
    refine z0 (op := 5) (a := 0) (b := 0) (by rfl) (by rfl) (?_ : TZ (d + 1) 168 11 [some (.inr 100), some (.inl x1)] [.inr 100] Z (zri Q))
    refine z0 (op := 5) (a := 0) (b := 0) (by rfl) (by rfl) (?_ : TZ (d + 1) 168 12 [some (.inr 100), some (.inl x1)] [.inr 100, .inr 100] Z (zri Q))
    refine z_fr (by rfl) fr96_100 (?_ : TZ (d + 1) 168 15 [some (.inr 100), some (.inl x1)] [.inr 109, .inr 100] Z (zri Q))
    refine z0 (op := 3) (a := 1) (b := 0) (by rfl) (by rfl) (?_ : TZ (d + 1) 168 16 [some (.inr 100), some (.inl x1)] [.inl x1, .inr 109, .inr 100] Z (zri Q))
    refine z0 (op := 0) (a := 0) (b := 2) (by rfl) (by rfl) (?_ : TZ (d + 1) 168 17 [some (.inr 100), some (.inl x1)] [.inl 2, .inl x1, .inr 109, .inr 100] Z (zri Q))
    refine z0 (op := 12) (a := 0) (b := 0) (by rfl) (by rfl) (?_ : TZ (d + 1) 168 18 [some (.inr 100), some (.inl x1)] [.inl (x1 + 2), .inr 109, .inr 100] Z (zri Q))
    obtain ⟨c4, v⟩ := v
    refine z_al (by rfl) ln_109 c4 (?_ : TZ (d + 1) 168 19 [some (.inr 100), some (.inl x1)] [.inl (Z 109 (x1 + 2)), .inr 100] Z (zri Q))
    refine z_vi (by rfl) (by rfl) cl_100 (TI.mono v fun r6 Z5 v => ?_)
    show TZ (d + 1) 168 22 [some (.inr 100), some (.inl x1)] [.inl r6] Z5 (zri Q)
    obtain ⟨c7, v1, v2⟩ := v
    refine z_if0 (a := 0) (t := 49) (by rfl) (by rfl) c7 (fun h8 => ?_) (fun h8 => ?_)
    · have v := v1 h8; clear v1 v2
      show TZ (d + 1) 168 49 [some (.inr 100), some (.inl x1)] [] Z5 (zri Q)
      refine z0 (op := 0) (a := 0) (b := 0) (by rfl) (by rfl) (?_ : TZ (d + 1) 168 50 [some (.inr 100), some (.inl x1)] [.inl 0] Z5 (zri Q))
      exact z_retb (by rfl) (by rfl) (by decide) v
    · have v := v2 h8; clear v1 v2
      show TZ (d + 1) 168 25 [some (.inr 100), some (.inl x1)] [] Z5 (zri Q)
      refine z0 (op := 5) (a := 0) (b := 0) (by rfl) (by rfl) (?_ : TZ (d + 1) 168 26 [some (.inr 100), some (.inl x1)] [.inr 100] Z5 (zri Q))
      refine z_fi (by rfl) fi111_100 (?_ : TZ (d + 1) 168 29 [some (.inr 100), some (.inl x1)] [.inl (Z5 100 5)] Z5 (zri Q))
      refine z0 (op := 1) (a := 0) (b := 8) (by rfl) (by rfl) (?_ : TZ (d + 1) 168 31 [some (.inr 100), some (.inl x1)] [.inl 8, .inl (Z5 100 5)] Z5 (zri Q))
      obtain ⟨c9, v1, v2⟩ := v
      refine z_if2 (a := 0) (t := 49) (by rfl) (by rfl) c9 (by decide) (fun h10 => ?_) (fun h10 => ?_)
      · have v := v1 h10; clear v1 v2
        show TZ (d + 1) 168 49 [some (.inr 100), some (.inl x1)] [] Z5 (zri Q)
        refine z0 (op := 0) (a := 0) (b := 0) (by rfl) (by rfl) (?_ : TZ (d + 1) 168 50 [some (.inr 100), some (.inl x1)] [.inl 0] Z5 (zri Q))
        exact z_retb (by rfl) (by rfl) (by decide) v
      · have v := v2 h10; clear v1 v2
        show TZ (d + 1) 168 34 [some (.inr 100), some (.inl x1)] [] Z5 (zri Q)
        refine z0 (op := 5) (a := 0) (b := 0) (by rfl) (by rfl) (?_ : TZ (d + 1) 168 35 [some (.inr 100), some (.inl x1)] [.inr 100] Z5 (zri Q))
        refine z0 (op := 5) (a := 0) (b := 0) (by rfl) (by rfl) (?_ : TZ (d + 1) 168 36 [some (.inr 100), some (.inl x1)] [.inr 100, .inr 100] Z5 (zri Q))
        refine z_fr (by rfl) fr96_100 (?_ : TZ (d + 1) 168 39 [some (.inr 100), some (.inl x1)] [.inr 109, .inr 100] Z5 (zri Q))
        refine z0 (op := 3) (a := 1) (b := 0) (by rfl) (by rfl) (?_ : TZ (d + 1) 168 40 [some (.inr 100), some (.inl x1)] [.inl x1, .inr 109, .inr 100] Z5 (zri Q))
        refine z0 (op := 0) (a := 0) (b := 2) (by rfl) (by rfl) (?_ : TZ (d + 1) 168 41 [some (.inr 100), some (.inl x1)] [.inl 2, .inl x1, .inr 109, .inr 100] Z5 (zri Q))
        refine z0 (op := 12) (a := 0) (b := 0) (by rfl) (by rfl) (?_ : TZ (d + 1) 168 42 [some (.inr 100), some (.inl x1)] [.inl (x1 + 2), .inr 109, .inr 100] Z5 (zri Q))
        obtain ⟨c11, v⟩ := v
        refine z_al (by rfl) ln_109 c11 (?_ : TZ (d + 1) 168 43 [some (.inr 100), some (.inl x1)] [.inl (Z5 109 (x1 + 2)), .inr 100] Z5 (zri Q))
        refine z_vi (by rfl) (by rfl) cl_100 (TI.mono v fun r13 Z12 v => ?_)
        show TZ (d + 1) 168 46 [some (.inr 100), some (.inl x1)] [.inl r13] Z12 (zri Q)
        obtain ⟨c14, v1, v2⟩ := v
        refine z_if0 (a := 1) (t := 51) (by rfl) (by rfl) c14 (fun h15 => ?_) (fun h15 => ?_)
        · have v := v1 h15; clear v1 v2
          show TZ (d + 1) 168 51 [some (.inr 100), some (.inl x1)] [] Z12 (zri Q)
          refine z0 (op := 5) (a := 0) (b := 0) (by rfl) (by rfl) (?_ : TZ (d + 1) 168 52 [some (.inr 100), some (.inl x1)] [.inr 100] Z12 (zri Q))
          refine z0 (op := 5) (a := 0) (b := 0) (by rfl) (by rfl) (?_ : TZ (d + 1) 168 53 [some (.inr 100), some (.inl x1)] [.inr 100, .inr 100] Z12 (zri Q))
          refine z_fr (by rfl) fr96_100 (?_ : TZ (d + 1) 168 56 [some (.inr 100), some (.inl x1)] [.inr 109, .inr 100] Z12 (zri Q))
          refine z0 (op := 3) (a := 1) (b := 0) (by rfl) (by rfl) (?_ : TZ (d + 1) 168 57 [some (.inr 100), some (.inl x1)] [.inl x1, .inr 109, .inr 100] Z12 (zri Q))
          obtain ⟨c16, v⟩ := v
          refine z_al (by rfl) ln_109 c16 (?_ : TZ (d + 1) 168 58 [some (.inr 100), some (.inl x1)] [.inl (Z12 109 x1), .inr 100] Z12 (zri Q))
          refine z0 (op := 5) (a := 0) (b := 0) (by rfl) (by rfl) (?_ : TZ (d + 1) 168 59 [some (.inr 100), some (.inl x1)] [.inr 100, .inl (Z12 109 x1), .inr 100] Z12 (zri Q))
          refine z_fr (by rfl) fr96_100 (?_ : TZ (d + 1) 168 62 [some (.inr 100), some (.inl x1)] [.inr 109, .inl (Z12 109 x1), .inr 100] Z12 (zri Q))
          refine z0 (op := 3) (a := 1) (b := 0) (by rfl) (by rfl) (?_ : TZ (d + 1) 168 63 [some (.inr 100), some (.inl x1)] [.inl x1, .inr 109, .inl (Z12 109 x1), .inr 100] Z12 (zri Q))
          refine z0 (op := 0) (a := 0) (b := 1) (by rfl) (by rfl) (?_ : TZ (d + 1) 168 64 [some (.inr 100), some (.inl x1)] [.inl 1, .inl x1, .inr 109, .inl (Z12 109 x1), .inr 100] Z12 (zri Q))
          refine z0 (op := 12) (a := 0) (b := 0) (by rfl) (by rfl) (?_ : TZ (d + 1) 168 65 [some (.inr 100), some (.inl x1)] [.inl (x1 + 1), .inr 109, .inl (Z12 109 x1), .inr 100] Z12 (zri Q))
          obtain ⟨c17, v⟩ := v
          refine z_al (by rfl) ln_109 c17 (?_ : TZ (d + 1) 168 66 [some (.inr 100), some (.inl x1)] [.inl (Z12 109 (x1 + 1)), .inl (Z12 109 x1), .inr 100] Z12 (zri Q))
          refine z0 (op := 5) (a := 0) (b := 0) (by rfl) (by rfl) (?_ : TZ (d + 1) 168 67 [some (.inr 100), some (.inl x1)] [.inr 100, .inl (Z12 109 (x1 + 1)), .inl (Z12 109 x1), .inr 100] Z12 (zri Q))
          refine z_fr (by rfl) fr96_100 (?_ : TZ (d + 1) 168 70 [some (.inr 100), some (.inl x1)] [.inr 109, .inl (Z12 109 (x1 + 1)), .inl (Z12 109 x1), .inr 100] Z12 (zri Q))
          refine z0 (op := 3) (a := 1) (b := 0) (by rfl) (by rfl) (?_ : TZ (d + 1) 168 71 [some (.inr 100), some (.inl x1)] [.inl x1, .inr 109, .inl (Z12 109 (x1 + 1)), .inl (Z12 109 x1), .inr 100] Z12 (zri Q))
          refine z0 (op := 0) (a := 0) (b := 2) (by rfl) (by rfl) (?_ : TZ (d + 1) 168 72 [some (.inr 100), some (.inl x1)] [.inl 2, .inl x1, .inr 109, .inl (Z12 109 (x1 + 1)), .inl (Z12 109 x1), .inr 100] Z12 (zri Q))
          refine z0 (op := 12) (a := 0) (b := 0) (by rfl) (by rfl) (?_ : TZ (d + 1) 168 73 [some (.inr 100), some (.inl x1)] [.inl (x1 + 2), .inr 109, .inl (Z12 109 (x1 + 1)), .inl (Z12 109 x1), .inr 100] Z12 (zri Q))
          obtain ⟨c18, v⟩ := v
          refine z_al (by rfl) ln_109 c18 (?_ : TZ (d + 1) 168 74 [some (.inr 100), some (.inl x1)] [.inl (Z12 109 (x1 + 2)), .inl (Z12 109 (x1 + 1)), .inl (Z12 109 x1), .inr 100] Z12 (zri Q))
          refine z_vv (by rfl) (by rfl) cl_100 (TV.mono v fun Z19 v => ?_)
          show TZ (d + 1) 168 77 [some (.inr 100), some (.inl x1)] [] Z19 (zri Q)
          refine z0 (op := 0) (a := 0) (b := 1) (by rfl) (by rfl) (?_ : TZ (d + 1) 168 78 [some (.inr 100), some (.inl x1)] [.inl 1] Z19 (zri Q))
          exact z_retb (by rfl) (by rfl) (by decide) v
        · have v := v2 h15; clear v1 v2
          show TZ (d + 1) 168 49 [some (.inr 100), some (.inl x1)] [] Z12 (zri Q)
          refine z0 (op := 0) (a := 0) (b := 0) (by rfl) (by rfl) (?_ : TZ (d + 1) 168 50 [some (.inr 100), some (.inl x1)] [.inl 0] Z12 (zri Q))
          exact z_retb (by rfl) (by rfl) (by decide) v
theorem w169_0 {d : Nat} {x1 x2 : Int} {Z : zM} {Q : Int → zM → Prop}
    (v : zR ((Z 100 7) + x1) ∧
      (((Z 100 7) + x1) ≤ 999 → TV d 189 [.inr 100, .inl x1, .inl x2] Z (fun Z3 =>
          Q 1 Z3)) ∧
      (¬ ((Z 100 7) + x1) ≤ 999 → Q 0 Z)) :
    TZ (d + 1) 169 0 [some (.inr 100), some (.inl x1), some (.inl x2)] [] Z (zri Q) := by
  refine z0 (op := 5) (a := 0) (b := 0) (by rfl) (by rfl) (?_ : TZ (d + 1) 169 1 [some (.inr 100), some (.inl x1), some (.inl x2)] [.inr 100] Z (zri Q))
  refine z_fi (by rfl) fi112_100 (?_ : TZ (d + 1) 169 4 [some (.inr 100), some (.inl x1), some (.inl x2)] [.inl (Z 100 7)] Z (zri Q))
  refine z0 (op := 3) (a := 1) (b := 0) (by rfl) (by rfl) (?_ : TZ (d + 1) 169 5 [some (.inr 100), some (.inl x1), some (.inl x2)] [.inl x1, .inl (Z 100 7)] Z (zri Q))
  refine z0 (op := 12) (a := 0) (b := 0) (by rfl) (by rfl) (?_ : TZ (d + 1) 169 6 [some (.inr 100), some (.inl x1), some (.inl x2)] [.inl ((Z 100 7) + x1)] Z (zri Q))
  refine z0 (op := 2) (a := 0) (b := 999) (by rfl) (by rfl) (?_ : TZ (d + 1) 169 9 [some (.inr 100), some (.inl x1), some (.inl x2)] [.inl 999, .inl ((Z 100 7) + x1)] Z (zri Q))
  obtain ⟨c1, v1, v2⟩ := v
  refine z_if2 (a := 5) (t := 14) (by rfl) (by rfl) c1 (by decide) (fun h2 => ?_) (fun h2 => ?_)
  · have v := v1 h2; clear v1 v2
    show TZ (d + 1) 169 14 [some (.inr 100), some (.inl x1), some (.inl x2)] [] Z (zri Q)
    refine z0 (op := 5) (a := 0) (b := 0) (by rfl) (by rfl) (?_ : TZ (d + 1) 169 15 [some (.inr 100), some (.inl x1), some (.inl x2)] [.inr 100] Z (zri Q))
    refine z0 (op := 3) (a := 1) (b := 0) (by rfl) (by rfl) (?_ : TZ (d + 1) 169 16 [some (.inr 100), some (.inl x1), some (.inl x2)] [.inl x1, .inr 100] Z (zri Q))
    refine z0 (op := 3) (a := 2) (b := 0) (by rfl) (by rfl) (?_ : TZ (d + 1) 169 17 [some (.inr 100), some (.inl x1), some (.inl x2)] [.inl x2, .inl x1, .inr 100] Z (zri Q))
    refine z_vv (by rfl) (by rfl) cl_100 (TV.mono v fun Z3 v => ?_)
    show TZ (d + 1) 169 20 [some (.inr 100), some (.inl x1), some (.inl x2)] [] Z3 (zri Q)
    refine z0 (op := 0) (a := 0) (b := 1) (by rfl) (by rfl) (?_ : TZ (d + 1) 169 21 [some (.inr 100), some (.inl x1), some (.inl x2)] [.inl 1] Z3 (zri Q))
    exact z_retb (by rfl) (by rfl) (by decide) v
  · have v := v2 h2; clear v1 v2
    show TZ (d + 1) 169 12 [some (.inr 100), some (.inl x1), some (.inl x2)] [] Z (zri Q)
    refine z0 (op := 0) (a := 0) (b := 0) (by rfl) (by rfl) (?_ : TZ (d + 1) 169 13 [some (.inr 100), some (.inl x1), some (.inl x2)] [.inl 0] Z (zri Q))
    exact z_retb (by rfl) (by rfl) (by decide) v
theorem w170_0 {d : Nat} {x1 : Int} {Z : zM} {Q : Int → zM → Prop}
    (v : (0 ≤ (3 * x1) ∧ (3 * x1) < 144) ∧
      (0 ≤ x1 ∧ x1 < 48) ∧
      zR (Z 107 x1) ∧
      ((Z 107 x1) = 98 → TI d 168 [.inr 100, .inl (3 * x1)] Z (fun r6 Z5 =>
          (r6 = 0 ∨ r6 = 1) ∧ Q r6 Z5)) ∧
      ((Z 107 x1) = 99 → TI d 157 [.inr 100, .inl (Z 109 (3 * x1))] Z (fun r9 Z8 =>
          zR r9 ∧
            (r9 ≠ 0 → TI d 191 [.inr 100, .inl (Z 109 (3 * x1))] Z8 (fun r13 Z12 =>
                Q 1 Z12)) ∧
            (¬ r9 ≠ 0 → Q 0 Z8))) ∧
      ((Z 107 x1) = 102 → TI d 157 [.inr 100, .inl (Z 109 (3 * x1))] Z (fun r15 Z14 =>
          zR r15 ∧
            (r15 = 0 → Q 0 Z14) ∧
            (¬ r15 = 0 → TI d 169 [.inr 100, .inl 1, .inl (Z 109 (3 * x1))] Z14 (fun r19 Z18 =>
                zR r19 ∧
                  (r19 = 0 → Q 0 Z18) ∧
                  (¬ r19 = 0 → Q 1 Z18))))) ∧
      ((Z 107 x1) = 104 → TI d 193 [.inr 100, .inl 1] Z (fun r23 Z22 =>
          Q 1 Z22)) ∧
      ((Z 107 x1) = 110 → TI d 169 [.inr 100, .inl (Z 109 (3 * x1)), .inl (-1)] Z (fun r25 Z24 =>
          (r25 = 0 ∨ r25 = 1) ∧ Q r25 Z24)) ∧
      ((Z 107 x1) = 114 → TI d 193 [.inr 100, .inl 0] Z (fun r28 Z27 =>
          Q 1 Z27)) ∧
      ((Z 107 x1) = 119 → TI d 157 [.inr 100, .inl (Z 109 (3 * x1))] Z (fun r30 Z29 =>
          zR r30 ∧
            (r30 = 0 → Q 0 Z29) ∧
            (¬ r30 = 0 → ((0 ≤ ((3 * x1) + 1) ∧ ((3 * x1) + 1) < 144) ∧
                zR (Z29 109 ((3 * x1) + 1)) ∧
                ((Z29 109 ((3 * x1) + 1)) ≤ 11 → ((0 ≤ ((3 * x1) + 1) ∧ ((3 * x1) + 1) < 144) ∧
                    (0 ≤ (Z 109 (3 * x1)) ∧ (Z 109 (3 * x1)) < 6) ∧
                    ∀ Z38, Z38 = zup Z29 102 (Z 109 (3 * x1)) (Z29 109 ((3 * x1) + 1)) →
                    Q 1 Z38)) ∧
                (¬ (Z29 109 ((3 * x1) + 1)) ≤ 11 → Q 0 Z29))))) ∧
      (((Z 107 x1) ≠ 98 ∧ (Z 107 x1) ≠ 99 ∧ (Z 107 x1) ≠ 102 ∧ (Z 107 x1) ≠ 104 ∧ (Z 107 x1) ≠ 110 ∧ (Z 107 x1) ≠ 114 ∧ (Z 107 x1) ≠ 119) → TV d 194 [.inr 100] Z (fun Z4 =>
          Q 1 Z4))) :
    TZ (d + 1) 170 0 [some (.inr 100), some (.inl x1), none] [] Z (zri Q) := by
  refine z0 (op := 5) (a := 0) (b := 0) (by rfl) (by rfl) (?_ : TZ (d + 1) 170 1 [some (.inr 100), some (.inl x1), none] [.inr 100] Z (zri Q))
  refine z_fr (by rfl) fr96_100 (?_ : TZ (d + 1) 170 4 [some (.inr 100), some (.inl x1), none] [.inr 109] Z (zri Q))
  refine z0 (op := 0) (a := 0) (b := 3) (by rfl) (by rfl) (?_ : TZ (d + 1) 170 5 [some (.inr 100), some (.inl x1), none] [.inl 3, .inr 109] Z (zri Q))
  refine z0 (op := 3) (a := 1) (b := 0) (by rfl) (by rfl) (?_ : TZ (d + 1) 170 6 [some (.inr 100), some (.inl x1), none] [.inl x1, .inl 3, .inr 109] Z (zri Q))
  refine z0 (op := 12) (a := 2) (b := 0) (by rfl) (by rfl) (?_ : TZ (d + 1) 170 7 [some (.inr 100), some (.inl x1), none] [.inl (3 * x1), .inr 109] Z (zri Q))
  obtain ⟨c1, v⟩ := v
  refine z_al (by rfl) ln_109 c1 (?_ : TZ (d + 1) 170 8 [some (.inr 100), some (.inl x1), none] [.inl (Z 109 (3 * x1))] Z (zri Q))
  refine z0 (op := 7) (a := 2) (b := 0) (by rfl) (by rfl) (?_ : TZ (d + 1) 170 9 [some (.inr 100), some (.inl x1), some (.inl (Z 109 (3 * x1)))] [] Z (zri Q))
  refine z0 (op := 5) (a := 0) (b := 0) (by rfl) (by rfl) (?_ : TZ (d + 1) 170 10 [some (.inr 100), some (.inl x1), some (.inl (Z 109 (3 * x1)))] [.inr 100] Z (zri Q))
  refine z_fr (by rfl) fr94_100 (?_ : TZ (d + 1) 170 13 [some (.inr 100), some (.inl x1), some (.inl (Z 109 (3 * x1)))] [.inr 107] Z (zri Q))
  refine z0 (op := 3) (a := 1) (b := 0) (by rfl) (by rfl) (?_ : TZ (d + 1) 170 14 [some (.inr 100), some (.inl x1), some (.inl (Z 109 (3 * x1)))] [.inl x1, .inr 107] Z (zri Q))
  obtain ⟨c2, v⟩ := v
  refine z_al (by rfl) ln_107 c2 (?_ : TZ (d + 1) 170 15 [some (.inr 100), some (.inl x1), some (.inl (Z 109 (3 * x1)))] [.inl (Z 107 x1)] Z (zri Q))
  obtain ⟨c3, v⟩ := v
  obtain ⟨w0, w1, w2, w3, w4, w5, w6, w7⟩ := v
  have hd : (Z 107 x1) ≠ 98 ∧ (Z 107 x1) ≠ 99 ∧ (Z 107 x1) ≠ 102 ∧ (Z 107 x1) ≠ 104 ∧ (Z 107 x1) ≠ 110 ∧ (Z 107 x1) ≠ 114 ∧ (Z 107 x1) ≠ 119 → TZ (d + 1) 170 231 [some (.inr 100), some (.inl x1), some (.inl (Z 109 (3 * x1)))] [] Z (zri Q) := fun hh => by
    have v := w7 hh; clear w0 w1 w2 w3 w4 w5 w6 w7
    refine z0 (op := 5) (a := 0) (b := 0) (by rfl) (by rfl) (?_ : TZ (d + 1) 170 232 [some (.inr 100), some (.inl x1), some (.inl (Z 109 (3 * x1)))] [.inr 100] Z (zri Q))
    refine z_vv (by rfl) (by rfl) cl_100 (TV.mono v fun Z4 v => ?_)
    show TZ (d + 1) 170 235 [some (.inr 100), some (.inl x1), some (.inl (Z 109 (3 * x1)))] [] Z4 (zri Q)
    refine z0 (op := 0) (a := 0) (b := 1) (by rfl) (by rfl) (?_ : TZ (d + 1) 170 236 [some (.inr 100), some (.inl x1), some (.inl (Z 109 (3 * x1)))] [.inl 1] Z4 (zri Q))
    exact z_retb (by rfl) (by rfl) (by decide) v
  have hc0 : (Z 107 x1) = 98 → TZ (d + 1) 170 116 [some (.inr 100), some (.inl x1), some (.inl (Z 109 (3 * x1)))] [] Z (zri Q) := fun hh => by
    have v := w0 hh; clear w0 w1 w2 w3 w4 w5 w6 w7 hd
    refine z0 (op := 5) (a := 0) (b := 0) (by rfl) (by rfl) (?_ : TZ (d + 1) 170 117 [some (.inr 100), some (.inl x1), some (.inl (Z 109 (3 * x1)))] [.inr 100] Z (zri Q))
    refine z0 (op := 0) (a := 0) (b := 3) (by rfl) (by rfl) (?_ : TZ (d + 1) 170 118 [some (.inr 100), some (.inl x1), some (.inl (Z 109 (3 * x1)))] [.inl 3, .inr 100] Z (zri Q))
    refine z0 (op := 3) (a := 1) (b := 0) (by rfl) (by rfl) (?_ : TZ (d + 1) 170 119 [some (.inr 100), some (.inl x1), some (.inl (Z 109 (3 * x1)))] [.inl x1, .inl 3, .inr 100] Z (zri Q))
    refine z0 (op := 12) (a := 2) (b := 0) (by rfl) (by rfl) (?_ : TZ (d + 1) 170 120 [some (.inr 100), some (.inl x1), some (.inl (Z 109 (3 * x1)))] [.inl (3 * x1), .inr 100] Z (zri Q))
    refine z_vi (by rfl) (by rfl) cl_100 (TI.mono v fun r6 Z5 v => ?_)
    show TZ (d + 1) 170 123 [some (.inr 100), some (.inl x1), some (.inl (Z 109 (3 * x1)))] [.inl r6] Z5 (zri Q)
    obtain ⟨c7, v⟩ := v
    exact z_retb (by rfl) (by rfl) c7 v
  have hc1 : (Z 107 x1) = 99 → TZ (d + 1) 170 197 [some (.inr 100), some (.inl x1), some (.inl (Z 109 (3 * x1)))] [] Z (zri Q) := fun hh => by
    have v := w1 hh; clear w0 w1 w2 w3 w4 w5 w6 w7 hd hc0
    refine z0 (op := 5) (a := 0) (b := 0) (by rfl) (by rfl) (?_ : TZ (d + 1) 170 198 [some (.inr 100), some (.inl x1), some (.inl (Z 109 (3 * x1)))] [.inr 100] Z (zri Q))
    refine z0 (op := 3) (a := 2) (b := 0) (by rfl) (by rfl) (?_ : TZ (d + 1) 170 199 [some (.inr 100), some (.inl x1), some (.inl (Z 109 (3 * x1)))] [.inl (Z 109 (3 * x1)), .inr 100] Z (zri Q))
    refine z_vi (by rfl) (by rfl) cl_100 (TI.mono v fun r9 Z8 v => ?_)
    show TZ (d + 1) 170 202 [some (.inr 100), some (.inl x1), some (.inl (Z 109 (3 * x1)))] [.inl r9] Z8 (zri Q)
    obtain ⟨c10, v1, v2⟩ := v
    refine z_if0 (a := 1) (t := 207) (by rfl) (by rfl) c10 (fun h11 => ?_) (fun h11 => ?_)
    · have v := v1 h11; clear v1 v2
      show TZ (d + 1) 170 207 [some (.inr 100), some (.inl x1), some (.inl (Z 109 (3 * x1)))] [] Z8 (zri Q)
      refine z0 (op := 5) (a := 0) (b := 0) (by rfl) (by rfl) (?_ : TZ (d + 1) 170 208 [some (.inr 100), some (.inl x1), some (.inl (Z 109 (3 * x1)))] [.inr 100] Z8 (zri Q))
      refine z0 (op := 3) (a := 2) (b := 0) (by rfl) (by rfl) (?_ : TZ (d + 1) 170 209 [some (.inr 100), some (.inl x1), some (.inl (Z 109 (3 * x1)))] [.inl (Z 109 (3 * x1)), .inr 100] Z8 (zri Q))
      refine z_vi (by rfl) (by rfl) cl_100 (TI.mono v fun r13 Z12 v => ?_)
      show TZ (d + 1) 170 212 [some (.inr 100), some (.inl x1), some (.inl (Z 109 (3 * x1)))] [.inl r13] Z12 (zri Q)
      refine z0 (op := 14) (a := 0) (b := 0) (by rfl) (by rfl) (?_ : TZ (d + 1) 170 213 [some (.inr 100), some (.inl x1), some (.inl (Z 109 (3 * x1)))] [] Z12 (zri Q))
      refine z0 (op := 0) (a := 0) (b := 1) (by rfl) (by rfl) (?_ : TZ (d + 1) 170 214 [some (.inr 100), some (.inl x1), some (.inl (Z 109 (3 * x1)))] [.inl 1] Z12 (zri Q))
      exact z_retb (by rfl) (by rfl) (by decide) v
    · have v := v2 h11; clear v1 v2
      show TZ (d + 1) 170 205 [some (.inr 100), some (.inl x1), some (.inl (Z 109 (3 * x1)))] [] Z8 (zri Q)
      refine z0 (op := 0) (a := 0) (b := 0) (by rfl) (by rfl) (?_ : TZ (d + 1) 170 206 [some (.inr 100), some (.inl x1), some (.inl (Z 109 (3 * x1)))] [.inl 0] Z8 (zri Q))
      exact z_retb (by rfl) (by rfl) (by decide) v
  have hc2 : (Z 107 x1) = 102 → TZ (d + 1) 170 167 [some (.inr 100), some (.inl x1), some (.inl (Z 109 (3 * x1)))] [] Z (zri Q) := fun hh => by
    have v := w2 hh; clear w0 w1 w2 w3 w4 w5 w6 w7 hd hc0 hc1
    refine z0 (op := 5) (a := 0) (b := 0) (by rfl) (by rfl) (?_ : TZ (d + 1) 170 168 [some (.inr 100), some (.inl x1), some (.inl (Z 109 (3 * x1)))] [.inr 100] Z (zri Q))
    refine z0 (op := 3) (a := 2) (b := 0) (by rfl) (by rfl) (?_ : TZ (d + 1) 170 169 [some (.inr 100), some (.inl x1), some (.inl (Z 109 (3 * x1)))] [.inl (Z 109 (3 * x1)), .inr 100] Z (zri Q))
    refine z_vi (by rfl) (by rfl) cl_100 (TI.mono v fun r15 Z14 v => ?_)
    show TZ (d + 1) 170 172 [some (.inr 100), some (.inl x1), some (.inl (Z 109 (3 * x1)))] [.inl r15] Z14 (zri Q)
    obtain ⟨c16, v1, v2⟩ := v
    refine z_if0 (a := 0) (t := 188) (by rfl) (by rfl) c16 (fun h17 => ?_) (fun h17 => ?_)
    · have v := v1 h17; clear v1 v2
      show TZ (d + 1) 170 188 [some (.inr 100), some (.inl x1), some (.inl (Z 109 (3 * x1)))] [] Z14 (zri Q)
      refine z0 (op := 0) (a := 0) (b := 0) (by rfl) (by rfl) (?_ : TZ (d + 1) 170 189 [some (.inr 100), some (.inl x1), some (.inl (Z 109 (3 * x1)))] [.inl 0] Z14 (zri Q))
      exact z_retb (by rfl) (by rfl) (by decide) v
    · have v := v2 h17; clear v1 v2
      show TZ (d + 1) 170 175 [some (.inr 100), some (.inl x1), some (.inl (Z 109 (3 * x1)))] [] Z14 (zri Q)
      refine z0 (op := 5) (a := 0) (b := 0) (by rfl) (by rfl) (?_ : TZ (d + 1) 170 176 [some (.inr 100), some (.inl x1), some (.inl (Z 109 (3 * x1)))] [.inr 100] Z14 (zri Q))
      refine z0 (op := 0) (a := 0) (b := 1) (by rfl) (by rfl) (?_ : TZ (d + 1) 170 177 [some (.inr 100), some (.inl x1), some (.inl (Z 109 (3 * x1)))] [.inl 1, .inr 100] Z14 (zri Q))
      refine z0 (op := 3) (a := 2) (b := 0) (by rfl) (by rfl) (?_ : TZ (d + 1) 170 178 [some (.inr 100), some (.inl x1), some (.inl (Z 109 (3 * x1)))] [.inl (Z 109 (3 * x1)), .inl 1, .inr 100] Z14 (zri Q))
      refine z_vi (by rfl) (by rfl) cl_100 (TI.mono v fun r19 Z18 v => ?_)
      show TZ (d + 1) 170 181 [some (.inr 100), some (.inl x1), some (.inl (Z 109 (3 * x1)))] [.inl r19] Z18 (zri Q)
      obtain ⟨c20, v1, v2⟩ := v
      refine z_if0 (a := 0) (t := 188) (by rfl) (by rfl) c20 (fun h21 => ?_) (fun h21 => ?_)
      · have v := v1 h21; clear v1 v2
        show TZ (d + 1) 170 188 [some (.inr 100), some (.inl x1), some (.inl (Z 109 (3 * x1)))] [] Z18 (zri Q)
        refine z0 (op := 0) (a := 0) (b := 0) (by rfl) (by rfl) (?_ : TZ (d + 1) 170 189 [some (.inr 100), some (.inl x1), some (.inl (Z 109 (3 * x1)))] [.inl 0] Z18 (zri Q))
        exact z_retb (by rfl) (by rfl) (by decide) v
      · have v := v2 h21; clear v1 v2
        show TZ (d + 1) 170 184 [some (.inr 100), some (.inl x1), some (.inl (Z 109 (3 * x1)))] [] Z18 (zri Q)
        refine z0 (op := 0) (a := 0) (b := 1) (by rfl) (by rfl) (?_ : TZ (d + 1) 170 185 [some (.inr 100), some (.inl x1), some (.inl (Z 109 (3 * x1)))] [.inl 1] Z18 (zri Q))
        refine z_goto (t := 189) (by rfl) (by rfl) (?_ : TZ (d + 1) 170 189 [some (.inr 100), some (.inl x1), some (.inl (Z 109 (3 * x1)))] [.inl 1] Z18 (zri Q))
        exact z_retb (by rfl) (by rfl) (by decide) v
  have hc3 : (Z 107 x1) = 104 → TZ (d + 1) 170 215 [some (.inr 100), some (.inl x1), some (.inl (Z 109 (3 * x1)))] [] Z (zri Q) := fun hh => by
    have v := w3 hh; clear w0 w1 w2 w3 w4 w5 w6 w7 hd hc0 hc1 hc2
    refine z0 (op := 5) (a := 0) (b := 0) (by rfl) (by rfl) (?_ : TZ (d + 1) 170 216 [some (.inr 100), some (.inl x1), some (.inl (Z 109 (3 * x1)))] [.inr 100] Z (zri Q))
    refine z0 (op := 0) (a := 0) (b := 1) (by rfl) (by rfl) (?_ : TZ (d + 1) 170 217 [some (.inr 100), some (.inl x1), some (.inl (Z 109 (3 * x1)))] [.inl 1, .inr 100] Z (zri Q))
    refine z_vi (by rfl) (by rfl) cl_100 (TI.mono v fun r23 Z22 v => ?_)
    show TZ (d + 1) 170 220 [some (.inr 100), some (.inl x1), some (.inl (Z 109 (3 * x1)))] [.inl r23] Z22 (zri Q)
    refine z0 (op := 14) (a := 0) (b := 0) (by rfl) (by rfl) (?_ : TZ (d + 1) 170 221 [some (.inr 100), some (.inl x1), some (.inl (Z 109 (3 * x1)))] [] Z22 (zri Q))
    refine z0 (op := 0) (a := 0) (b := 1) (by rfl) (by rfl) (?_ : TZ (d + 1) 170 222 [some (.inr 100), some (.inl x1), some (.inl (Z 109 (3 * x1)))] [.inl 1] Z22 (zri Q))
    exact z_retb (by rfl) (by rfl) (by decide) v
  have hc4 : (Z 107 x1) = 110 → TZ (d + 1) 170 190 [some (.inr 100), some (.inl x1), some (.inl (Z 109 (3 * x1)))] [] Z (zri Q) := fun hh => by
    have v := w4 hh; clear w0 w1 w2 w3 w4 w5 w6 w7 hd hc0 hc1 hc2 hc3
    refine z0 (op := 5) (a := 0) (b := 0) (by rfl) (by rfl) (?_ : TZ (d + 1) 170 191 [some (.inr 100), some (.inl x1), some (.inl (Z 109 (3 * x1)))] [.inr 100] Z (zri Q))
    refine z0 (op := 3) (a := 2) (b := 0) (by rfl) (by rfl) (?_ : TZ (d + 1) 170 192 [some (.inr 100), some (.inl x1), some (.inl (Z 109 (3 * x1)))] [.inl (Z 109 (3 * x1)), .inr 100] Z (zri Q))
    refine z0 (op := 0) (a := 0) (b := (-1)) (by rfl) (by rfl) (?_ : TZ (d + 1) 170 193 [some (.inr 100), some (.inl x1), some (.inl (Z 109 (3 * x1)))] [.inl (-1), .inl (Z 109 (3 * x1)), .inr 100] Z (zri Q))
    refine z_vi (by rfl) (by rfl) cl_100 (TI.mono v fun r25 Z24 v => ?_)
    show TZ (d + 1) 170 196 [some (.inr 100), some (.inl x1), some (.inl (Z 109 (3 * x1)))] [.inl r25] Z24 (zri Q)
    obtain ⟨c26, v⟩ := v
    exact z_retb (by rfl) (by rfl) c26 v
  have hc5 : (Z 107 x1) = 114 → TZ (d + 1) 170 223 [some (.inr 100), some (.inl x1), some (.inl (Z 109 (3 * x1)))] [] Z (zri Q) := fun hh => by
    have v := w5 hh; clear w0 w1 w2 w3 w4 w5 w6 w7 hd hc0 hc1 hc2 hc3 hc4
    refine z0 (op := 5) (a := 0) (b := 0) (by rfl) (by rfl) (?_ : TZ (d + 1) 170 224 [some (.inr 100), some (.inl x1), some (.inl (Z 109 (3 * x1)))] [.inr 100] Z (zri Q))
    refine z0 (op := 0) (a := 0) (b := 0) (by rfl) (by rfl) (?_ : TZ (d + 1) 170 225 [some (.inr 100), some (.inl x1), some (.inl (Z 109 (3 * x1)))] [.inl 0, .inr 100] Z (zri Q))
    refine z_vi (by rfl) (by rfl) cl_100 (TI.mono v fun r28 Z27 v => ?_)
    show TZ (d + 1) 170 228 [some (.inr 100), some (.inl x1), some (.inl (Z 109 (3 * x1)))] [.inl r28] Z27 (zri Q)
    refine z0 (op := 14) (a := 0) (b := 0) (by rfl) (by rfl) (?_ : TZ (d + 1) 170 229 [some (.inr 100), some (.inl x1), some (.inl (Z 109 (3 * x1)))] [] Z27 (zri Q))
    refine z0 (op := 0) (a := 0) (b := 1) (by rfl) (by rfl) (?_ : TZ (d + 1) 170 230 [some (.inr 100), some (.inl x1), some (.inl (Z 109 (3 * x1)))] [.inl 1] Z27 (zri Q))
    exact z_retb (by rfl) (by rfl) (by decide) v
  have hc6 : (Z 107 x1) = 119 → TZ (d + 1) 170 124 [some (.inr 100), some (.inl x1), some (.inl (Z 109 (3 * x1)))] [] Z (zri Q) := fun hh => by
    have v := w6 hh; clear w0 w1 w2 w3 w4 w5 w6 w7 hd hc0 hc1 hc2 hc3 hc4 hc5
    refine z0 (op := 5) (a := 0) (b := 0) (by rfl) (by rfl) (?_ : TZ (d + 1) 170 125 [some (.inr 100), some (.inl x1), some (.inl (Z 109 (3 * x1)))] [.inr 100] Z (zri Q))
    refine z0 (op := 3) (a := 2) (b := 0) (by rfl) (by rfl) (?_ : TZ (d + 1) 170 126 [some (.inr 100), some (.inl x1), some (.inl (Z 109 (3 * x1)))] [.inl (Z 109 (3 * x1)), .inr 100] Z (zri Q))
    refine z_vi (by rfl) (by rfl) cl_100 (TI.mono v fun r30 Z29 v => ?_)
    show TZ (d + 1) 170 129 [some (.inr 100), some (.inl x1), some (.inl (Z 109 (3 * x1)))] [.inl r30] Z29 (zri Q)
    obtain ⟨c31, v1, v2⟩ := v
    refine z_if0 (a := 0) (t := 147) (by rfl) (by rfl) c31 (fun h32 => ?_) (fun h32 => ?_)
    · have v := v1 h32; clear v1 v2
      show TZ (d + 1) 170 147 [some (.inr 100), some (.inl x1), some (.inl (Z 109 (3 * x1)))] [] Z29 (zri Q)
      refine z0 (op := 0) (a := 0) (b := 0) (by rfl) (by rfl) (?_ : TZ (d + 1) 170 148 [some (.inr 100), some (.inl x1), some (.inl (Z 109 (3 * x1)))] [.inl 0] Z29 (zri Q))
      exact z_retb (by rfl) (by rfl) (by decide) v
    · have v := v2 h32; clear v1 v2
      show TZ (d + 1) 170 132 [some (.inr 100), some (.inl x1), some (.inl (Z 109 (3 * x1)))] [] Z29 (zri Q)
      refine z0 (op := 5) (a := 0) (b := 0) (by rfl) (by rfl) (?_ : TZ (d + 1) 170 133 [some (.inr 100), some (.inl x1), some (.inl (Z 109 (3 * x1)))] [.inr 100] Z29 (zri Q))
      refine z_fr (by rfl) fr96_100 (?_ : TZ (d + 1) 170 136 [some (.inr 100), some (.inl x1), some (.inl (Z 109 (3 * x1)))] [.inr 109] Z29 (zri Q))
      refine z0 (op := 0) (a := 0) (b := 3) (by rfl) (by rfl) (?_ : TZ (d + 1) 170 137 [some (.inr 100), some (.inl x1), some (.inl (Z 109 (3 * x1)))] [.inl 3, .inr 109] Z29 (zri Q))
      refine z0 (op := 3) (a := 1) (b := 0) (by rfl) (by rfl) (?_ : TZ (d + 1) 170 138 [some (.inr 100), some (.inl x1), some (.inl (Z 109 (3 * x1)))] [.inl x1, .inl 3, .inr 109] Z29 (zri Q))
      refine z0 (op := 12) (a := 2) (b := 0) (by rfl) (by rfl) (?_ : TZ (d + 1) 170 139 [some (.inr 100), some (.inl x1), some (.inl (Z 109 (3 * x1)))] [.inl (3 * x1), .inr 109] Z29 (zri Q))
      refine z0 (op := 0) (a := 0) (b := 1) (by rfl) (by rfl) (?_ : TZ (d + 1) 170 140 [some (.inr 100), some (.inl x1), some (.inl (Z 109 (3 * x1)))] [.inl 1, .inl (3 * x1), .inr 109] Z29 (zri Q))
      refine z0 (op := 12) (a := 0) (b := 0) (by rfl) (by rfl) (?_ : TZ (d + 1) 170 141 [some (.inr 100), some (.inl x1), some (.inl (Z 109 (3 * x1)))] [.inl ((3 * x1) + 1), .inr 109] Z29 (zri Q))
      obtain ⟨c33, v⟩ := v
      refine z_al (by rfl) ln_109 c33 (?_ : TZ (d + 1) 170 142 [some (.inr 100), some (.inl x1), some (.inl (Z 109 (3 * x1)))] [.inl (Z29 109 ((3 * x1) + 1))] Z29 (zri Q))
      refine z0 (op := 1) (a := 0) (b := 11) (by rfl) (by rfl) (?_ : TZ (d + 1) 170 144 [some (.inr 100), some (.inl x1), some (.inl (Z 109 (3 * x1)))] [.inl 11, .inl (Z29 109 ((3 * x1) + 1))] Z29 (zri Q))
      obtain ⟨c34, v1, v2⟩ := v
      refine z_if2 (a := 5) (t := 149) (by rfl) (by rfl) c34 (by decide) (fun h35 => ?_) (fun h35 => ?_)
      · have v := v1 h35; clear v1 v2
        show TZ (d + 1) 170 149 [some (.inr 100), some (.inl x1), some (.inl (Z 109 (3 * x1)))] [] Z29 (zri Q)
        refine z0 (op := 5) (a := 0) (b := 0) (by rfl) (by rfl) (?_ : TZ (d + 1) 170 150 [some (.inr 100), some (.inl x1), some (.inl (Z 109 (3 * x1)))] [.inr 100] Z29 (zri Q))
        refine z_fr (by rfl) fr89_100 (?_ : TZ (d + 1) 170 153 [some (.inr 100), some (.inl x1), some (.inl (Z 109 (3 * x1)))] [.inr 102] Z29 (zri Q))
        refine z0 (op := 3) (a := 2) (b := 0) (by rfl) (by rfl) (?_ : TZ (d + 1) 170 154 [some (.inr 100), some (.inl x1), some (.inl (Z 109 (3 * x1)))] [.inl (Z 109 (3 * x1)), .inr 102] Z29 (zri Q))
        refine z0 (op := 5) (a := 0) (b := 0) (by rfl) (by rfl) (?_ : TZ (d + 1) 170 155 [some (.inr 100), some (.inl x1), some (.inl (Z 109 (3 * x1)))] [.inr 100, .inl (Z 109 (3 * x1)), .inr 102] Z29 (zri Q))
        refine z_fr (by rfl) fr96_100 (?_ : TZ (d + 1) 170 158 [some (.inr 100), some (.inl x1), some (.inl (Z 109 (3 * x1)))] [.inr 109, .inl (Z 109 (3 * x1)), .inr 102] Z29 (zri Q))
        refine z0 (op := 0) (a := 0) (b := 3) (by rfl) (by rfl) (?_ : TZ (d + 1) 170 159 [some (.inr 100), some (.inl x1), some (.inl (Z 109 (3 * x1)))] [.inl 3, .inr 109, .inl (Z 109 (3 * x1)), .inr 102] Z29 (zri Q))
        refine z0 (op := 3) (a := 1) (b := 0) (by rfl) (by rfl) (?_ : TZ (d + 1) 170 160 [some (.inr 100), some (.inl x1), some (.inl (Z 109 (3 * x1)))] [.inl x1, .inl 3, .inr 109, .inl (Z 109 (3 * x1)), .inr 102] Z29 (zri Q))
        refine z0 (op := 12) (a := 2) (b := 0) (by rfl) (by rfl) (?_ : TZ (d + 1) 170 161 [some (.inr 100), some (.inl x1), some (.inl (Z 109 (3 * x1)))] [.inl (3 * x1), .inr 109, .inl (Z 109 (3 * x1)), .inr 102] Z29 (zri Q))
        refine z0 (op := 0) (a := 0) (b := 1) (by rfl) (by rfl) (?_ : TZ (d + 1) 170 162 [some (.inr 100), some (.inl x1), some (.inl (Z 109 (3 * x1)))] [.inl 1, .inl (3 * x1), .inr 109, .inl (Z 109 (3 * x1)), .inr 102] Z29 (zri Q))
        refine z0 (op := 12) (a := 0) (b := 0) (by rfl) (by rfl) (?_ : TZ (d + 1) 170 163 [some (.inr 100), some (.inl x1), some (.inl (Z 109 (3 * x1)))] [.inl ((3 * x1) + 1), .inr 109, .inl (Z 109 (3 * x1)), .inr 102] Z29 (zri Q))
        obtain ⟨c36, v⟩ := v
        refine z_al (by rfl) ln_109 c36 (?_ : TZ (d + 1) 170 164 [some (.inr 100), some (.inl x1), some (.inl (Z 109 (3 * x1)))] [.inl (Z29 109 ((3 * x1) + 1)), .inl (Z 109 (3 * x1)), .inr 102] Z29 (zri Q))
        obtain ⟨c37, v⟩ := v
        obtain ⟨Z38, eZ38⟩ : ∃ q, q = zup Z29 102 (Z 109 (3 * x1)) (Z29 109 ((3 * x1) + 1)) := ⟨_, rfl⟩
        have v := v Z38 eZ38
        refine z_as (by rfl) ln_102 c37 ?_
        show TZ (d + 1) 170 165 [some (.inr 100), some (.inl x1), some (.inl (Z 109 (3 * x1)))] [] (zup Z29 102 (Z 109 (3 * x1)) (Z29 109 ((3 * x1) + 1))) _
        rw [← eZ38]
        refine z0 (op := 0) (a := 0) (b := 1) (by rfl) (by rfl) (?_ : TZ (d + 1) 170 166 [some (.inr 100), some (.inl x1), some (.inl (Z 109 (3 * x1)))] [.inl 1] Z38 (zri Q))
        exact z_retb (by rfl) (by rfl) (by decide) v
      · have v := v2 h35; clear v1 v2
        show TZ (d + 1) 170 147 [some (.inr 100), some (.inl x1), some (.inl (Z 109 (3 * x1)))] [] Z29 (zri Q)
        refine z0 (op := 0) (a := 0) (b := 0) (by rfl) (by rfl) (?_ : TZ (d + 1) 170 148 [some (.inr 100), some (.inl x1), some (.inl (Z 109 (3 * x1)))] [.inl 0] Z29 (zri Q))
        exact z_retb (by rfl) (by rfl) (by decide) v
  refine z_tsw (t := 231) (by rfl) (by rfl) (by decide) (by rfl) c3 (fun n o hn hx => ?_) (fun hx => hd (by omega))
  match n, hn with
  | 0, hn => have e := Option.some.inj hn; subst e; exact ⟨116, by rfl, hc0 (by omega)⟩
  | 1, hn => have e := Option.some.inj hn; subst e; exact ⟨197, by rfl, hc1 (by omega)⟩
  | 2, hn => have e := Option.some.inj hn; subst e; exact ⟨231, by rfl, hd (by omega)⟩
  | 3, hn => have e := Option.some.inj hn; subst e; exact ⟨231, by rfl, hd (by omega)⟩
  | 4, hn => have e := Option.some.inj hn; subst e; exact ⟨167, by rfl, hc2 (by omega)⟩
  | 5, hn => have e := Option.some.inj hn; subst e; exact ⟨231, by rfl, hd (by omega)⟩
  | 6, hn => have e := Option.some.inj hn; subst e; exact ⟨215, by rfl, hc3 (by omega)⟩
  | 7, hn => have e := Option.some.inj hn; subst e; exact ⟨231, by rfl, hd (by omega)⟩
  | 8, hn => have e := Option.some.inj hn; subst e; exact ⟨231, by rfl, hd (by omega)⟩
  | 9, hn => have e := Option.some.inj hn; subst e; exact ⟨231, by rfl, hd (by omega)⟩
  | 10, hn => have e := Option.some.inj hn; subst e; exact ⟨231, by rfl, hd (by omega)⟩
  | 11, hn => have e := Option.some.inj hn; subst e; exact ⟨231, by rfl, hd (by omega)⟩
  | 12, hn => have e := Option.some.inj hn; subst e; exact ⟨190, by rfl, hc4 (by omega)⟩
  | 13, hn => have e := Option.some.inj hn; subst e; exact ⟨231, by rfl, hd (by omega)⟩
  | 14, hn => have e := Option.some.inj hn; subst e; exact ⟨231, by rfl, hd (by omega)⟩
  | 15, hn => have e := Option.some.inj hn; subst e; exact ⟨231, by rfl, hd (by omega)⟩
  | 16, hn => have e := Option.some.inj hn; subst e; exact ⟨223, by rfl, hc5 (by omega)⟩
  | 17, hn => have e := Option.some.inj hn; subst e; exact ⟨231, by rfl, hd (by omega)⟩
  | 18, hn => have e := Option.some.inj hn; subst e; exact ⟨231, by rfl, hd (by omega)⟩
  | 19, hn => have e := Option.some.inj hn; subst e; exact ⟨231, by rfl, hd (by omega)⟩
  | 20, hn => have e := Option.some.inj hn; subst e; exact ⟨231, by rfl, hd (by omega)⟩
  | 21, hn => have e := Option.some.inj hn; subst e; exact ⟨124, by rfl, hc6 (by omega)⟩
  | n + 22, hn => exact absurd hn (by simp)
theorem w171_0 {d : Nat} {Z : zM} {Q : Int → zM → Prop}
    (v : ∀ Z1, Z1 = zup Z 100 13 0 →
      ∀ Z2, Z2 = zup Z1 100 14 0 →
      TZ d 171 12 [some (.inr 100), some (.inl 1), none] [] Z2 (zri Q)) :
    TZ d 171 0 [some (.inr 100), none, none] [] Z (zri Q) := by
  refine z0 (op := 5) (a := 0) (b := 0) (by rfl) (by rfl) (?_ : TZ d 171 1 [some (.inr 100), none, none] [.inr 100] Z (zri Q))
  refine z0 (op := 0) (a := 0) (b := 0) (by rfl) (by rfl) (?_ : TZ d 171 2 [some (.inr 100), none, none] [.inl 0, .inr 100] Z (zri Q))
  obtain ⟨Z1, eZ1⟩ : ∃ q, q = zup Z 100 13 0 := ⟨_, rfl⟩
  have v := v Z1 eZ1
  refine z_pf (by rfl) pf114_100 (fun h => nomatch h) ?_
  show TZ d 171 5 [some (.inr 100), none, none] [] (zup Z 100 13 0) _
  rw [← eZ1]
  refine z0 (op := 5) (a := 0) (b := 0) (by rfl) (by rfl) (?_ : TZ d 171 6 [some (.inr 100), none, none] [.inr 100] Z1 (zri Q))
  refine z0 (op := 0) (a := 0) (b := 0) (by rfl) (by rfl) (?_ : TZ d 171 7 [some (.inr 100), none, none] [.inl 0, .inr 100] Z1 (zri Q))
  obtain ⟨Z2, eZ2⟩ : ∃ q, q = zup Z1 100 14 0 := ⟨_, rfl⟩
  have v := v Z2 eZ2
  refine z_pf (by rfl) pf115_100 (fun h => nomatch h) ?_
  show TZ d 171 10 [some (.inr 100), none, none] [] (zup Z1 100 14 0) _
  rw [← eZ2]
  refine z0 (op := 0) (a := 0) (b := 1) (by rfl) (by rfl) (?_ : TZ d 171 11 [some (.inr 100), none, none] [.inl 1] Z2 (zri Q))
  refine z0 (op := 7) (a := 1) (b := 0) (by rfl) (by rfl) (?_ : TZ d 171 12 [some (.inr 100), some (.inl 1), none] [] Z2 (zri Q))
  exact v
theorem w171_12 {d : Nat} {x1 : Int} {Z : zM} {Q : Int → zM → Prop}
    (v : zR x1 ∧
      (x1 = 0 → ∀ Z3, Z3 = zup Z 100 12 0 →
          zR x1 ∧
          (x1 ≠ 0 → TV d 174 [.inr 100, .inl 1, .inl 1] Z3 (fun Z6 =>
              TZ (d + 1) 171 86 [some (.inr 100), some (.inl x1), some (.inl 0)] [] Z6 (zri Q))) ∧
          (¬ x1 ≠ 0 → Q ((-1000) - (Z3 100 13)) Z3)) ∧
      (¬ x1 = 0 → (zR (Z 100 13) ∧
          zR (Z 100 12) ∧
          ((Z 100 13) < (Z 100 12) → TI d 167 [.inr 100] Z (fun r11 Z10 =>
              zR r11 ∧
                (r11 = 0 → ∀ Z14, Z14 = zup Z10 100 14 ((Z10 100 14) + 0) →
                    TZ (d + 1) 171 12 [some (.inr 100), some (.inl r11), none] [] Z14 (zri Q)) ∧
                (¬ r11 = 0 → ∀ Z15, Z15 = zup Z10 100 14 ((Z10 100 14) + 1) →
                    TZ (d + 1) 171 12 [some (.inr 100), some (.inl r11), none] [] Z15 (zri Q)))) ∧
          (¬ (Z 100 13) < (Z 100 12) → (zR (Z 100 14) ∧
              ((Z 100 14) ≠ 0 → ∀ Z18, Z18 = zup Z 100 12 0 →
                  zR x1 ∧
                  (x1 ≠ 0 → TV d 174 [.inr 100, .inl 1, .inl 1] Z18 (fun Z21 =>
                      TZ (d + 1) 171 86 [some (.inr 100), some (.inl x1), some (.inl 0)] [] Z21 (zri Q))) ∧
                  (¬ x1 ≠ 0 → Q ((-1000) - (Z18 100 13)) Z18)) ∧
              (¬ (Z 100 14) ≠ 0 → TI d 167 [.inr 100] Z (fun r23 Z22 =>
                  zR r23 ∧
                    (r23 = 0 → ∀ Z26, Z26 = zup Z22 100 14 ((Z22 100 14) + 0) →
                        TZ (d + 1) 171 12 [some (.inr 100), some (.inl r23), none] [] Z26 (zri Q)) ∧
                    (¬ r23 = 0 → ∀ Z27, Z27 = zup Z22 100 14 ((Z22 100 14) + 1) →
                        TZ (d + 1) 171 12 [some (.inr 100), some (.inl r23), none] [] Z27 (zri Q))))))))) :
    TZ (d + 1) 171 12 [some (.inr 100), some (.inl x1), none] [] Z (zri Q) := by
  refine z0 (op := 3) (a := 1) (b := 0) (by rfl) (by rfl) (?_ : TZ (d + 1) 171 13 [some (.inr 100), some (.inl x1), none] [.inl x1] Z (zri Q))
  obtain ⟨c1, v1, v2⟩ := v
  refine z_if0 (a := 0) (t := 60) (by rfl) (by rfl) c1 (fun h2 => ?_) (fun h2 => ?_)
  · have v := v1 h2; clear v1 v2
    show TZ (d + 1) 171 60 [some (.inr 100), some (.inl x1), none] [] Z (zri Q)
    refine z0 (op := 5) (a := 0) (b := 0) (by rfl) (by rfl) (?_ : TZ (d + 1) 171 61 [some (.inr 100), some (.inl x1), none] [.inr 100] Z (zri Q))
    refine z0 (op := 0) (a := 0) (b := 0) (by rfl) (by rfl) (?_ : TZ (d + 1) 171 62 [some (.inr 100), some (.inl x1), none] [.inl 0, .inr 100] Z (zri Q))
    obtain ⟨Z3, eZ3⟩ : ∃ q, q = zup Z 100 12 0 := ⟨_, rfl⟩
    have v := v Z3 eZ3
    refine z_pf (by rfl) pf113_100 (fun h => nomatch h) ?_
    show TZ (d + 1) 171 65 [some (.inr 100), some (.inl x1), none] [] (zup Z 100 12 0) _
    rw [← eZ3]
    refine z0 (op := 3) (a := 1) (b := 0) (by rfl) (by rfl) (?_ : TZ (d + 1) 171 66 [some (.inr 100), some (.inl x1), none] [.inl x1] Z3 (zri Q))
    obtain ⟨c4, v1, v2⟩ := v
    refine z_if0 (a := 1) (t := 78) (by rfl) (by rfl) c4 (fun h5 => ?_) (fun h5 => ?_)
    · have v := v1 h5; clear v1 v2
      show TZ (d + 1) 171 78 [some (.inr 100), some (.inl x1), none] [] Z3 (zri Q)
      refine z0 (op := 5) (a := 0) (b := 0) (by rfl) (by rfl) (?_ : TZ (d + 1) 171 79 [some (.inr 100), some (.inl x1), none] [.inr 100] Z3 (zri Q))
      refine z0 (op := 0) (a := 0) (b := 1) (by rfl) (by rfl) (?_ : TZ (d + 1) 171 80 [some (.inr 100), some (.inl x1), none] [.inl 1, .inr 100] Z3 (zri Q))
      refine z0 (op := 0) (a := 0) (b := 1) (by rfl) (by rfl) (?_ : TZ (d + 1) 171 81 [some (.inr 100), some (.inl x1), none] [.inl 1, .inl 1, .inr 100] Z3 (zri Q))
      refine z_vv (by rfl) (by rfl) cl_100 (TV.mono v fun Z6 v => ?_)
      show TZ (d + 1) 171 84 [some (.inr 100), some (.inl x1), none] [] Z6 (zri Q)
      refine z0 (op := 0) (a := 0) (b := 0) (by rfl) (by rfl) (?_ : TZ (d + 1) 171 85 [some (.inr 100), some (.inl x1), none] [.inl 0] Z6 (zri Q))
      refine z0 (op := 7) (a := 2) (b := 0) (by rfl) (by rfl) (?_ : TZ (d + 1) 171 86 [some (.inr 100), some (.inl x1), some (.inl 0)] [] Z6 (zri Q))
      exact v
    · have v := v2 h5; clear v1 v2
      show TZ (d + 1) 171 69 [some (.inr 100), some (.inl x1), none] [] Z3 (zri Q)
      refine z0 (op := 2) (a := 0) (b := (-1000)) (by rfl) (by rfl) (?_ : TZ (d + 1) 171 72 [some (.inr 100), some (.inl x1), none] [.inl (-1000)] Z3 (zri Q))
      refine z0 (op := 5) (a := 0) (b := 0) (by rfl) (by rfl) (?_ : TZ (d + 1) 171 73 [some (.inr 100), some (.inl x1), none] [.inr 100, .inl (-1000)] Z3 (zri Q))
      refine z_fi (by rfl) fi114_100 (?_ : TZ (d + 1) 171 76 [some (.inr 100), some (.inl x1), none] [.inl (Z3 100 13), .inl (-1000)] Z3 (zri Q))
      refine z0 (op := 12) (a := 1) (b := 0) (by rfl) (by rfl) (?_ : TZ (d + 1) 171 77 [some (.inr 100), some (.inl x1), none] [.inl ((-1000) - (Z3 100 13))] Z3 (zri Q))
      exact z_reti (by rfl) (by rfl) v
  · have v := v2 h2; clear v1 v2
    show TZ (d + 1) 171 16 [some (.inr 100), some (.inl x1), none] [] Z (zri Q)
    refine z0 (op := 5) (a := 0) (b := 0) (by rfl) (by rfl) (?_ : TZ (d + 1) 171 17 [some (.inr 100), some (.inl x1), none] [.inr 100] Z (zri Q))
    refine z_fi (by rfl) fi114_100 (?_ : TZ (d + 1) 171 20 [some (.inr 100), some (.inl x1), none] [.inl (Z 100 13)] Z (zri Q))
    refine z0 (op := 5) (a := 0) (b := 0) (by rfl) (by rfl) (?_ : TZ (d + 1) 171 21 [some (.inr 100), some (.inl x1), none] [.inr 100, .inl (Z 100 13)] Z (zri Q))
    refine z_fi (by rfl) fi113_100 (?_ : TZ (d + 1) 171 24 [some (.inr 100), some (.inl x1), none] [.inl (Z 100 12), .inl (Z 100 13)] Z (zri Q))
    obtain ⟨c7, c8, v1, v2⟩ := v
    refine z_if2 (a := 2) (t := 34) (by rfl) (by rfl) c7 c8 (fun h9 => ?_) (fun h9 => ?_)
    · have v := v1 h9; clear v1 v2
      show TZ (d + 1) 171 34 [some (.inr 100), some (.inl x1), none] [] Z (zri Q)
      refine z0 (op := 5) (a := 0) (b := 0) (by rfl) (by rfl) (?_ : TZ (d + 1) 171 35 [some (.inr 100), some (.inl x1), none] [.inr 100] Z (zri Q))
      refine z_vi (by rfl) (by rfl) cl_100 (TI.mono v fun r11 Z10 v => ?_)
      show TZ (d + 1) 171 38 [some (.inr 100), some (.inl x1), none] [.inl r11] Z10 (zri Q)
      refine z0 (op := 7) (a := 1) (b := 0) (by rfl) (by rfl) (?_ : TZ (d + 1) 171 39 [some (.inr 100), some (.inl r11), none] [] Z10 (zri Q))
      refine z0 (op := 5) (a := 0) (b := 0) (by rfl) (by rfl) (?_ : TZ (d + 1) 171 40 [some (.inr 100), some (.inl r11), none] [.inr 100] Z10 (zri Q))
      refine z0 (op := 15) (a := 0) (b := 0) (by rfl) (by rfl) (?_ : TZ (d + 1) 171 41 [some (.inr 100), some (.inl r11), none] [.inr 100, .inr 100] Z10 (zri Q))
      refine z_fi (by rfl) fi115_100 (?_ : TZ (d + 1) 171 44 [some (.inr 100), some (.inl r11), none] [.inl (Z10 100 14), .inr 100] Z10 (zri Q))
      refine z0 (op := 3) (a := 1) (b := 0) (by rfl) (by rfl) (?_ : TZ (d + 1) 171 45 [some (.inr 100), some (.inl r11), none] [.inl r11, .inl (Z10 100 14), .inr 100] Z10 (zri Q))
      obtain ⟨c12, v1, v2⟩ := v
      refine z_if0 (a := 0) (t := 52) (by rfl) (by rfl) c12 (fun h13 => ?_) (fun h13 => ?_)
      · have v := v1 h13; clear v1 v2
        show TZ (d + 1) 171 52 [some (.inr 100), some (.inl r11), none] [.inl (Z10 100 14), .inr 100] Z10 (zri Q)
        refine z0 (op := 0) (a := 0) (b := 0) (by rfl) (by rfl) (?_ : TZ (d + 1) 171 53 [some (.inr 100), some (.inl r11), none] [.inl 0, .inl (Z10 100 14), .inr 100] Z10 (zri Q))
        refine z0 (op := 12) (a := 0) (b := 0) (by rfl) (by rfl) (?_ : TZ (d + 1) 171 54 [some (.inr 100), some (.inl r11), none] [.inl ((Z10 100 14) + 0), .inr 100] Z10 (zri Q))
        obtain ⟨Z14, eZ14⟩ : ∃ q, q = zup Z10 100 14 ((Z10 100 14) + 0) := ⟨_, rfl⟩
        have v := v Z14 eZ14
        refine z_pf (by rfl) pf115_100 (fun h => nomatch h) ?_
        show TZ (d + 1) 171 57 [some (.inr 100), some (.inl r11), none] [] (zup Z10 100 14 ((Z10 100 14) + 0)) _
        rw [← eZ14]
        refine z_goto (t := 12) (by rfl) (by rfl) (?_ : TZ (d + 1) 171 12 [some (.inr 100), some (.inl r11), none] [] Z14 (zri Q))
        exact v
      · have v := v2 h13; clear v1 v2
        show TZ (d + 1) 171 48 [some (.inr 100), some (.inl r11), none] [.inl (Z10 100 14), .inr 100] Z10 (zri Q)
        refine z0 (op := 0) (a := 0) (b := 1) (by rfl) (by rfl) (?_ : TZ (d + 1) 171 49 [some (.inr 100), some (.inl r11), none] [.inl 1, .inl (Z10 100 14), .inr 100] Z10 (zri Q))
        refine z_goto (t := 53) (by rfl) (by rfl) (?_ : TZ (d + 1) 171 53 [some (.inr 100), some (.inl r11), none] [.inl 1, .inl (Z10 100 14), .inr 100] Z10 (zri Q))
        refine z0 (op := 12) (a := 0) (b := 0) (by rfl) (by rfl) (?_ : TZ (d + 1) 171 54 [some (.inr 100), some (.inl r11), none] [.inl ((Z10 100 14) + 1), .inr 100] Z10 (zri Q))
        obtain ⟨Z15, eZ15⟩ : ∃ q, q = zup Z10 100 14 ((Z10 100 14) + 1) := ⟨_, rfl⟩
        have v := v Z15 eZ15
        refine z_pf (by rfl) pf115_100 (fun h => nomatch h) ?_
        show TZ (d + 1) 171 57 [some (.inr 100), some (.inl r11), none] [] (zup Z10 100 14 ((Z10 100 14) + 1)) _
        rw [← eZ15]
        refine z_goto (t := 12) (by rfl) (by rfl) (?_ : TZ (d + 1) 171 12 [some (.inr 100), some (.inl r11), none] [] Z15 (zri Q))
        exact v
    · have v := v2 h9; clear v1 v2
      show TZ (d + 1) 171 27 [some (.inr 100), some (.inl x1), none] [] Z (zri Q)
      refine z0 (op := 5) (a := 0) (b := 0) (by rfl) (by rfl) (?_ : TZ (d + 1) 171 28 [some (.inr 100), some (.inl x1), none] [.inr 100] Z (zri Q))
      refine z_fi (by rfl) fi115_100 (?_ : TZ (d + 1) 171 31 [some (.inr 100), some (.inl x1), none] [.inl (Z 100 14)] Z (zri Q))
      obtain ⟨c16, v1, v2⟩ := v
      refine z_if0 (a := 1) (t := 60) (by rfl) (by rfl) c16 (fun h17 => ?_) (fun h17 => ?_)
      · have v := v1 h17; clear v1 v2
        show TZ (d + 1) 171 60 [some (.inr 100), some (.inl x1), none] [] Z (zri Q)
        refine z0 (op := 5) (a := 0) (b := 0) (by rfl) (by rfl) (?_ : TZ (d + 1) 171 61 [some (.inr 100), some (.inl x1), none] [.inr 100] Z (zri Q))
        refine z0 (op := 0) (a := 0) (b := 0) (by rfl) (by rfl) (?_ : TZ (d + 1) 171 62 [some (.inr 100), some (.inl x1), none] [.inl 0, .inr 100] Z (zri Q))
        obtain ⟨Z18, eZ18⟩ : ∃ q, q = zup Z 100 12 0 := ⟨_, rfl⟩
        have v := v Z18 eZ18
        refine z_pf (by rfl) pf113_100 (fun h => nomatch h) ?_
        show TZ (d + 1) 171 65 [some (.inr 100), some (.inl x1), none] [] (zup Z 100 12 0) _
        rw [← eZ18]
        refine z0 (op := 3) (a := 1) (b := 0) (by rfl) (by rfl) (?_ : TZ (d + 1) 171 66 [some (.inr 100), some (.inl x1), none] [.inl x1] Z18 (zri Q))
        obtain ⟨c19, v1, v2⟩ := v
        refine z_if0 (a := 1) (t := 78) (by rfl) (by rfl) c19 (fun h20 => ?_) (fun h20 => ?_)
        · have v := v1 h20; clear v1 v2
          show TZ (d + 1) 171 78 [some (.inr 100), some (.inl x1), none] [] Z18 (zri Q)
          refine z0 (op := 5) (a := 0) (b := 0) (by rfl) (by rfl) (?_ : TZ (d + 1) 171 79 [some (.inr 100), some (.inl x1), none] [.inr 100] Z18 (zri Q))
          refine z0 (op := 0) (a := 0) (b := 1) (by rfl) (by rfl) (?_ : TZ (d + 1) 171 80 [some (.inr 100), some (.inl x1), none] [.inl 1, .inr 100] Z18 (zri Q))
          refine z0 (op := 0) (a := 0) (b := 1) (by rfl) (by rfl) (?_ : TZ (d + 1) 171 81 [some (.inr 100), some (.inl x1), none] [.inl 1, .inl 1, .inr 100] Z18 (zri Q))
          refine z_vv (by rfl) (by rfl) cl_100 (TV.mono v fun Z21 v => ?_)
          show TZ (d + 1) 171 84 [some (.inr 100), some (.inl x1), none] [] Z21 (zri Q)
          refine z0 (op := 0) (a := 0) (b := 0) (by rfl) (by rfl) (?_ : TZ (d + 1) 171 85 [some (.inr 100), some (.inl x1), none] [.inl 0] Z21 (zri Q))
          refine z0 (op := 7) (a := 2) (b := 0) (by rfl) (by rfl) (?_ : TZ (d + 1) 171 86 [some (.inr 100), some (.inl x1), some (.inl 0)] [] Z21 (zri Q))
          exact v
        · have v := v2 h20; clear v1 v2
          show TZ (d + 1) 171 69 [some (.inr 100), some (.inl x1), none] [] Z18 (zri Q)
          refine z0 (op := 2) (a := 0) (b := (-1000)) (by rfl) (by rfl) (?_ : TZ (d + 1) 171 72 [some (.inr 100), some (.inl x1), none] [.inl (-1000)] Z18 (zri Q))
          refine z0 (op := 5) (a := 0) (b := 0) (by rfl) (by rfl) (?_ : TZ (d + 1) 171 73 [some (.inr 100), some (.inl x1), none] [.inr 100, .inl (-1000)] Z18 (zri Q))
          refine z_fi (by rfl) fi114_100 (?_ : TZ (d + 1) 171 76 [some (.inr 100), some (.inl x1), none] [.inl (Z18 100 13), .inl (-1000)] Z18 (zri Q))
          refine z0 (op := 12) (a := 1) (b := 0) (by rfl) (by rfl) (?_ : TZ (d + 1) 171 77 [some (.inr 100), some (.inl x1), none] [.inl ((-1000) - (Z18 100 13))] Z18 (zri Q))
          exact z_reti (by rfl) (by rfl) v
      · have v := v2 h17; clear v1 v2
        show TZ (d + 1) 171 34 [some (.inr 100), some (.inl x1), none] [] Z (zri Q)
        refine z0 (op := 5) (a := 0) (b := 0) (by rfl) (by rfl) (?_ : TZ (d + 1) 171 35 [some (.inr 100), some (.inl x1), none] [.inr 100] Z (zri Q))
        refine z_vi (by rfl) (by rfl) cl_100 (TI.mono v fun r23 Z22 v => ?_)
        show TZ (d + 1) 171 38 [some (.inr 100), some (.inl x1), none] [.inl r23] Z22 (zri Q)
        refine z0 (op := 7) (a := 1) (b := 0) (by rfl) (by rfl) (?_ : TZ (d + 1) 171 39 [some (.inr 100), some (.inl r23), none] [] Z22 (zri Q))
        refine z0 (op := 5) (a := 0) (b := 0) (by rfl) (by rfl) (?_ : TZ (d + 1) 171 40 [some (.inr 100), some (.inl r23), none] [.inr 100] Z22 (zri Q))
        refine z0 (op := 15) (a := 0) (b := 0) (by rfl) (by rfl) (?_ : TZ (d + 1) 171 41 [some (.inr 100), some (.inl r23), none] [.inr 100, .inr 100] Z22 (zri Q))
        refine z_fi (by rfl) fi115_100 (?_ : TZ (d + 1) 171 44 [some (.inr 100), some (.inl r23), none] [.inl (Z22 100 14), .inr 100] Z22 (zri Q))
        refine z0 (op := 3) (a := 1) (b := 0) (by rfl) (by rfl) (?_ : TZ (d + 1) 171 45 [some (.inr 100), some (.inl r23), none] [.inl r23, .inl (Z22 100 14), .inr 100] Z22 (zri Q))
        obtain ⟨c24, v1, v2⟩ := v
        refine z_if0 (a := 0) (t := 52) (by rfl) (by rfl) c24 (fun h25 => ?_) (fun h25 => ?_)
        · have v := v1 h25; clear v1 v2
          show TZ (d + 1) 171 52 [some (.inr 100), some (.inl r23), none] [.inl (Z22 100 14), .inr 100] Z22 (zri Q)
          refine z0 (op := 0) (a := 0) (b := 0) (by rfl) (by rfl) (?_ : TZ (d + 1) 171 53 [some (.inr 100), some (.inl r23), none] [.inl 0, .inl (Z22 100 14), .inr 100] Z22 (zri Q))
          refine z0 (op := 12) (a := 0) (b := 0) (by rfl) (by rfl) (?_ : TZ (d + 1) 171 54 [some (.inr 100), some (.inl r23), none] [.inl ((Z22 100 14) + 0), .inr 100] Z22 (zri Q))
          obtain ⟨Z26, eZ26⟩ : ∃ q, q = zup Z22 100 14 ((Z22 100 14) + 0) := ⟨_, rfl⟩
          have v := v Z26 eZ26
          refine z_pf (by rfl) pf115_100 (fun h => nomatch h) ?_
          show TZ (d + 1) 171 57 [some (.inr 100), some (.inl r23), none] [] (zup Z22 100 14 ((Z22 100 14) + 0)) _
          rw [← eZ26]
          refine z_goto (t := 12) (by rfl) (by rfl) (?_ : TZ (d + 1) 171 12 [some (.inr 100), some (.inl r23), none] [] Z26 (zri Q))
          exact v
        · have v := v2 h25; clear v1 v2
          show TZ (d + 1) 171 48 [some (.inr 100), some (.inl r23), none] [.inl (Z22 100 14), .inr 100] Z22 (zri Q)
          refine z0 (op := 0) (a := 0) (b := 1) (by rfl) (by rfl) (?_ : TZ (d + 1) 171 49 [some (.inr 100), some (.inl r23), none] [.inl 1, .inl (Z22 100 14), .inr 100] Z22 (zri Q))
          refine z_goto (t := 53) (by rfl) (by rfl) (?_ : TZ (d + 1) 171 53 [some (.inr 100), some (.inl r23), none] [.inl 1, .inl (Z22 100 14), .inr 100] Z22 (zri Q))
          refine z0 (op := 12) (a := 0) (b := 0) (by rfl) (by rfl) (?_ : TZ (d + 1) 171 54 [some (.inr 100), some (.inl r23), none] [.inl ((Z22 100 14) + 1), .inr 100] Z22 (zri Q))
          obtain ⟨Z27, eZ27⟩ : ∃ q, q = zup Z22 100 14 ((Z22 100 14) + 1) := ⟨_, rfl⟩
          have v := v Z27 eZ27
          refine z_pf (by rfl) pf115_100 (fun h => nomatch h) ?_
          show TZ (d + 1) 171 57 [some (.inr 100), some (.inl r23), none] [] (zup Z22 100 14 ((Z22 100 14) + 1)) _
          rw [← eZ27]
          refine z_goto (t := 12) (by rfl) (by rfl) (?_ : TZ (d + 1) 171 12 [some (.inr 100), some (.inl r23), none] [] Z27 (zri Q))
          exact v
theorem w171_86 {d : Nat} {x1 x2 : Int} {Z : zM} {Q : Int → zM → Prop}
    (v : zR x2 ∧
      zR (Z 100 14) ∧
      ((Z 100 14) ≤ x2 → ∀ Z4, Z4 = zup Z 100 19 0 →
          Q (Z4 100 14) Z4) ∧
      (¬ (Z 100 14) ≤ x2 → TI d 170 [.inr 100, .inl x2] Z (fun r6 Z5 =>
          zR r6 ∧
            (r6 = 0 → TV d 174 [.inr 100, .inl 1, .inl 0] Z5 (fun Z9 =>
                (0 ≤ x2 ∧ x2 < 48) ∧ Q ((-2000) - (Z9 108 x2)) Z9)) ∧
            (¬ r6 = 0 → TZ (d + 1) 171 86 [some (.inr 100), some (.inl x1), some (.inl (x2 + 1))] [] Z5 (zri Q))))) :
    TZ (d + 1) 171 86 [some (.inr 100), some (.inl x1), some (.inl x2)] [] Z (zri Q) := by
  refine z0 (op := 3) (a := 2) (b := 0) (by rfl) (by rfl) (?_ : TZ (d + 1) 171 87 [some (.inr 100), some (.inl x1), some (.inl x2)] [.inl x2] Z (zri Q))
  refine z0 (op := 5) (a := 0) (b := 0) (by rfl) (by rfl) (?_ : TZ (d + 1) 171 88 [some (.inr 100), some (.inl x1), some (.inl x2)] [.inr 100, .inl x2] Z (zri Q))
  refine z_fi (by rfl) fi115_100 (?_ : TZ (d + 1) 171 91 [some (.inr 100), some (.inl x1), some (.inl x2)] [.inl (Z 100 14), .inl x2] Z (zri Q))
  obtain ⟨c1, c2, v1, v2⟩ := v
  refine z_if2 (a := 3) (t := 128) (by rfl) (by rfl) c1 c2 (fun h3 => ?_) (fun h3 => ?_)
  · have v := v1 h3; clear v1 v2
    show TZ (d + 1) 171 128 [some (.inr 100), some (.inl x1), some (.inl x2)] [] Z (zri Q)
    refine z0 (op := 5) (a := 0) (b := 0) (by rfl) (by rfl) (?_ : TZ (d + 1) 171 129 [some (.inr 100), some (.inl x1), some (.inl x2)] [.inr 100] Z (zri Q))
    refine z0 (op := 0) (a := 0) (b := 0) (by rfl) (by rfl) (?_ : TZ (d + 1) 171 130 [some (.inr 100), some (.inl x1), some (.inl x2)] [.inl 0, .inr 100] Z (zri Q))
    obtain ⟨Z4, eZ4⟩ : ∃ q, q = zup Z 100 19 0 := ⟨_, rfl⟩
    have v := v Z4 eZ4
    refine z_pf (by rfl) pf116_100 (fun h => nomatch h) ?_
    show TZ (d + 1) 171 133 [some (.inr 100), some (.inl x1), some (.inl x2)] [] (zup Z 100 19 0) _
    rw [← eZ4]
    refine z0 (op := 5) (a := 0) (b := 0) (by rfl) (by rfl) (?_ : TZ (d + 1) 171 134 [some (.inr 100), some (.inl x1), some (.inl x2)] [.inr 100] Z4 (zri Q))
    refine z_fi (by rfl) fi115_100 (?_ : TZ (d + 1) 171 137 [some (.inr 100), some (.inl x1), some (.inl x2)] [.inl (Z4 100 14)] Z4 (zri Q))
    exact z_reti (by rfl) (by rfl) v
  · have v := v2 h3; clear v1 v2
    show TZ (d + 1) 171 94 [some (.inr 100), some (.inl x1), some (.inl x2)] [] Z (zri Q)
    refine z0 (op := 5) (a := 0) (b := 0) (by rfl) (by rfl) (?_ : TZ (d + 1) 171 95 [some (.inr 100), some (.inl x1), some (.inl x2)] [.inr 100] Z (zri Q))
    refine z0 (op := 3) (a := 2) (b := 0) (by rfl) (by rfl) (?_ : TZ (d + 1) 171 96 [some (.inr 100), some (.inl x1), some (.inl x2)] [.inl x2, .inr 100] Z (zri Q))
    refine z_vi (by rfl) (by rfl) cl_100 (TI.mono v fun r6 Z5 v => ?_)
    show TZ (d + 1) 171 99 [some (.inr 100), some (.inl x1), some (.inl x2)] [.inl r6] Z5 (zri Q)
    obtain ⟨c7, v1, v2⟩ := v
    refine z_if0 (a := 0) (t := 105) (by rfl) (by rfl) c7 (fun h8 => ?_) (fun h8 => ?_)
    · have v := v1 h8; clear v1 v2
      show TZ (d + 1) 171 105 [some (.inr 100), some (.inl x1), some (.inl x2)] [] Z5 (zri Q)
      refine z0 (op := 5) (a := 0) (b := 0) (by rfl) (by rfl) (?_ : TZ (d + 1) 171 106 [some (.inr 100), some (.inl x1), some (.inl x2)] [.inr 100] Z5 (zri Q))
      refine z0 (op := 0) (a := 0) (b := 1) (by rfl) (by rfl) (?_ : TZ (d + 1) 171 107 [some (.inr 100), some (.inl x1), some (.inl x2)] [.inl 1, .inr 100] Z5 (zri Q))
      refine z0 (op := 0) (a := 0) (b := 0) (by rfl) (by rfl) (?_ : TZ (d + 1) 171 108 [some (.inr 100), some (.inl x1), some (.inl x2)] [.inl 0, .inl 1, .inr 100] Z5 (zri Q))
      refine z_vv (by rfl) (by rfl) cl_100 (TV.mono v fun Z9 v => ?_)
      show TZ (d + 1) 171 111 [some (.inr 100), some (.inl x1), some (.inl x2)] [] Z9 (zri Q)
      refine z0 (op := 2) (a := 0) (b := (-2000)) (by rfl) (by rfl) (?_ : TZ (d + 1) 171 114 [some (.inr 100), some (.inl x1), some (.inl x2)] [.inl (-2000)] Z9 (zri Q))
      refine z0 (op := 5) (a := 0) (b := 0) (by rfl) (by rfl) (?_ : TZ (d + 1) 171 115 [some (.inr 100), some (.inl x1), some (.inl x2)] [.inr 100, .inl (-2000)] Z9 (zri Q))
      refine z_fr (by rfl) fr95_100 (?_ : TZ (d + 1) 171 118 [some (.inr 100), some (.inl x1), some (.inl x2)] [.inr 108, .inl (-2000)] Z9 (zri Q))
      refine z0 (op := 3) (a := 2) (b := 0) (by rfl) (by rfl) (?_ : TZ (d + 1) 171 119 [some (.inr 100), some (.inl x1), some (.inl x2)] [.inl x2, .inr 108, .inl (-2000)] Z9 (zri Q))
      obtain ⟨c10, v⟩ := v
      refine z_al (by rfl) ln_108 c10 (?_ : TZ (d + 1) 171 120 [some (.inr 100), some (.inl x1), some (.inl x2)] [.inl (Z9 108 x2), .inl (-2000)] Z9 (zri Q))
      refine z0 (op := 12) (a := 1) (b := 0) (by rfl) (by rfl) (?_ : TZ (d + 1) 171 121 [some (.inr 100), some (.inl x1), some (.inl x2)] [.inl ((-2000) - (Z9 108 x2))] Z9 (zri Q))
      exact z_reti (by rfl) (by rfl) v
    · have v := v2 h8; clear v1 v2
      show TZ (d + 1) 171 102 [some (.inr 100), some (.inl x1), some (.inl x2)] [] Z5 (zri Q)
      refine z_goto (t := 122) (by rfl) (by rfl) (?_ : TZ (d + 1) 171 122 [some (.inr 100), some (.inl x1), some (.inl x2)] [] Z5 (zri Q))
      refine z0 (op := 11) (a := 2) (b := 1) (by rfl) (by rfl) (?_ : TZ (d + 1) 171 125 [some (.inr 100), some (.inl x1), some (.inl (x2 + 1))] [] Z5 (zri Q))
      refine z_goto (t := 86) (by rfl) (by rfl) (?_ : TZ (d + 1) 171 86 [some (.inr 100), some (.inl x1), some (.inl (x2 + 1))] [] Z5 (zri Q))
      exact v
theorem w173_0 {d : Nat} {x1 : Int} {Z : zM} {Q : Int → zM → Prop}
    (v : zR (Z 100 17) ∧
      ((Z 100 17) = 0 → ((0 ≤ (Z 100 18) ∧ (Z 100 18) < 400) ∧
          zR (Z 100 17) ∧
          ((Z 100 17) = 0 → ∀ Z6, Z6 = zup Z 100 18 ((Z 100 18) + 1) →
              Q (Z 110 (Z 100 18)) Z6) ∧
          (¬ (Z 100 17) = 0 → ((0 ≤ (Z 100 18) ∧ (Z 100 18) < 400) ∧
              ∀ Z8, Z8 = zup Z 110 (Z 100 18) x1 →
              ∀ Z9, Z9 = zup Z8 100 18 ((Z8 100 18) + 1) →
              Q (Z 110 (Z 100 18)) Z9)))) ∧
      (¬ (Z 100 17) = 0 → (zR (Z 100 17) ∧
          ((Z 100 17) = 0 → ∀ Z12, Z12 = zup Z 100 18 ((Z 100 18) + 1) →
              Q x1 Z12) ∧
          (¬ (Z 100 17) = 0 → ((0 ≤ (Z 100 18) ∧ (Z 100 18) < 400) ∧
              ∀ Z14, Z14 = zup Z 110 (Z 100 18) x1 →
              ∀ Z15, Z15 = zup Z14 100 18 ((Z14 100 18) + 1) →
              Q x1 Z15))))) :
    TZ d 173 0 [some (.inr 100), some (.inl x1), none] [] Z (zri Q) := by
  refine z0 (op := 5) (a := 0) (b := 0) (by rfl) (by rfl) (?_ : TZ d 173 1 [some (.inr 100), some (.inl x1), none] [.inr 100] Z (zri Q))
  refine z_fi (by rfl) fi117_100 (?_ : TZ d 173 4 [some (.inr 100), some (.inl x1), none] [.inl (Z 100 17)] Z (zri Q))
  obtain ⟨c1, v1, v2⟩ := v
  refine z_if0 (a := 0) (t := 11) (by rfl) (by rfl) c1 (fun h2 => ?_) (fun h2 => ?_)
  · have v := v1 h2; clear v1 v2
    show TZ d 173 11 [some (.inr 100), some (.inl x1), none] [] Z (zri Q)
    refine z0 (op := 5) (a := 0) (b := 0) (by rfl) (by rfl) (?_ : TZ d 173 12 [some (.inr 100), some (.inl x1), none] [.inr 100] Z (zri Q))
    refine z_fr (by rfl) fr97_100 (?_ : TZ d 173 15 [some (.inr 100), some (.inl x1), none] [.inr 110] Z (zri Q))
    refine z0 (op := 5) (a := 0) (b := 0) (by rfl) (by rfl) (?_ : TZ d 173 16 [some (.inr 100), some (.inl x1), none] [.inr 100, .inr 110] Z (zri Q))
    refine z_fi (by rfl) fi118_100 (?_ : TZ d 173 19 [some (.inr 100), some (.inl x1), none] [.inl (Z 100 18), .inr 110] Z (zri Q))
    obtain ⟨c3, v⟩ := v
    refine z_al (by rfl) ln_110 c3 (?_ : TZ d 173 20 [some (.inr 100), some (.inl x1), none] [.inl (Z 110 (Z 100 18))] Z (zri Q))
    refine z0 (op := 7) (a := 2) (b := 0) (by rfl) (by rfl) (?_ : TZ d 173 21 [some (.inr 100), some (.inl x1), some (.inl (Z 110 (Z 100 18)))] [] Z (zri Q))
    refine z0 (op := 5) (a := 0) (b := 0) (by rfl) (by rfl) (?_ : TZ d 173 22 [some (.inr 100), some (.inl x1), some (.inl (Z 110 (Z 100 18)))] [.inr 100] Z (zri Q))
    refine z_fi (by rfl) fi117_100 (?_ : TZ d 173 25 [some (.inr 100), some (.inl x1), some (.inl (Z 110 (Z 100 18)))] [.inl (Z 100 17)] Z (zri Q))
    obtain ⟨c4, v1, v2⟩ := v
    refine z_if0 (a := 0) (t := 38) (by rfl) (by rfl) c4 (fun h5 => ?_) (fun h5 => ?_)
    · have v := v1 h5; clear v1 v2
      show TZ d 173 38 [some (.inr 100), some (.inl x1), some (.inl (Z 110 (Z 100 18)))] [] Z (zri Q)
      refine z0 (op := 5) (a := 0) (b := 0) (by rfl) (by rfl) (?_ : TZ d 173 39 [some (.inr 100), some (.inl x1), some (.inl (Z 110 (Z 100 18)))] [.inr 100] Z (zri Q))
      refine z0 (op := 15) (a := 0) (b := 0) (by rfl) (by rfl) (?_ : TZ d 173 40 [some (.inr 100), some (.inl x1), some (.inl (Z 110 (Z 100 18)))] [.inr 100, .inr 100] Z (zri Q))
      refine z_fi (by rfl) fi118_100 (?_ : TZ d 173 43 [some (.inr 100), some (.inl x1), some (.inl (Z 110 (Z 100 18)))] [.inl (Z 100 18), .inr 100] Z (zri Q))
      refine z0 (op := 0) (a := 0) (b := 1) (by rfl) (by rfl) (?_ : TZ d 173 44 [some (.inr 100), some (.inl x1), some (.inl (Z 110 (Z 100 18)))] [.inl 1, .inl (Z 100 18), .inr 100] Z (zri Q))
      refine z0 (op := 12) (a := 0) (b := 0) (by rfl) (by rfl) (?_ : TZ d 173 45 [some (.inr 100), some (.inl x1), some (.inl (Z 110 (Z 100 18)))] [.inl ((Z 100 18) + 1), .inr 100] Z (zri Q))
      obtain ⟨Z6, eZ6⟩ : ∃ q, q = zup Z 100 18 ((Z 100 18) + 1) := ⟨_, rfl⟩
      have v := v Z6 eZ6
      refine z_pf (by rfl) pf118_100 (fun h => nomatch h) ?_
      show TZ d 173 48 [some (.inr 100), some (.inl x1), some (.inl (Z 110 (Z 100 18)))] [] (zup Z 100 18 ((Z 100 18) + 1)) _
      rw [← eZ6]
      refine z0 (op := 3) (a := 2) (b := 0) (by rfl) (by rfl) (?_ : TZ d 173 49 [some (.inr 100), some (.inl x1), some (.inl (Z 110 (Z 100 18)))] [.inl (Z 110 (Z 100 18))] Z6 (zri Q))
      exact z_reti (by rfl) (by rfl) v
    · have v := v2 h5; clear v1 v2
      show TZ d 173 28 [some (.inr 100), some (.inl x1), some (.inl (Z 110 (Z 100 18)))] [] Z (zri Q)
      refine z0 (op := 5) (a := 0) (b := 0) (by rfl) (by rfl) (?_ : TZ d 173 29 [some (.inr 100), some (.inl x1), some (.inl (Z 110 (Z 100 18)))] [.inr 100] Z (zri Q))
      refine z_fr (by rfl) fr97_100 (?_ : TZ d 173 32 [some (.inr 100), some (.inl x1), some (.inl (Z 110 (Z 100 18)))] [.inr 110] Z (zri Q))
      refine z0 (op := 5) (a := 0) (b := 0) (by rfl) (by rfl) (?_ : TZ d 173 33 [some (.inr 100), some (.inl x1), some (.inl (Z 110 (Z 100 18)))] [.inr 100, .inr 110] Z (zri Q))
      refine z_fi (by rfl) fi118_100 (?_ : TZ d 173 36 [some (.inr 100), some (.inl x1), some (.inl (Z 110 (Z 100 18)))] [.inl (Z 100 18), .inr 110] Z (zri Q))
      refine z0 (op := 3) (a := 1) (b := 0) (by rfl) (by rfl) (?_ : TZ d 173 37 [some (.inr 100), some (.inl x1), some (.inl (Z 110 (Z 100 18)))] [.inl x1, .inl (Z 100 18), .inr 110] Z (zri Q))
      obtain ⟨c7, v⟩ := v
      obtain ⟨Z8, eZ8⟩ : ∃ q, q = zup Z 110 (Z 100 18) x1 := ⟨_, rfl⟩
      have v := v Z8 eZ8
      refine z_as (by rfl) ln_110 c7 ?_
      show TZ d 173 38 [some (.inr 100), some (.inl x1), some (.inl (Z 110 (Z 100 18)))] [] (zup Z 110 (Z 100 18) x1) _
      rw [← eZ8]
      refine z0 (op := 5) (a := 0) (b := 0) (by rfl) (by rfl) (?_ : TZ d 173 39 [some (.inr 100), some (.inl x1), some (.inl (Z 110 (Z 100 18)))] [.inr 100] Z8 (zri Q))
      refine z0 (op := 15) (a := 0) (b := 0) (by rfl) (by rfl) (?_ : TZ d 173 40 [some (.inr 100), some (.inl x1), some (.inl (Z 110 (Z 100 18)))] [.inr 100, .inr 100] Z8 (zri Q))
      refine z_fi (by rfl) fi118_100 (?_ : TZ d 173 43 [some (.inr 100), some (.inl x1), some (.inl (Z 110 (Z 100 18)))] [.inl (Z8 100 18), .inr 100] Z8 (zri Q))
      refine z0 (op := 0) (a := 0) (b := 1) (by rfl) (by rfl) (?_ : TZ d 173 44 [some (.inr 100), some (.inl x1), some (.inl (Z 110 (Z 100 18)))] [.inl 1, .inl (Z8 100 18), .inr 100] Z8 (zri Q))
      refine z0 (op := 12) (a := 0) (b := 0) (by rfl) (by rfl) (?_ : TZ d 173 45 [some (.inr 100), some (.inl x1), some (.inl (Z 110 (Z 100 18)))] [.inl ((Z8 100 18) + 1), .inr 100] Z8 (zri Q))
      obtain ⟨Z9, eZ9⟩ : ∃ q, q = zup Z8 100 18 ((Z8 100 18) + 1) := ⟨_, rfl⟩
      have v := v Z9 eZ9
      refine z_pf (by rfl) pf118_100 (fun h => nomatch h) ?_
      show TZ d 173 48 [some (.inr 100), some (.inl x1), some (.inl (Z 110 (Z 100 18)))] [] (zup Z8 100 18 ((Z8 100 18) + 1)) _
      rw [← eZ9]
      refine z0 (op := 3) (a := 2) (b := 0) (by rfl) (by rfl) (?_ : TZ d 173 49 [some (.inr 100), some (.inl x1), some (.inl (Z 110 (Z 100 18)))] [.inl (Z 110 (Z 100 18))] Z9 (zri Q))
      exact z_reti (by rfl) (by rfl) v
  · have v := v2 h2; clear v1 v2
    show TZ d 173 7 [some (.inr 100), some (.inl x1), none] [] Z (zri Q)
    refine z0 (op := 3) (a := 1) (b := 0) (by rfl) (by rfl) (?_ : TZ d 173 8 [some (.inr 100), some (.inl x1), none] [.inl x1] Z (zri Q))
    refine z_goto (t := 20) (by rfl) (by rfl) (?_ : TZ d 173 20 [some (.inr 100), some (.inl x1), none] [.inl x1] Z (zri Q))
    refine z0 (op := 7) (a := 2) (b := 0) (by rfl) (by rfl) (?_ : TZ d 173 21 [some (.inr 100), some (.inl x1), some (.inl x1)] [] Z (zri Q))
    refine z0 (op := 5) (a := 0) (b := 0) (by rfl) (by rfl) (?_ : TZ d 173 22 [some (.inr 100), some (.inl x1), some (.inl x1)] [.inr 100] Z (zri Q))
    refine z_fi (by rfl) fi117_100 (?_ : TZ d 173 25 [some (.inr 100), some (.inl x1), some (.inl x1)] [.inl (Z 100 17)] Z (zri Q))
    obtain ⟨c10, v1, v2⟩ := v
    refine z_if0 (a := 0) (t := 38) (by rfl) (by rfl) c10 (fun h11 => ?_) (fun h11 => ?_)
    · have v := v1 h11; clear v1 v2
      show TZ d 173 38 [some (.inr 100), some (.inl x1), some (.inl x1)] [] Z (zri Q)
      refine z0 (op := 5) (a := 0) (b := 0) (by rfl) (by rfl) (?_ : TZ d 173 39 [some (.inr 100), some (.inl x1), some (.inl x1)] [.inr 100] Z (zri Q))
      refine z0 (op := 15) (a := 0) (b := 0) (by rfl) (by rfl) (?_ : TZ d 173 40 [some (.inr 100), some (.inl x1), some (.inl x1)] [.inr 100, .inr 100] Z (zri Q))
      refine z_fi (by rfl) fi118_100 (?_ : TZ d 173 43 [some (.inr 100), some (.inl x1), some (.inl x1)] [.inl (Z 100 18), .inr 100] Z (zri Q))
      refine z0 (op := 0) (a := 0) (b := 1) (by rfl) (by rfl) (?_ : TZ d 173 44 [some (.inr 100), some (.inl x1), some (.inl x1)] [.inl 1, .inl (Z 100 18), .inr 100] Z (zri Q))
      refine z0 (op := 12) (a := 0) (b := 0) (by rfl) (by rfl) (?_ : TZ d 173 45 [some (.inr 100), some (.inl x1), some (.inl x1)] [.inl ((Z 100 18) + 1), .inr 100] Z (zri Q))
      obtain ⟨Z12, eZ12⟩ : ∃ q, q = zup Z 100 18 ((Z 100 18) + 1) := ⟨_, rfl⟩
      have v := v Z12 eZ12
      refine z_pf (by rfl) pf118_100 (fun h => nomatch h) ?_
      show TZ d 173 48 [some (.inr 100), some (.inl x1), some (.inl x1)] [] (zup Z 100 18 ((Z 100 18) + 1)) _
      rw [← eZ12]
      refine z0 (op := 3) (a := 2) (b := 0) (by rfl) (by rfl) (?_ : TZ d 173 49 [some (.inr 100), some (.inl x1), some (.inl x1)] [.inl x1] Z12 (zri Q))
      exact z_reti (by rfl) (by rfl) v
    · have v := v2 h11; clear v1 v2
      show TZ d 173 28 [some (.inr 100), some (.inl x1), some (.inl x1)] [] Z (zri Q)
      refine z0 (op := 5) (a := 0) (b := 0) (by rfl) (by rfl) (?_ : TZ d 173 29 [some (.inr 100), some (.inl x1), some (.inl x1)] [.inr 100] Z (zri Q))
      refine z_fr (by rfl) fr97_100 (?_ : TZ d 173 32 [some (.inr 100), some (.inl x1), some (.inl x1)] [.inr 110] Z (zri Q))
      refine z0 (op := 5) (a := 0) (b := 0) (by rfl) (by rfl) (?_ : TZ d 173 33 [some (.inr 100), some (.inl x1), some (.inl x1)] [.inr 100, .inr 110] Z (zri Q))
      refine z_fi (by rfl) fi118_100 (?_ : TZ d 173 36 [some (.inr 100), some (.inl x1), some (.inl x1)] [.inl (Z 100 18), .inr 110] Z (zri Q))
      refine z0 (op := 3) (a := 1) (b := 0) (by rfl) (by rfl) (?_ : TZ d 173 37 [some (.inr 100), some (.inl x1), some (.inl x1)] [.inl x1, .inl (Z 100 18), .inr 110] Z (zri Q))
      obtain ⟨c13, v⟩ := v
      obtain ⟨Z14, eZ14⟩ : ∃ q, q = zup Z 110 (Z 100 18) x1 := ⟨_, rfl⟩
      have v := v Z14 eZ14
      refine z_as (by rfl) ln_110 c13 ?_
      show TZ d 173 38 [some (.inr 100), some (.inl x1), some (.inl x1)] [] (zup Z 110 (Z 100 18) x1) _
      rw [← eZ14]
      refine z0 (op := 5) (a := 0) (b := 0) (by rfl) (by rfl) (?_ : TZ d 173 39 [some (.inr 100), some (.inl x1), some (.inl x1)] [.inr 100] Z14 (zri Q))
      refine z0 (op := 15) (a := 0) (b := 0) (by rfl) (by rfl) (?_ : TZ d 173 40 [some (.inr 100), some (.inl x1), some (.inl x1)] [.inr 100, .inr 100] Z14 (zri Q))
      refine z_fi (by rfl) fi118_100 (?_ : TZ d 173 43 [some (.inr 100), some (.inl x1), some (.inl x1)] [.inl (Z14 100 18), .inr 100] Z14 (zri Q))
      refine z0 (op := 0) (a := 0) (b := 1) (by rfl) (by rfl) (?_ : TZ d 173 44 [some (.inr 100), some (.inl x1), some (.inl x1)] [.inl 1, .inl (Z14 100 18), .inr 100] Z14 (zri Q))
      refine z0 (op := 12) (a := 0) (b := 0) (by rfl) (by rfl) (?_ : TZ d 173 45 [some (.inr 100), some (.inl x1), some (.inl x1)] [.inl ((Z14 100 18) + 1), .inr 100] Z14 (zri Q))
      obtain ⟨Z15, eZ15⟩ : ∃ q, q = zup Z14 100 18 ((Z14 100 18) + 1) := ⟨_, rfl⟩
      have v := v Z15 eZ15
      refine z_pf (by rfl) pf118_100 (fun h => nomatch h) ?_
      show TZ d 173 48 [some (.inr 100), some (.inl x1), some (.inl x1)] [] (zup Z14 100 18 ((Z14 100 18) + 1)) _
      rw [← eZ15]
      refine z0 (op := 3) (a := 2) (b := 0) (by rfl) (by rfl) (?_ : TZ d 173 49 [some (.inr 100), some (.inl x1), some (.inl x1)] [.inl x1] Z15 (zri Q))
      exact z_reti (by rfl) (by rfl) v
theorem w174_0 {d : Nat} {x1 x2 : Int} {Z : zM} {Q : zM → Prop}
    (v : ∀ Z1, Z1 = zup Z 100 18 (35 * x1) →
      (x2 = 0 ∨ x2 = 1) ∧
      ∀ Z2, Z2 = zup Z1 100 17 x2 →
      TV d 172 [.inr 100, .inr 102] Z2 (fun Z4 =>
      TV d 172 [.inr 100, .inr 103] Z4 (fun Z5 =>
        TV d 172 [.inr 100, .inr 104] Z5 (fun Z6 =>
          TV d 172 [.inr 100, .inr 105] Z6 (fun Z7 =>
            TI d 173 [.inr 100, .inl (Z7 100 5)] Z7 (fun r9 Z8 =>
              ∀ Z10, Z10 = zup Z8 100 5 r9 →
                TI d 173 [.inr 100, .inl (Z10 100 6)] Z10 (fun r12 Z11 =>
                ∀ Z13, Z13 = zup Z11 100 6 r12 →
                  TI d 173 [.inr 100, .inl (Z13 100 7)] Z13 (fun r15 Z14 =>
                  ∀ Z16, Z16 = zup Z14 100 7 r15 →
                    Q Z16)))))))) :
    TZ (d + 1) 174 0 [some (.inr 100), some (.inl x1), some (.inl x2)] [] Z (zrv Q) := by
  refine z0 (op := 5) (a := 0) (b := 0) (by rfl) (by rfl) (?_ : TZ (d + 1) 174 1 [some (.inr 100), some (.inl x1), some (.inl x2)] [.inr 100] Z (zrv Q))
  refine z0 (op := 1) (a := 0) (b := 35) (by rfl) (by rfl) (?_ : TZ (d + 1) 174 3 [some (.inr 100), some (.inl x1), some (.inl x2)] [.inl 35, .inr 100] Z (zrv Q))
  refine z0 (op := 3) (a := 1) (b := 0) (by rfl) (by rfl) (?_ : TZ (d + 1) 174 4 [some (.inr 100), some (.inl x1), some (.inl x2)] [.inl x1, .inl 35, .inr 100] Z (zrv Q))
  refine z0 (op := 12) (a := 2) (b := 0) (by rfl) (by rfl) (?_ : TZ (d + 1) 174 5 [some (.inr 100), some (.inl x1), some (.inl x2)] [.inl (35 * x1), .inr 100] Z (zrv Q))
  obtain ⟨Z1, eZ1⟩ : ∃ q, q = zup Z 100 18 (35 * x1) := ⟨_, rfl⟩
  have v := v Z1 eZ1
  refine z_pf (by rfl) pf118_100 (fun h => nomatch h) ?_
  show TZ (d + 1) 174 8 [some (.inr 100), some (.inl x1), some (.inl x2)] [] (zup Z 100 18 (35 * x1)) _
  rw [← eZ1]
  refine z0 (op := 5) (a := 0) (b := 0) (by rfl) (by rfl) (?_ : TZ (d + 1) 174 9 [some (.inr 100), some (.inl x1), some (.inl x2)] [.inr 100] Z1 (zrv Q))
  refine z0 (op := 3) (a := 2) (b := 0) (by rfl) (by rfl) (?_ : TZ (d + 1) 174 10 [some (.inr 100), some (.inl x1), some (.inl x2)] [.inl x2, .inr 100] Z1 (zrv Q))
  obtain ⟨c3, v⟩ := v
  obtain ⟨Z2, eZ2⟩ : ∃ q, q = zup Z1 100 17 x2 := ⟨_, rfl⟩
  have v := v Z2 eZ2
  refine z_pf (by rfl) pf117_100 (fun _ => c3) ?_
  show TZ (d + 1) 174 13 [some (.inr 100), some (.inl x1), some (.inl x2)] [] (zup Z1 100 17 x2) _
  rw [← eZ2]
  refine z0 (op := 5) (a := 0) (b := 0) (by rfl) (by rfl) (?_ : TZ (d + 1) 174 14 [some (.inr 100), some (.inl x1), some (.inl x2)] [.inr 100] Z2 (zrv Q))
  refine z0 (op := 5) (a := 0) (b := 0) (by rfl) (by rfl) (?_ : TZ (d + 1) 174 15 [some (.inr 100), some (.inl x1), some (.inl x2)] [.inr 100, .inr 100] Z2 (zrv Q))
  refine z_fr (by rfl) fr89_100 (?_ : TZ (d + 1) 174 18 [some (.inr 100), some (.inl x1), some (.inl x2)] [.inr 102, .inr 100] Z2 (zrv Q))
  refine z_vv (by rfl) (by rfl) cl_100 (TV.mono v fun Z4 v => ?_)
  show TZ (d + 1) 174 21 [some (.inr 100), some (.inl x1), some (.inl x2)] [] Z4 (zrv Q)
  refine z0 (op := 5) (a := 0) (b := 0) (by rfl) (by rfl) (?_ : TZ (d + 1) 174 22 [some (.inr 100), some (.inl x1), some (.inl x2)] [.inr 100] Z4 (zrv Q))
  refine z0 (op := 5) (a := 0) (b := 0) (by rfl) (by rfl) (?_ : TZ (d + 1) 174 23 [some (.inr 100), some (.inl x1), some (.inl x2)] [.inr 100, .inr 100] Z4 (zrv Q))
  refine z_fr (by rfl) fr90_100 (?_ : TZ (d + 1) 174 26 [some (.inr 100), some (.inl x1), some (.inl x2)] [.inr 103, .inr 100] Z4 (zrv Q))
  refine z_vv (by rfl) (by rfl) cl_100 (TV.mono v fun Z5 v => ?_)
  show TZ (d + 1) 174 29 [some (.inr 100), some (.inl x1), some (.inl x2)] [] Z5 (zrv Q)
  refine z0 (op := 5) (a := 0) (b := 0) (by rfl) (by rfl) (?_ : TZ (d + 1) 174 30 [some (.inr 100), some (.inl x1), some (.inl x2)] [.inr 100] Z5 (zrv Q))
  refine z0 (op := 5) (a := 0) (b := 0) (by rfl) (by rfl) (?_ : TZ (d + 1) 174 31 [some (.inr 100), some (.inl x1), some (.inl x2)] [.inr 100, .inr 100] Z5 (zrv Q))
  refine z_fr (by rfl) fr91_100 (?_ : TZ (d + 1) 174 34 [some (.inr 100), some (.inl x1), some (.inl x2)] [.inr 104, .inr 100] Z5 (zrv Q))
  refine z_vv (by rfl) (by rfl) cl_100 (TV.mono v fun Z6 v => ?_)
  show TZ (d + 1) 174 37 [some (.inr 100), some (.inl x1), some (.inl x2)] [] Z6 (zrv Q)
  refine z0 (op := 5) (a := 0) (b := 0) (by rfl) (by rfl) (?_ : TZ (d + 1) 174 38 [some (.inr 100), some (.inl x1), some (.inl x2)] [.inr 100] Z6 (zrv Q))
  refine z0 (op := 5) (a := 0) (b := 0) (by rfl) (by rfl) (?_ : TZ (d + 1) 174 39 [some (.inr 100), some (.inl x1), some (.inl x2)] [.inr 100, .inr 100] Z6 (zrv Q))
  refine z_fr (by rfl) fr92_100 (?_ : TZ (d + 1) 174 42 [some (.inr 100), some (.inl x1), some (.inl x2)] [.inr 105, .inr 100] Z6 (zrv Q))
  refine z_vv (by rfl) (by rfl) cl_100 (TV.mono v fun Z7 v => ?_)
  show TZ (d + 1) 174 45 [some (.inr 100), some (.inl x1), some (.inl x2)] [] Z7 (zrv Q)
  refine z0 (op := 5) (a := 0) (b := 0) (by rfl) (by rfl) (?_ : TZ (d + 1) 174 46 [some (.inr 100), some (.inl x1), some (.inl x2)] [.inr 100] Z7 (zrv Q))
  refine z0 (op := 5) (a := 0) (b := 0) (by rfl) (by rfl) (?_ : TZ (d + 1) 174 47 [some (.inr 100), some (.inl x1), some (.inl x2)] [.inr 100, .inr 100] Z7 (zrv Q))
  refine z0 (op := 5) (a := 0) (b := 0) (by rfl) (by rfl) (?_ : TZ (d + 1) 174 48 [some (.inr 100), some (.inl x1), some (.inl x2)] [.inr 100, .inr 100, .inr 100] Z7 (zrv Q))
  refine z_fi (by rfl) fi111_100 (?_ : TZ (d + 1) 174 51 [some (.inr 100), some (.inl x1), some (.inl x2)] [.inl (Z7 100 5), .inr 100, .inr 100] Z7 (zrv Q))
  refine z_vi (by rfl) (by rfl) cl_100 (TI.mono v fun r9 Z8 v => ?_)
  show TZ (d + 1) 174 54 [some (.inr 100), some (.inl x1), some (.inl x2)] [.inl r9, .inr 100] Z8 (zrv Q)
  obtain ⟨Z10, eZ10⟩ : ∃ q, q = zup Z8 100 5 r9 := ⟨_, rfl⟩
  have v := v Z10 eZ10
  refine z_pf (by rfl) pf111_100 (fun h => nomatch h) ?_
  show TZ (d + 1) 174 57 [some (.inr 100), some (.inl x1), some (.inl x2)] [] (zup Z8 100 5 r9) _
  rw [← eZ10]
  refine z0 (op := 5) (a := 0) (b := 0) (by rfl) (by rfl) (?_ : TZ (d + 1) 174 58 [some (.inr 100), some (.inl x1), some (.inl x2)] [.inr 100] Z10 (zrv Q))
  refine z0 (op := 5) (a := 0) (b := 0) (by rfl) (by rfl) (?_ : TZ (d + 1) 174 59 [some (.inr 100), some (.inl x1), some (.inl x2)] [.inr 100, .inr 100] Z10 (zrv Q))
  refine z0 (op := 5) (a := 0) (b := 0) (by rfl) (by rfl) (?_ : TZ (d + 1) 174 60 [some (.inr 100), some (.inl x1), some (.inl x2)] [.inr 100, .inr 100, .inr 100] Z10 (zrv Q))
  refine z_fi (by rfl) fi110_100 (?_ : TZ (d + 1) 174 63 [some (.inr 100), some (.inl x1), some (.inl x2)] [.inl (Z10 100 6), .inr 100, .inr 100] Z10 (zrv Q))
  refine z_vi (by rfl) (by rfl) cl_100 (TI.mono v fun r12 Z11 v => ?_)
  show TZ (d + 1) 174 66 [some (.inr 100), some (.inl x1), some (.inl x2)] [.inl r12, .inr 100] Z11 (zrv Q)
  obtain ⟨Z13, eZ13⟩ : ∃ q, q = zup Z11 100 6 r12 := ⟨_, rfl⟩
  have v := v Z13 eZ13
  refine z_pf (by rfl) pf110_100 (fun h => nomatch h) ?_
  show TZ (d + 1) 174 69 [some (.inr 100), some (.inl x1), some (.inl x2)] [] (zup Z11 100 6 r12) _
  rw [← eZ13]
  refine z0 (op := 5) (a := 0) (b := 0) (by rfl) (by rfl) (?_ : TZ (d + 1) 174 70 [some (.inr 100), some (.inl x1), some (.inl x2)] [.inr 100] Z13 (zrv Q))
  refine z0 (op := 5) (a := 0) (b := 0) (by rfl) (by rfl) (?_ : TZ (d + 1) 174 71 [some (.inr 100), some (.inl x1), some (.inl x2)] [.inr 100, .inr 100] Z13 (zrv Q))
  refine z0 (op := 5) (a := 0) (b := 0) (by rfl) (by rfl) (?_ : TZ (d + 1) 174 72 [some (.inr 100), some (.inl x1), some (.inl x2)] [.inr 100, .inr 100, .inr 100] Z13 (zrv Q))
  refine z_fi (by rfl) fi112_100 (?_ : TZ (d + 1) 174 75 [some (.inr 100), some (.inl x1), some (.inl x2)] [.inl (Z13 100 7), .inr 100, .inr 100] Z13 (zrv Q))
  refine z_vi (by rfl) (by rfl) cl_100 (TI.mono v fun r15 Z14 v => ?_)
  show TZ (d + 1) 174 78 [some (.inr 100), some (.inl x1), some (.inl x2)] [.inl r15, .inr 100] Z14 (zrv Q)
  obtain ⟨Z16, eZ16⟩ : ∃ q, q = zup Z14 100 7 r15 := ⟨_, rfl⟩
  have v := v Z16 eZ16
  refine z_pf (by rfl) pf112_100 (fun h => nomatch h) ?_
  show TZ (d + 1) 174 81 [some (.inr 100), some (.inl x1), some (.inl x2)] [] (zup Z14 100 7 r15) _
  rw [← eZ16]
  exact z_retv (by rfl) (by rfl) v
theorem w175_0 {d : Nat} {Z : zM} {Q : zM → Prop}
    (v : zR (Z 100 19) ∧
      ((Z 100 19) ≠ 8 → TV d 174 [.inr 100, .inl (3 + (Z 100 19)), .inl 1] Z (fun Z3 =>
          ∀ Z4, Z4 = zup Z3 100 19 ((Z3 100 19) + 1) →
            Q Z4)) ∧
      (¬ (Z 100 19) ≠ 8 → TZ (d + 1) 175 12 [some (.inr 100), some (.inl 105)] [] Z (zrv Q))) :
    TZ (d + 1) 175 0 [some (.inr 100), none] [] Z (zrv Q) := by
  refine z0 (op := 5) (a := 0) (b := 0) (by rfl) (by rfl) (?_ : TZ (d + 1) 175 1 [some (.inr 100), none] [.inr 100] Z (zrv Q))
  refine z_fi (by rfl) fi116_100 (?_ : TZ (d + 1) 175 4 [some (.inr 100), none] [.inl (Z 100 19)] Z (zrv Q))
  refine z0 (op := 1) (a := 0) (b := 8) (by rfl) (by rfl) (?_ : TZ (d + 1) 175 6 [some (.inr 100), none] [.inl 8, .inl (Z 100 19)] Z (zrv Q))
  obtain ⟨c1, v1, v2⟩ := v
  refine z_if2 (a := 1) (t := 50) (by rfl) (by rfl) c1 (by decide) (fun h2 => ?_) (fun h2 => ?_)
  · have v := v1 h2; clear v1 v2
    show TZ (d + 1) 175 50 [some (.inr 100), none] [] Z (zrv Q)
    refine z0 (op := 5) (a := 0) (b := 0) (by rfl) (by rfl) (?_ : TZ (d + 1) 175 51 [some (.inr 100), none] [.inr 100] Z (zrv Q))
    refine z0 (op := 0) (a := 0) (b := 3) (by rfl) (by rfl) (?_ : TZ (d + 1) 175 52 [some (.inr 100), none] [.inl 3, .inr 100] Z (zrv Q))
    refine z0 (op := 5) (a := 0) (b := 0) (by rfl) (by rfl) (?_ : TZ (d + 1) 175 53 [some (.inr 100), none] [.inr 100, .inl 3, .inr 100] Z (zrv Q))
    refine z_fi (by rfl) fi116_100 (?_ : TZ (d + 1) 175 56 [some (.inr 100), none] [.inl (Z 100 19), .inl 3, .inr 100] Z (zrv Q))
    refine z0 (op := 12) (a := 0) (b := 0) (by rfl) (by rfl) (?_ : TZ (d + 1) 175 57 [some (.inr 100), none] [.inl (3 + (Z 100 19)), .inr 100] Z (zrv Q))
    refine z0 (op := 0) (a := 0) (b := 1) (by rfl) (by rfl) (?_ : TZ (d + 1) 175 58 [some (.inr 100), none] [.inl 1, .inl (3 + (Z 100 19)), .inr 100] Z (zrv Q))
    refine z_vv (by rfl) (by rfl) cl_100 (TV.mono v fun Z3 v => ?_)
    show TZ (d + 1) 175 61 [some (.inr 100), none] [] Z3 (zrv Q)
    refine z0 (op := 5) (a := 0) (b := 0) (by rfl) (by rfl) (?_ : TZ (d + 1) 175 62 [some (.inr 100), none] [.inr 100] Z3 (zrv Q))
    refine z0 (op := 15) (a := 0) (b := 0) (by rfl) (by rfl) (?_ : TZ (d + 1) 175 63 [some (.inr 100), none] [.inr 100, .inr 100] Z3 (zrv Q))
    refine z_fi (by rfl) fi116_100 (?_ : TZ (d + 1) 175 66 [some (.inr 100), none] [.inl (Z3 100 19), .inr 100] Z3 (zrv Q))
    refine z0 (op := 0) (a := 0) (b := 1) (by rfl) (by rfl) (?_ : TZ (d + 1) 175 67 [some (.inr 100), none] [.inl 1, .inl (Z3 100 19), .inr 100] Z3 (zrv Q))
    refine z0 (op := 12) (a := 0) (b := 0) (by rfl) (by rfl) (?_ : TZ (d + 1) 175 68 [some (.inr 100), none] [.inl ((Z3 100 19) + 1), .inr 100] Z3 (zrv Q))
    obtain ⟨Z4, eZ4⟩ : ∃ q, q = zup Z3 100 19 ((Z3 100 19) + 1) := ⟨_, rfl⟩
    have v := v Z4 eZ4
    refine z_pf (by rfl) pf116_100 (fun h => nomatch h) ?_
    show TZ (d + 1) 175 71 [some (.inr 100), none] [] (zup Z3 100 19 ((Z3 100 19) + 1)) _
    rw [← eZ4]
    exact z_retv (by rfl) (by rfl) v
  · have v := v2 h2; clear v1 v2
    show TZ (d + 1) 175 9 [some (.inr 100), none] [] Z (zrv Q)
    refine z0 (op := 1) (a := 0) (b := 105) (by rfl) (by rfl) (?_ : TZ (d + 1) 175 11 [some (.inr 100), none] [.inl 105] Z (zrv Q))
    refine z0 (op := 7) (a := 1) (b := 0) (by rfl) (by rfl) (?_ : TZ (d + 1) 175 12 [some (.inr 100), some (.inl 105)] [] Z (zrv Q))
    exact v
theorem w175_12 {d : Nat} {x1 : Int} {Z : zM} {Q : zM → Prop}
    (v : zR x1 ∧
      (350 ≤ x1 → ∀ Z3, Z3 = zup Z 100 19 ((Z 100 19) - 1) →
          TV d 174 [.inr 100, .inl (3 + (Z3 100 19)), .inl 1] Z3 (fun Z4 =>
          ∀ Z5, Z5 = zup Z4 100 19 ((Z4 100 19) + 1) →
            Q Z5)) ∧
      (¬ 350 ≤ x1 → ((0 ≤ (x1 + 35) ∧ (x1 + 35) < 400) ∧
          (0 ≤ x1 ∧ x1 < 400) ∧
          ∀ Z8, Z8 = zup Z 110 x1 (Z 110 (x1 + 35)) →
          TZ (d + 1) 175 12 [some (.inr 100), some (.inl (x1 + 1))] [] Z8 (zrv Q)))) :
    TZ (d + 1) 175 12 [some (.inr 100), some (.inl x1)] [] Z (zrv Q) := by
  refine z0 (op := 3) (a := 1) (b := 0) (by rfl) (by rfl) (?_ : TZ (d + 1) 175 13 [some (.inr 100), some (.inl x1)] [.inl x1] Z (zrv Q))
  refine z0 (op := 2) (a := 0) (b := 350) (by rfl) (by rfl) (?_ : TZ (d + 1) 175 16 [some (.inr 100), some (.inl x1)] [.inl 350, .inl x1] Z (zrv Q))
  obtain ⟨c1, v1, v2⟩ := v
  refine z_if2 (a := 3) (t := 40) (by rfl) (by rfl) c1 (by decide) (fun h2 => ?_) (fun h2 => ?_)
  · have v := v1 h2; clear v1 v2
    show TZ (d + 1) 175 40 [some (.inr 100), some (.inl x1)] [] Z (zrv Q)
    refine z0 (op := 5) (a := 0) (b := 0) (by rfl) (by rfl) (?_ : TZ (d + 1) 175 41 [some (.inr 100), some (.inl x1)] [.inr 100] Z (zrv Q))
    refine z0 (op := 15) (a := 0) (b := 0) (by rfl) (by rfl) (?_ : TZ (d + 1) 175 42 [some (.inr 100), some (.inl x1)] [.inr 100, .inr 100] Z (zrv Q))
    refine z_fi (by rfl) fi116_100 (?_ : TZ (d + 1) 175 45 [some (.inr 100), some (.inl x1)] [.inl (Z 100 19), .inr 100] Z (zrv Q))
    refine z0 (op := 0) (a := 0) (b := 1) (by rfl) (by rfl) (?_ : TZ (d + 1) 175 46 [some (.inr 100), some (.inl x1)] [.inl 1, .inl (Z 100 19), .inr 100] Z (zrv Q))
    refine z0 (op := 12) (a := 1) (b := 0) (by rfl) (by rfl) (?_ : TZ (d + 1) 175 47 [some (.inr 100), some (.inl x1)] [.inl ((Z 100 19) - 1), .inr 100] Z (zrv Q))
    obtain ⟨Z3, eZ3⟩ : ∃ q, q = zup Z 100 19 ((Z 100 19) - 1) := ⟨_, rfl⟩
    have v := v Z3 eZ3
    refine z_pf (by rfl) pf116_100 (fun h => nomatch h) ?_
    show TZ (d + 1) 175 50 [some (.inr 100), some (.inl x1)] [] (zup Z 100 19 ((Z 100 19) - 1)) _
    rw [← eZ3]
    refine z0 (op := 5) (a := 0) (b := 0) (by rfl) (by rfl) (?_ : TZ (d + 1) 175 51 [some (.inr 100), some (.inl x1)] [.inr 100] Z3 (zrv Q))
    refine z0 (op := 0) (a := 0) (b := 3) (by rfl) (by rfl) (?_ : TZ (d + 1) 175 52 [some (.inr 100), some (.inl x1)] [.inl 3, .inr 100] Z3 (zrv Q))
    refine z0 (op := 5) (a := 0) (b := 0) (by rfl) (by rfl) (?_ : TZ (d + 1) 175 53 [some (.inr 100), some (.inl x1)] [.inr 100, .inl 3, .inr 100] Z3 (zrv Q))
    refine z_fi (by rfl) fi116_100 (?_ : TZ (d + 1) 175 56 [some (.inr 100), some (.inl x1)] [.inl (Z3 100 19), .inl 3, .inr 100] Z3 (zrv Q))
    refine z0 (op := 12) (a := 0) (b := 0) (by rfl) (by rfl) (?_ : TZ (d + 1) 175 57 [some (.inr 100), some (.inl x1)] [.inl (3 + (Z3 100 19)), .inr 100] Z3 (zrv Q))
    refine z0 (op := 0) (a := 0) (b := 1) (by rfl) (by rfl) (?_ : TZ (d + 1) 175 58 [some (.inr 100), some (.inl x1)] [.inl 1, .inl (3 + (Z3 100 19)), .inr 100] Z3 (zrv Q))
    refine z_vv (by rfl) (by rfl) cl_100 (TV.mono v fun Z4 v => ?_)
    show TZ (d + 1) 175 61 [some (.inr 100), some (.inl x1)] [] Z4 (zrv Q)
    refine z0 (op := 5) (a := 0) (b := 0) (by rfl) (by rfl) (?_ : TZ (d + 1) 175 62 [some (.inr 100), some (.inl x1)] [.inr 100] Z4 (zrv Q))
    refine z0 (op := 15) (a := 0) (b := 0) (by rfl) (by rfl) (?_ : TZ (d + 1) 175 63 [some (.inr 100), some (.inl x1)] [.inr 100, .inr 100] Z4 (zrv Q))
    refine z_fi (by rfl) fi116_100 (?_ : TZ (d + 1) 175 66 [some (.inr 100), some (.inl x1)] [.inl (Z4 100 19), .inr 100] Z4 (zrv Q))
    refine z0 (op := 0) (a := 0) (b := 1) (by rfl) (by rfl) (?_ : TZ (d + 1) 175 67 [some (.inr 100), some (.inl x1)] [.inl 1, .inl (Z4 100 19), .inr 100] Z4 (zrv Q))
    refine z0 (op := 12) (a := 0) (b := 0) (by rfl) (by rfl) (?_ : TZ (d + 1) 175 68 [some (.inr 100), some (.inl x1)] [.inl ((Z4 100 19) + 1), .inr 100] Z4 (zrv Q))
    obtain ⟨Z5, eZ5⟩ : ∃ q, q = zup Z4 100 19 ((Z4 100 19) + 1) := ⟨_, rfl⟩
    have v := v Z5 eZ5
    refine z_pf (by rfl) pf116_100 (fun h => nomatch h) ?_
    show TZ (d + 1) 175 71 [some (.inr 100), some (.inl x1)] [] (zup Z4 100 19 ((Z4 100 19) + 1)) _
    rw [← eZ5]
    exact z_retv (by rfl) (by rfl) v
  · have v := v2 h2; clear v1 v2
    show TZ (d + 1) 175 19 [some (.inr 100), some (.inl x1)] [] Z (zrv Q)
    refine z0 (op := 5) (a := 0) (b := 0) (by rfl) (by rfl) (?_ : TZ (d + 1) 175 20 [some (.inr 100), some (.inl x1)] [.inr 100] Z (zrv Q))
    refine z_fr (by rfl) fr97_100 (?_ : TZ (d + 1) 175 23 [some (.inr 100), some (.inl x1)] [.inr 110] Z (zrv Q))
    refine z0 (op := 3) (a := 1) (b := 0) (by rfl) (by rfl) (?_ : TZ (d + 1) 175 24 [some (.inr 100), some (.inl x1)] [.inl x1, .inr 110] Z (zrv Q))
    refine z0 (op := 5) (a := 0) (b := 0) (by rfl) (by rfl) (?_ : TZ (d + 1) 175 25 [some (.inr 100), some (.inl x1)] [.inr 100, .inl x1, .inr 110] Z (zrv Q))
    refine z_fr (by rfl) fr97_100 (?_ : TZ (d + 1) 175 28 [some (.inr 100), some (.inl x1)] [.inr 110, .inl x1, .inr 110] Z (zrv Q))
    refine z0 (op := 3) (a := 1) (b := 0) (by rfl) (by rfl) (?_ : TZ (d + 1) 175 29 [some (.inr 100), some (.inl x1)] [.inl x1, .inr 110, .inl x1, .inr 110] Z (zrv Q))
    refine z0 (op := 1) (a := 0) (b := 35) (by rfl) (by rfl) (?_ : TZ (d + 1) 175 31 [some (.inr 100), some (.inl x1)] [.inl 35, .inl x1, .inr 110, .inl x1, .inr 110] Z (zrv Q))
    refine z0 (op := 12) (a := 0) (b := 0) (by rfl) (by rfl) (?_ : TZ (d + 1) 175 32 [some (.inr 100), some (.inl x1)] [.inl (x1 + 35), .inr 110, .inl x1, .inr 110] Z (zrv Q))
    obtain ⟨c6, v⟩ := v
    refine z_al (by rfl) ln_110 c6 (?_ : TZ (d + 1) 175 33 [some (.inr 100), some (.inl x1)] [.inl (Z 110 (x1 + 35)), .inl x1, .inr 110] Z (zrv Q))
    obtain ⟨c7, v⟩ := v
    obtain ⟨Z8, eZ8⟩ : ∃ q, q = zup Z 110 x1 (Z 110 (x1 + 35)) := ⟨_, rfl⟩
    have v := v Z8 eZ8
    refine z_as (by rfl) ln_110 c7 ?_
    show TZ (d + 1) 175 34 [some (.inr 100), some (.inl x1)] [] (zup Z 110 x1 (Z 110 (x1 + 35))) _
    rw [← eZ8]
    refine z0 (op := 11) (a := 1) (b := 1) (by rfl) (by rfl) (?_ : TZ (d + 1) 175 37 [some (.inr 100), some (.inl (x1 + 1))] [] Z8 (zrv Q))
    refine z_goto (t := 12) (by rfl) (by rfl) (?_ : TZ (d + 1) 175 12 [some (.inr 100), some (.inl (x1 + 1))] [] Z8 (zrv Q))
    exact v
theorem w176_0 {d : Nat} {Z : zM} {Q : Int → zM → Prop}
    (v : zR (Z 100 19) ∧
      ((Z 100 19) ≠ 0 → ∀ Z3, Z3 = zup Z 100 19 ((Z 100 19) - 1) →
          TV d 174 [.inr 100, .inl (3 + (Z3 100 19)), .inl 0] Z3 (fun Z4 =>
          Q (Z4 100 7) Z4)) ∧
      (¬ (Z 100 19) ≠ 0 → TI d 154 [.inr 100, .inl (-3)] Z (fun r6 Z5 =>
          Q r6 Z5))) :
    TZ (d + 1) 176 0 [some (.inr 100)] [] Z (zri Q) := by
  refine z0 (op := 5) (a := 0) (b := 0) (by rfl) (by rfl) (?_ : TZ (d + 1) 176 1 [some (.inr 100)] [.inr 100] Z (zri Q))
  refine z_fi (by rfl) fi116_100 (?_ : TZ (d + 1) 176 4 [some (.inr 100)] [.inl (Z 100 19)] Z (zri Q))
  obtain ⟨c1, v1, v2⟩ := v
  refine z_if0 (a := 1) (t := 14) (by rfl) (by rfl) c1 (fun h2 => ?_) (fun h2 => ?_)
  · have v := v1 h2; clear v1 v2
    show TZ (d + 1) 176 14 [some (.inr 100)] [] Z (zri Q)
    refine z0 (op := 5) (a := 0) (b := 0) (by rfl) (by rfl) (?_ : TZ (d + 1) 176 15 [some (.inr 100)] [.inr 100] Z (zri Q))
    refine z0 (op := 15) (a := 0) (b := 0) (by rfl) (by rfl) (?_ : TZ (d + 1) 176 16 [some (.inr 100)] [.inr 100, .inr 100] Z (zri Q))
    refine z_fi (by rfl) fi116_100 (?_ : TZ (d + 1) 176 19 [some (.inr 100)] [.inl (Z 100 19), .inr 100] Z (zri Q))
    refine z0 (op := 0) (a := 0) (b := 1) (by rfl) (by rfl) (?_ : TZ (d + 1) 176 20 [some (.inr 100)] [.inl 1, .inl (Z 100 19), .inr 100] Z (zri Q))
    refine z0 (op := 12) (a := 1) (b := 0) (by rfl) (by rfl) (?_ : TZ (d + 1) 176 21 [some (.inr 100)] [.inl ((Z 100 19) - 1), .inr 100] Z (zri Q))
    obtain ⟨Z3, eZ3⟩ : ∃ q, q = zup Z 100 19 ((Z 100 19) - 1) := ⟨_, rfl⟩
    have v := v Z3 eZ3
    refine z_pf (by rfl) pf116_100 (fun h => nomatch h) ?_
    show TZ (d + 1) 176 24 [some (.inr 100)] [] (zup Z 100 19 ((Z 100 19) - 1)) _
    rw [← eZ3]
    refine z0 (op := 5) (a := 0) (b := 0) (by rfl) (by rfl) (?_ : TZ (d + 1) 176 25 [some (.inr 100)] [.inr 100] Z3 (zri Q))
    refine z0 (op := 0) (a := 0) (b := 3) (by rfl) (by rfl) (?_ : TZ (d + 1) 176 26 [some (.inr 100)] [.inl 3, .inr 100] Z3 (zri Q))
    refine z0 (op := 5) (a := 0) (b := 0) (by rfl) (by rfl) (?_ : TZ (d + 1) 176 27 [some (.inr 100)] [.inr 100, .inl 3, .inr 100] Z3 (zri Q))
    refine z_fi (by rfl) fi116_100 (?_ : TZ (d + 1) 176 30 [some (.inr 100)] [.inl (Z3 100 19), .inl 3, .inr 100] Z3 (zri Q))
    refine z0 (op := 12) (a := 0) (b := 0) (by rfl) (by rfl) (?_ : TZ (d + 1) 176 31 [some (.inr 100)] [.inl (3 + (Z3 100 19)), .inr 100] Z3 (zri Q))
    refine z0 (op := 0) (a := 0) (b := 0) (by rfl) (by rfl) (?_ : TZ (d + 1) 176 32 [some (.inr 100)] [.inl 0, .inl (3 + (Z3 100 19)), .inr 100] Z3 (zri Q))
    refine z_vv (by rfl) (by rfl) cl_100 (TV.mono v fun Z4 v => ?_)
    show TZ (d + 1) 176 35 [some (.inr 100)] [] Z4 (zri Q)
    refine z0 (op := 5) (a := 0) (b := 0) (by rfl) (by rfl) (?_ : TZ (d + 1) 176 36 [some (.inr 100)] [.inr 100] Z4 (zri Q))
    refine z_fi (by rfl) fi112_100 (?_ : TZ (d + 1) 176 39 [some (.inr 100)] [.inl (Z4 100 7)] Z4 (zri Q))
    exact z_reti (by rfl) (by rfl) v
  · have v := v2 h2; clear v1 v2
    show TZ (d + 1) 176 7 [some (.inr 100)] [] Z (zri Q)
    refine z0 (op := 5) (a := 0) (b := 0) (by rfl) (by rfl) (?_ : TZ (d + 1) 176 8 [some (.inr 100)] [.inr 100] Z (zri Q))
    refine z0 (op := 1) (a := 0) (b := (-3)) (by rfl) (by rfl) (?_ : TZ (d + 1) 176 10 [some (.inr 100)] [.inl (-3), .inr 100] Z (zri Q))
    refine z_vi (by rfl) (by rfl) cl_100 (TI.mono v fun r6 Z5 v => ?_)
    show TZ (d + 1) 176 13 [some (.inr 100)] [.inl r6] Z5 (zri Q)
    exact z_reti (by rfl) (by rfl) v
theorem w177_0 {d : Nat} {Z : zM} {Q : Int → zM → Prop}
    (v : ∀ Z1, Z1 = zup Z 100 16 1 →
      TV d 174 [.inr 100, .inl 0, .inl 1] Z1 (fun Z2 =>
      Q (Z2 100 7) Z2)) :
    TZ (d + 1) 177 0 [some (.inr 100)] [] Z (zri Q) := by
  refine z0 (op := 5) (a := 0) (b := 0) (by rfl) (by rfl) (?_ : TZ (d + 1) 177 1 [some (.inr 100)] [.inr 100] Z (zri Q))
  refine z0 (op := 0) (a := 0) (b := 1) (by rfl) (by rfl) (?_ : TZ (d + 1) 177 2 [some (.inr 100)] [.inl 1, .inr 100] Z (zri Q))
  obtain ⟨Z1, eZ1⟩ : ∃ q, q = zup Z 100 16 1 := ⟨_, rfl⟩
  have v := v Z1 eZ1
  refine z_pf (by rfl) pf119_100 (fun _ => by decide) ?_
  show TZ (d + 1) 177 5 [some (.inr 100)] [] (zup Z 100 16 1) _
  rw [← eZ1]
  refine z0 (op := 5) (a := 0) (b := 0) (by rfl) (by rfl) (?_ : TZ (d + 1) 177 6 [some (.inr 100)] [.inr 100] Z1 (zri Q))
  refine z0 (op := 0) (a := 0) (b := 0) (by rfl) (by rfl) (?_ : TZ (d + 1) 177 7 [some (.inr 100)] [.inl 0, .inr 100] Z1 (zri Q))
  refine z0 (op := 0) (a := 0) (b := 1) (by rfl) (by rfl) (?_ : TZ (d + 1) 177 8 [some (.inr 100)] [.inl 1, .inl 0, .inr 100] Z1 (zri Q))
  refine z_vv (by rfl) (by rfl) cl_100 (TV.mono v fun Z2 v => ?_)
  show TZ (d + 1) 177 11 [some (.inr 100)] [] Z2 (zri Q)
  refine z0 (op := 5) (a := 0) (b := 0) (by rfl) (by rfl) (?_ : TZ (d + 1) 177 12 [some (.inr 100)] [.inr 100] Z2 (zri Q))
  refine z_fi (by rfl) fi112_100 (?_ : TZ (d + 1) 177 15 [some (.inr 100)] [.inl (Z2 100 7)] Z2 (zri Q))
  exact z_reti (by rfl) (by rfl) v
theorem w178_0 {d : Nat} {Z : zM} {Q : Int → zM → Prop}
    (v : zR (Z 100 16) ∧
      ((Z 100 16) ≠ 0 → TV d 174 [.inr 100, .inl 0, .inl 0] Z (fun Z3 =>
          ∀ Z4, Z4 = zup Z3 100 19 0 →
            Q (Z4 100 7) Z4)) ∧
      (¬ (Z 100 16) ≠ 0 → TI d 154 [.inr 100, .inl (-3)] Z (fun r6 Z5 =>
          Q r6 Z5))) :
    TZ (d + 1) 178 0 [some (.inr 100)] [] Z (zri Q) := by
  refine z0 (op := 5) (a := 0) (b := 0) (by rfl) (by rfl) (?_ : TZ (d + 1) 178 1 [some (.inr 100)] [.inr 100] Z (zri Q))
  refine z_fi (by rfl) fi119_100 (?_ : TZ (d + 1) 178 4 [some (.inr 100)] [.inl (Z 100 16)] Z (zri Q))
  obtain ⟨c1, v1, v2⟩ := v
  refine z_if0 (a := 1) (t := 14) (by rfl) (by rfl) c1 (fun h2 => ?_) (fun h2 => ?_)
  · have v := v1 h2; clear v1 v2
    show TZ (d + 1) 178 14 [some (.inr 100)] [] Z (zri Q)
    refine z0 (op := 5) (a := 0) (b := 0) (by rfl) (by rfl) (?_ : TZ (d + 1) 178 15 [some (.inr 100)] [.inr 100] Z (zri Q))
    refine z0 (op := 0) (a := 0) (b := 0) (by rfl) (by rfl) (?_ : TZ (d + 1) 178 16 [some (.inr 100)] [.inl 0, .inr 100] Z (zri Q))
    refine z0 (op := 0) (a := 0) (b := 0) (by rfl) (by rfl) (?_ : TZ (d + 1) 178 17 [some (.inr 100)] [.inl 0, .inl 0, .inr 100] Z (zri Q))
    refine z_vv (by rfl) (by rfl) cl_100 (TV.mono v fun Z3 v => ?_)
    show TZ (d + 1) 178 20 [some (.inr 100)] [] Z3 (zri Q)
    refine z0 (op := 5) (a := 0) (b := 0) (by rfl) (by rfl) (?_ : TZ (d + 1) 178 21 [some (.inr 100)] [.inr 100] Z3 (zri Q))
    refine z0 (op := 0) (a := 0) (b := 0) (by rfl) (by rfl) (?_ : TZ (d + 1) 178 22 [some (.inr 100)] [.inl 0, .inr 100] Z3 (zri Q))
    obtain ⟨Z4, eZ4⟩ : ∃ q, q = zup Z3 100 19 0 := ⟨_, rfl⟩
    have v := v Z4 eZ4
    refine z_pf (by rfl) pf116_100 (fun h => nomatch h) ?_
    show TZ (d + 1) 178 25 [some (.inr 100)] [] (zup Z3 100 19 0) _
    rw [← eZ4]
    refine z0 (op := 5) (a := 0) (b := 0) (by rfl) (by rfl) (?_ : TZ (d + 1) 178 26 [some (.inr 100)] [.inr 100] Z4 (zri Q))
    refine z_fi (by rfl) fi112_100 (?_ : TZ (d + 1) 178 29 [some (.inr 100)] [.inl (Z4 100 7)] Z4 (zri Q))
    exact z_reti (by rfl) (by rfl) v
  · have v := v2 h2; clear v1 v2
    show TZ (d + 1) 178 7 [some (.inr 100)] [] Z (zri Q)
    refine z0 (op := 5) (a := 0) (b := 0) (by rfl) (by rfl) (?_ : TZ (d + 1) 178 8 [some (.inr 100)] [.inr 100] Z (zri Q))
    refine z0 (op := 1) (a := 0) (b := (-3)) (by rfl) (by rfl) (?_ : TZ (d + 1) 178 10 [some (.inr 100)] [.inl (-3), .inr 100] Z (zri Q))
    refine z_vi (by rfl) (by rfl) cl_100 (TI.mono v fun r6 Z5 v => ?_)
    show TZ (d + 1) 178 13 [some (.inr 100)] [.inl r6] Z5 (zri Q)
    exact z_reti (by rfl) (by rfl) v
theorem w179_0 {d : Nat} {Z : zM} {Q : zM → Prop}
    (v : TV d 174 [.inr 100, .inl 2, .inl 1] Z (fun Z1 =>
      Q Z1)) :
    TZ (d + 1) 179 0 [some (.inr 100)] [] Z (zrv Q) := by
  refine z0 (op := 5) (a := 0) (b := 0) (by rfl) (by rfl) (?_ : TZ (d + 1) 179 1 [some (.inr 100)] [.inr 100] Z (zrv Q))
  refine z0 (op := 0) (a := 0) (b := 2) (by rfl) (by rfl) (?_ : TZ (d + 1) 179 2 [some (.inr 100)] [.inl 2, .inr 100] Z (zrv Q))
  refine z0 (op := 0) (a := 0) (b := 1) (by rfl) (by rfl) (?_ : TZ (d + 1) 179 3 [some (.inr 100)] [.inl 1, .inl 2, .inr 100] Z (zrv Q))
  refine z_vv (by rfl) (by rfl) cl_100 (TV.mono v fun Z1 v => ?_)
  show TZ (d + 1) 179 6 [some (.inr 100)] [] Z1 (zrv Q)
  exact z_retv (by rfl) (by rfl) v
theorem w180_0 {d : Nat} {Z : zM} {Q : zM → Prop}
    (v : TV d 174 [.inr 100, .inl 2, .inl 0] Z (fun Z1 =>
      Q Z1)) :
    TZ (d + 1) 180 0 [some (.inr 100)] [] Z (zrv Q) := by
  refine z0 (op := 5) (a := 0) (b := 0) (by rfl) (by rfl) (?_ : TZ (d + 1) 180 1 [some (.inr 100)] [.inr 100] Z (zrv Q))
  refine z0 (op := 0) (a := 0) (b := 2) (by rfl) (by rfl) (?_ : TZ (d + 1) 180 2 [some (.inr 100)] [.inl 2, .inr 100] Z (zrv Q))
  refine z0 (op := 0) (a := 0) (b := 0) (by rfl) (by rfl) (?_ : TZ (d + 1) 180 3 [some (.inr 100)] [.inl 0, .inl 2, .inr 100] Z (zrv Q))
  refine z_vv (by rfl) (by rfl) cl_100 (TV.mono v fun Z1 v => ?_)
  show TZ (d + 1) 180 6 [some (.inr 100)] [] Z1 (zrv Q)
  exact z_retv (by rfl) (by rfl) v
theorem w181_0 {d : Nat} {x1 x2 x3 : Int} {Z : zM} {Q : zM → Prop}
    (v : (0 ≤ (Z 100 5) ∧ (Z 100 5) < 8) ∧
      ∀ Z2, Z2 = zup Z 103 (Z 100 5) x1 →
      (0 ≤ (Z2 100 5) ∧ (Z2 100 5) < 8) ∧
      ∀ Z4, Z4 = zup Z2 104 (Z2 100 5) x2 →
      (0 ≤ (Z4 100 5) ∧ (Z4 100 5) < 8) ∧
      ∀ Z6, Z6 = zup Z4 105 (Z4 100 5) x3 →
      ∀ Z7, Z7 = zup Z6 100 5 ((Z6 100 5) + 1) →
      Q Z7) :
    TZ d 181 0 [some (.inr 100), some (.inl x1), some (.inl x2), some (.inl x3)] [] Z (zrv Q) := by
  refine z0 (op := 5) (a := 0) (b := 0) (by rfl) (by rfl) (?_ : TZ d 181 1 [some (.inr 100), some (.inl x1), some (.inl x2), some (.inl x3)] [.inr 100] Z (zrv Q))
  refine z_fr (by rfl) fr90_100 (?_ : TZ d 181 4 [some (.inr 100), some (.inl x1), some (.inl x2), some (.inl x3)] [.inr 103] Z (zrv Q))
  refine z0 (op := 5) (a := 0) (b := 0) (by rfl) (by rfl) (?_ : TZ d 181 5 [some (.inr 100), some (.inl x1), some (.inl x2), some (.inl x3)] [.inr 100, .inr 103] Z (zrv Q))
  refine z_fi (by rfl) fi111_100 (?_ : TZ d 181 8 [some (.inr 100), some (.inl x1), some (.inl x2), some (.inl x3)] [.inl (Z 100 5), .inr 103] Z (zrv Q))
  refine z0 (op := 3) (a := 1) (b := 0) (by rfl) (by rfl) (?_ : TZ d 181 9 [some (.inr 100), some (.inl x1), some (.inl x2), some (.inl x3)] [.inl x1, .inl (Z 100 5), .inr 103] Z (zrv Q))
  obtain ⟨c1, v⟩ := v
  obtain ⟨Z2, eZ2⟩ : ∃ q, q = zup Z 103 (Z 100 5) x1 := ⟨_, rfl⟩
  have v := v Z2 eZ2
  refine z_as (by rfl) ln_103 c1 ?_
  show TZ d 181 10 [some (.inr 100), some (.inl x1), some (.inl x2), some (.inl x3)] [] (zup Z 103 (Z 100 5) x1) _
  rw [← eZ2]
  refine z0 (op := 5) (a := 0) (b := 0) (by rfl) (by rfl) (?_ : TZ d 181 11 [some (.inr 100), some (.inl x1), some (.inl x2), some (.inl x3)] [.inr 100] Z2 (zrv Q))
  refine z_fr (by rfl) fr91_100 (?_ : TZ d 181 14 [some (.inr 100), some (.inl x1), some (.inl x2), some (.inl x3)] [.inr 104] Z2 (zrv Q))
  refine z0 (op := 5) (a := 0) (b := 0) (by rfl) (by rfl) (?_ : TZ d 181 15 [some (.inr 100), some (.inl x1), some (.inl x2), some (.inl x3)] [.inr 100, .inr 104] Z2 (zrv Q))
  refine z_fi (by rfl) fi111_100 (?_ : TZ d 181 18 [some (.inr 100), some (.inl x1), some (.inl x2), some (.inl x3)] [.inl (Z2 100 5), .inr 104] Z2 (zrv Q))
  refine z0 (op := 3) (a := 2) (b := 0) (by rfl) (by rfl) (?_ : TZ d 181 19 [some (.inr 100), some (.inl x1), some (.inl x2), some (.inl x3)] [.inl x2, .inl (Z2 100 5), .inr 104] Z2 (zrv Q))
  obtain ⟨c3, v⟩ := v
  obtain ⟨Z4, eZ4⟩ : ∃ q, q = zup Z2 104 (Z2 100 5) x2 := ⟨_, rfl⟩
  have v := v Z4 eZ4
  refine z_as (by rfl) ln_104 c3 ?_
  show TZ d 181 20 [some (.inr 100), some (.inl x1), some (.inl x2), some (.inl x3)] [] (zup Z2 104 (Z2 100 5) x2) _
  rw [← eZ4]
  refine z0 (op := 5) (a := 0) (b := 0) (by rfl) (by rfl) (?_ : TZ d 181 21 [some (.inr 100), some (.inl x1), some (.inl x2), some (.inl x3)] [.inr 100] Z4 (zrv Q))
  refine z_fr (by rfl) fr92_100 (?_ : TZ d 181 24 [some (.inr 100), some (.inl x1), some (.inl x2), some (.inl x3)] [.inr 105] Z4 (zrv Q))
  refine z0 (op := 5) (a := 0) (b := 0) (by rfl) (by rfl) (?_ : TZ d 181 25 [some (.inr 100), some (.inl x1), some (.inl x2), some (.inl x3)] [.inr 100, .inr 105] Z4 (zrv Q))
  refine z_fi (by rfl) fi111_100 (?_ : TZ d 181 28 [some (.inr 100), some (.inl x1), some (.inl x2), some (.inl x3)] [.inl (Z4 100 5), .inr 105] Z4 (zrv Q))
  refine z0 (op := 3) (a := 3) (b := 0) (by rfl) (by rfl) (?_ : TZ d 181 29 [some (.inr 100), some (.inl x1), some (.inl x2), some (.inl x3)] [.inl x3, .inl (Z4 100 5), .inr 105] Z4 (zrv Q))
  obtain ⟨c5, v⟩ := v
  obtain ⟨Z6, eZ6⟩ : ∃ q, q = zup Z4 105 (Z4 100 5) x3 := ⟨_, rfl⟩
  have v := v Z6 eZ6
  refine z_as (by rfl) ln_105 c5 ?_
  show TZ d 181 30 [some (.inr 100), some (.inl x1), some (.inl x2), some (.inl x3)] [] (zup Z4 105 (Z4 100 5) x3) _
  rw [← eZ6]
  refine z0 (op := 5) (a := 0) (b := 0) (by rfl) (by rfl) (?_ : TZ d 181 31 [some (.inr 100), some (.inl x1), some (.inl x2), some (.inl x3)] [.inr 100] Z6 (zrv Q))
  refine z0 (op := 15) (a := 0) (b := 0) (by rfl) (by rfl) (?_ : TZ d 181 32 [some (.inr 100), some (.inl x1), some (.inl x2), some (.inl x3)] [.inr 100, .inr 100] Z6 (zrv Q))
  refine z_fi (by rfl) fi111_100 (?_ : TZ d 181 35 [some (.inr 100), some (.inl x1), some (.inl x2), some (.inl x3)] [.inl (Z6 100 5), .inr 100] Z6 (zrv Q))
  refine z0 (op := 0) (a := 0) (b := 1) (by rfl) (by rfl) (?_ : TZ d 181 36 [some (.inr 100), some (.inl x1), some (.inl x2), some (.inl x3)] [.inl 1, .inl (Z6 100 5), .inr 100] Z6 (zrv Q))
  refine z0 (op := 12) (a := 0) (b := 0) (by rfl) (by rfl) (?_ : TZ d 181 37 [some (.inr 100), some (.inl x1), some (.inl x2), some (.inl x3)] [.inl ((Z6 100 5) + 1), .inr 100] Z6 (zrv Q))
  obtain ⟨Z7, eZ7⟩ : ∃ q, q = zup Z6 100 5 ((Z6 100 5) + 1) := ⟨_, rfl⟩
  have v := v Z7 eZ7
  refine z_pf (by rfl) pf111_100 (fun h => nomatch h) ?_
  show TZ d 181 40 [some (.inr 100), some (.inl x1), some (.inl x2), some (.inl x3)] [] (zup Z6 100 5 ((Z6 100 5) + 1)) _
  rw [← eZ7]
  exact z_retv (by rfl) (by rfl) v
theorem w182_0 {d : Nat} {x0 x1 : Int} {Z : zM} {Q : Int → zM → Prop}
    (v : zR x0 ∧
      zR x1 ∧
      (x1 ≤ x0 → Q (x0 - x1) Z) ∧
      (¬ x1 ≤ x0 → Q (x1 - x0) Z)) :
    TZ d 182 0 [some (.inl x0), some (.inl x1)] [] Z (zri Q) := by
  refine z0 (op := 3) (a := 0) (b := 0) (by rfl) (by rfl) (?_ : TZ d 182 1 [some (.inl x0), some (.inl x1)] [.inl x0] Z (zri Q))
  refine z0 (op := 3) (a := 1) (b := 0) (by rfl) (by rfl) (?_ : TZ d 182 2 [some (.inl x0), some (.inl x1)] [.inl x1, .inl x0] Z (zri Q))
  obtain ⟨c1, c2, v1, v2⟩ := v
  refine z_if2 (a := 3) (t := 11) (by rfl) (by rfl) c1 c2 (fun h3 => ?_) (fun h3 => ?_)
  · have v := v1 h3; clear v1 v2
    show TZ d 182 11 [some (.inl x0), some (.inl x1)] [] Z (zri Q)
    refine z0 (op := 3) (a := 0) (b := 0) (by rfl) (by rfl) (?_ : TZ d 182 12 [some (.inl x0), some (.inl x1)] [.inl x0] Z (zri Q))
    refine z0 (op := 3) (a := 1) (b := 0) (by rfl) (by rfl) (?_ : TZ d 182 13 [some (.inl x0), some (.inl x1)] [.inl x1, .inl x0] Z (zri Q))
    refine z0 (op := 12) (a := 1) (b := 0) (by rfl) (by rfl) (?_ : TZ d 182 14 [some (.inl x0), some (.inl x1)] [.inl (x0 - x1)] Z (zri Q))
    exact z_reti (by rfl) (by rfl) v
  · have v := v2 h3; clear v1 v2
    show TZ d 182 5 [some (.inl x0), some (.inl x1)] [] Z (zri Q)
    refine z0 (op := 3) (a := 1) (b := 0) (by rfl) (by rfl) (?_ : TZ d 182 6 [some (.inl x0), some (.inl x1)] [.inl x1] Z (zri Q))
    refine z0 (op := 3) (a := 0) (b := 0) (by rfl) (by rfl) (?_ : TZ d 182 7 [some (.inl x0), some (.inl x1)] [.inl x0, .inl x1] Z (zri Q))
    refine z0 (op := 12) (a := 1) (b := 0) (by rfl) (by rfl) (?_ : TZ d 182 8 [some (.inl x0), some (.inl x1)] [.inl (x1 - x0)] Z (zri Q))
    refine z_goto (t := 14) (by rfl) (by rfl) (?_ : TZ d 182 14 [some (.inl x0), some (.inl x1)] [.inl (x1 - x0)] Z (zri Q))
    exact z_reti (by rfl) (by rfl) v
theorem w183_0 {d : Nat} {x0 x1 : Int} {Z : zM} {Q : Int → zM → Prop}
    (v : zR x0 ∧
      zR x1 ∧
      (x1 ≤ x0 → Q x1 Z) ∧
      (¬ x1 ≤ x0 → Q x0 Z)) :
    TZ d 183 0 [some (.inl x0), some (.inl x1)] [] Z (zri Q) := by
  refine z0 (op := 3) (a := 0) (b := 0) (by rfl) (by rfl) (?_ : TZ d 183 1 [some (.inl x0), some (.inl x1)] [.inl x0] Z (zri Q))
  refine z0 (op := 3) (a := 1) (b := 0) (by rfl) (by rfl) (?_ : TZ d 183 2 [some (.inl x0), some (.inl x1)] [.inl x1, .inl x0] Z (zri Q))
  obtain ⟨c1, c2, v1, v2⟩ := v
  refine z_if2 (a := 3) (t := 9) (by rfl) (by rfl) c1 c2 (fun h3 => ?_) (fun h3 => ?_)
  · have v := v1 h3; clear v1 v2
    show TZ d 183 9 [some (.inl x0), some (.inl x1)] [] Z (zri Q)
    refine z0 (op := 3) (a := 1) (b := 0) (by rfl) (by rfl) (?_ : TZ d 183 10 [some (.inl x0), some (.inl x1)] [.inl x1] Z (zri Q))
    exact z_reti (by rfl) (by rfl) v
  · have v := v2 h3; clear v1 v2
    show TZ d 183 5 [some (.inl x0), some (.inl x1)] [] Z (zri Q)
    refine z0 (op := 3) (a := 0) (b := 0) (by rfl) (by rfl) (?_ : TZ d 183 6 [some (.inl x0), some (.inl x1)] [.inl x0] Z (zri Q))
    refine z_goto (t := 10) (by rfl) (by rfl) (?_ : TZ d 183 10 [some (.inl x0), some (.inl x1)] [.inl x0] Z (zri Q))
    exact z_reti (by rfl) (by rfl) v
theorem w184_0 {d : Nat} {x0 x1 : Int} {Z : zM} {Q : Int → zM → Prop}
    (v : zR x1 ∧
      (x1 < 0 → Q x0 Z) ∧
      (¬ x1 < 0 → (zR x1 ∧
          zR x0 ∧
          (x1 ≠ x0 → (zR x1 ∧
              zR x0 ∧
              (x1 ≤ x0 → Q (x0 - 1) Z) ∧
              (¬ x1 ≤ x0 → Q (x0 + 1) Z))) ∧
          (¬ x1 ≠ x0 → Q x0 Z)))) :
    TZ d 184 0 [some (.inl x0), some (.inl x1)] [] Z (zri Q) := by
  refine z0 (op := 3) (a := 1) (b := 0) (by rfl) (by rfl) (?_ : TZ d 184 1 [some (.inl x0), some (.inl x1)] [.inl x1] Z (zri Q))
  obtain ⟨c1, v1, v2⟩ := v
  refine z_if0 (a := 2) (t := 9) (by rfl) (by rfl) c1 (fun h2 => ?_) (fun h2 => ?_)
  · have v := v1 h2; clear v1 v2
    show TZ d 184 9 [some (.inl x0), some (.inl x1)] [] Z (zri Q)
    refine z0 (op := 3) (a := 0) (b := 0) (by rfl) (by rfl) (?_ : TZ d 184 10 [some (.inl x0), some (.inl x1)] [.inl x0] Z (zri Q))
    refine z_goto (t := 27) (by rfl) (by rfl) (?_ : TZ d 184 27 [some (.inl x0), some (.inl x1)] [.inl x0] Z (zri Q))
    exact z_reti (by rfl) (by rfl) v
  · have v := v2 h2; clear v1 v2
    show TZ d 184 4 [some (.inl x0), some (.inl x1)] [] Z (zri Q)
    refine z0 (op := 3) (a := 1) (b := 0) (by rfl) (by rfl) (?_ : TZ d 184 5 [some (.inl x0), some (.inl x1)] [.inl x1] Z (zri Q))
    refine z0 (op := 3) (a := 0) (b := 0) (by rfl) (by rfl) (?_ : TZ d 184 6 [some (.inl x0), some (.inl x1)] [.inl x0, .inl x1] Z (zri Q))
    obtain ⟨c3, c4, v1, v2⟩ := v
    refine z_if2 (a := 1) (t := 13) (by rfl) (by rfl) c3 c4 (fun h5 => ?_) (fun h5 => ?_)
    · have v := v1 h5; clear v1 v2
      show TZ d 184 13 [some (.inl x0), some (.inl x1)] [] Z (zri Q)
      refine z0 (op := 3) (a := 1) (b := 0) (by rfl) (by rfl) (?_ : TZ d 184 14 [some (.inl x0), some (.inl x1)] [.inl x1] Z (zri Q))
      refine z0 (op := 3) (a := 0) (b := 0) (by rfl) (by rfl) (?_ : TZ d 184 15 [some (.inl x0), some (.inl x1)] [.inl x0, .inl x1] Z (zri Q))
      obtain ⟨c6, c7, v1, v2⟩ := v
      refine z_if2 (a := 5) (t := 24) (by rfl) (by rfl) c6 c7 (fun h8 => ?_) (fun h8 => ?_)
      · have v := v1 h8; clear v1 v2
        show TZ d 184 24 [some (.inl x0), some (.inl x1)] [] Z (zri Q)
        refine z0 (op := 3) (a := 0) (b := 0) (by rfl) (by rfl) (?_ : TZ d 184 25 [some (.inl x0), some (.inl x1)] [.inl x0] Z (zri Q))
        refine z0 (op := 0) (a := 0) (b := 1) (by rfl) (by rfl) (?_ : TZ d 184 26 [some (.inl x0), some (.inl x1)] [.inl 1, .inl x0] Z (zri Q))
        refine z0 (op := 12) (a := 1) (b := 0) (by rfl) (by rfl) (?_ : TZ d 184 27 [some (.inl x0), some (.inl x1)] [.inl (x0 - 1)] Z (zri Q))
        exact z_reti (by rfl) (by rfl) v
      · have v := v2 h8; clear v1 v2
        show TZ d 184 18 [some (.inl x0), some (.inl x1)] [] Z (zri Q)
        refine z0 (op := 3) (a := 0) (b := 0) (by rfl) (by rfl) (?_ : TZ d 184 19 [some (.inl x0), some (.inl x1)] [.inl x0] Z (zri Q))
        refine z0 (op := 0) (a := 0) (b := 1) (by rfl) (by rfl) (?_ : TZ d 184 20 [some (.inl x0), some (.inl x1)] [.inl 1, .inl x0] Z (zri Q))
        refine z0 (op := 12) (a := 0) (b := 0) (by rfl) (by rfl) (?_ : TZ d 184 21 [some (.inl x0), some (.inl x1)] [.inl (x0 + 1)] Z (zri Q))
        refine z_goto (t := 27) (by rfl) (by rfl) (?_ : TZ d 184 27 [some (.inl x0), some (.inl x1)] [.inl (x0 + 1)] Z (zri Q))
        exact z_reti (by rfl) (by rfl) v
    · have v := v2 h5; clear v1 v2
      show TZ d 184 9 [some (.inl x0), some (.inl x1)] [] Z (zri Q)
      refine z0 (op := 3) (a := 0) (b := 0) (by rfl) (by rfl) (?_ : TZ d 184 10 [some (.inl x0), some (.inl x1)] [.inl x0] Z (zri Q))
      refine z_goto (t := 27) (by rfl) (by rfl) (?_ : TZ d 184 27 [some (.inl x0), some (.inl x1)] [.inl x0] Z (zri Q))
      exact z_reti (by rfl) (by rfl) v
