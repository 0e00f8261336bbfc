/-! what stretches of code need of integers -/
theorem w185_0 {d : Nat} {x1 x2 : Int} {Z : zM} {Q : Int → zM → Prop}
    (v : (0 ≤ x1 ∧ x1 < 8) ∧
      TI d 184 [.inl (Z 105 x1), .inl x2] Z (fun r3 Z2 =>
      (0 ≤ x1 ∧ x1 < 8) ∧
        zR ((Z2 100 7) + (Z2 104 x1)) ∧
        zR (Int.tmod ((Z2 100 7) + (Z2 104 x1)) 3) ∧
        ((Int.tmod ((Z2 100 7) + (Z2 104 x1)) 3) ≠ 0 → Q r3 Z2) ∧
        (¬ (Int.tmod ((Z2 100 7) + (Z2 104 x1)) 3) ≠ 0 → (zR r3 ∧
            (r3 ≤ 0 → Q r3 Z2) ∧
            (¬ r3 ≤ 0 → Q (r3 - 1) Z2))))) :
    TZ (d + 1) 185 0 [some (.inr 100), some (.inl x1), some (.inl x2), none] [] Z (zri Q) := by
  refine z0 (op := 5) (a := 0) (b := 0) (by rfl) (by rfl) (?_ : TZ (d + 1) 185 1 [some (.inr 100), some (.inl x1), some (.inl x2), none] [.inr 100] Z (zri Q))
  refine z_fr (by rfl) fr92_100 (?_ : TZ (d + 1) 185 4 [some (.inr 100), some (.inl x1), some (.inl x2), none] [.inr 105] Z (zri Q))
  refine z0 (op := 3) (a := 1) (b := 0) (by rfl) (by rfl) (?_ : TZ (d + 1) 185 5 [some (.inr 100), some (.inl x1), some (.inl x2), none] [.inl x1, .inr 105] Z (zri Q))
  obtain ⟨c1, v⟩ := v
  refine z_al (by rfl) ln_105 c1 (?_ : TZ (d + 1) 185 6 [some (.inr 100), some (.inl x1), some (.inl x2), none] [.inl (Z 105 x1)] Z (zri Q))
  refine z0 (op := 3) (a := 2) (b := 0) (by rfl) (by rfl) (?_ : TZ (d + 1) 185 7 [some (.inr 100), some (.inl x1), some (.inl x2), none] [.inl x2, .inl (Z 105 x1)] Z (zri Q))
  refine z_si (by rfl) (by rfl) (TI.mono v fun r3 Z2 v => ?_)
  show TZ (d + 1) 185 10 [some (.inr 100), some (.inl x1), some (.inl x2), none] [.inl r3] Z2 (zri Q)
  refine z0 (op := 7) (a := 3) (b := 0) (by rfl) (by rfl) (?_ : TZ (d + 1) 185 11 [some (.inr 100), some (.inl x1), some (.inl x2), some (.inl r3)] [] Z2 (zri Q))
  refine z0 (op := 5) (a := 0) (b := 0) (by rfl) (by rfl) (?_ : TZ (d + 1) 185 12 [some (.inr 100), some (.inl x1), some (.inl x2), some (.inl r3)] [.inr 100] Z2 (zri Q))
  refine z_fi (by rfl) fi112_100 (?_ : TZ (d + 1) 185 15 [some (.inr 100), some (.inl x1), some (.inl x2), some (.inl r3)] [.inl (Z2 100 7)] Z2 (zri Q))
  refine z0 (op := 5) (a := 0) (b := 0) (by rfl) (by rfl) (?_ : TZ (d + 1) 185 16 [some (.inr 100), some (.inl x1), some (.inl x2), some (.inl r3)] [.inr 100, .inl (Z2 100 7)] Z2 (zri Q))
  refine z_fr (by rfl) fr91_100 (?_ : TZ (d + 1) 185 19 [some (.inr 100), some (.inl x1), some (.inl x2), some (.inl r3)] [.inr 104, .inl (Z2 100 7)] Z2 (zri Q))
  refine z0 (op := 3) (a := 1) (b := 0) (by rfl) (by rfl) (?_ : TZ (d + 1) 185 20 [some (.inr 100), some (.inl x1), some (.inl x2), some (.inl r3)] [.inl x1, .inr 104, .inl (Z2 100 7)] Z2 (zri Q))
  obtain ⟨c4, v⟩ := v
  refine z_al (by rfl) ln_104 c4 (?_ : TZ (d + 1) 185 21 [some (.inr 100), some (.inl x1), some (.inl x2), some (.inl r3)] [.inl (Z2 104 x1), .inl (Z2 100 7)] Z2 (zri Q))
  refine z0 (op := 12) (a := 0) (b := 0) (by rfl) (by rfl) (?_ : TZ (d + 1) 185 22 [some (.inr 100), some (.inl x1), some (.inl x2), some (.inl r3)] [.inl ((Z2 100 7) + (Z2 104 x1))] Z2 (zri Q))
  refine z0 (op := 0) (a := 0) (b := 3) (by rfl) (by rfl) (?_ : TZ (d + 1) 185 23 [some (.inr 100), some (.inl x1), some (.inl x2), some (.inl r3)] [.inl 3, .inl ((Z2 100 7) + (Z2 104 x1))] Z2 (zri Q))
  obtain ⟨c5, v⟩ := v
  refine z_rem (by rfl) c5 (by decide) (?_ : TZ (d + 1) 185 24 [some (.inr 100), some (.inl x1), some (.inl x2), some (.inl r3)] [.inl (Int.tmod ((Z2 100 7) + (Z2 104 x1)) 3)] Z2 (zri Q))
  obtain ⟨c6, v1, v2⟩ := v
  refine z_if0 (a := 1) (t := 37) (by rfl) (by rfl) c6 (fun h7 => ?_) (fun h7 => ?_)
  · have v := v1 h7; clear v1 v2
    show TZ (d + 1) 185 37 [some (.inr 100), some (.inl x1), some (.inl x2), some (.inl r3)] [] Z2 (zri Q)
    refine z0 (op := 3) (a := 3) (b := 0) (by rfl) (by rfl) (?_ : TZ (d + 1) 185 38 [some (.inr 100), some (.inl x1), some (.inl x2), some (.inl r3)] [.inl r3] Z2 (zri Q))
    exact z_reti (by rfl) (by rfl) v
  · have v := v2 h7; clear v1 v2
    show TZ (d + 1) 185 27 [some (.inr 100), some (.inl x1), some (.inl x2), some (.inl r3)] [] Z2 (zri Q)
    refine z0 (op := 3) (a := 3) (b := 0) (by rfl) (by rfl) (?_ : TZ (d + 1) 185 28 [some (.inr 100), some (.inl x1), some (.inl x2), some (.inl r3)] [.inl r3] Z2 (zri Q))
    obtain ⟨c8, v1, v2⟩ := v
    refine z_if0 (a := 5) (t := 37) (by rfl) (by rfl) c8 (fun h9 => ?_) (fun h9 => ?_)
    · have v := v1 h9; clear v1 v2
      show TZ (d + 1) 185 37 [some (.inr 100), some (.inl x1), some (.inl x2), some (.inl r3)] [] Z2 (zri Q)
      refine z0 (op := 3) (a := 3) (b := 0) (by rfl) (by rfl) (?_ : TZ (d + 1) 185 38 [some (.inr 100), some (.inl x1), some (.inl x2), some (.inl r3)] [.inl r3] Z2 (zri Q))
      exact z_reti (by rfl) (by rfl) v
    · have v := v2 h9; clear v1 v2
      show TZ (d + 1) 185 31 [some (.inr 100), some (.inl x1), some (.inl x2), some (.inl r3)] [] Z2 (zri Q)
      refine z0 (op := 3) (a := 3) (b := 0) (by rfl) (by rfl) (?_ : TZ (d + 1) 185 32 [some (.inr 100), some (.inl x1), some (.inl x2), some (.inl r3)] [.inl r3] Z2 (zri Q))
      refine z0 (op := 0) (a := 0) (b := 1) (by rfl) (by rfl) (?_ : TZ (d + 1) 185 33 [some (.inr 100), some (.inl x1), some (.inl x2), some (.inl r3)] [.inl 1, .inl r3] Z2 (zri Q))
      refine z0 (op := 12) (a := 1) (b := 0) (by rfl) (by rfl) (?_ : TZ (d + 1) 185 34 [some (.inr 100), some (.inl x1), some (.inl x2), some (.inl r3)] [.inl (r3 - 1)] Z2 (zri Q))
      refine z_goto (t := 38) (by rfl) (by rfl) (?_ : TZ (d + 1) 185 38 [some (.inr 100), some (.inl x1), some (.inl x2), some (.inl r3)] [.inl (r3 - 1)] Z2 (zri Q))
      exact z_reti (by rfl) (by rfl) v
theorem w186_0 {d : Nat} {x1 x2 : Int} {Z : zM} {Q : Int → zM → Prop}
    (v : zR x2 ∧
      (x2 < 0 → ((0 ≤ x1 ∧ x1 < 8) ∧
          TI d 184 [.inl (Z 105 x1), .inl x2] Z (fun r5 Z4 =>
          Q r5 Z4))) ∧
      (¬ x2 < 0 → ((0 ≤ x1 ∧ x1 < 8) ∧
          TI d 182 [.inl x2, .inl (Z 105 x1)] Z (fun r8 Z7 =>
          zR r8 ∧
            (r8 ≠ 1 → ((0 ≤ x1 ∧ x1 < 8) ∧
                TI d 184 [.inl (Z7 105 x1), .inl x2] Z7 (fun r13 Z12 =>
                Q r13 Z12))) ∧
            (¬ r8 ≠ 1 → ((0 ≤ x1 ∧ x1 < 8) ∧ Q (Z7 105 x1) Z7)))))) :
    TZ (d + 1) 186 0 [some (.inr 100), some (.inl x1), some (.inl x2)] [] Z (zri Q) := by
  refine z0 (op := 3) (a := 2) (b := 0) (by rfl) (by rfl) (?_ : TZ (d + 1) 186 1 [some (.inr 100), some (.inl x1), some (.inl x2)] [.inl x2] Z (zri Q))
  obtain ⟨c1, v1, v2⟩ := v
  refine z_if0 (a := 2) (t := 27) (by rfl) (by rfl) c1 (fun h2 => ?_) (fun h2 => ?_)
  · have v := v1 h2; clear v1 v2
    show TZ (d + 1) 186 27 [some (.inr 100), some (.inl x1), some (.inl x2)] [] Z (zri Q)
    refine z0 (op := 5) (a := 0) (b := 0) (by rfl) (by rfl) (?_ : TZ (d + 1) 186 28 [some (.inr 100), some (.inl x1), some (.inl x2)] [.inr 100] Z (zri Q))
    refine z_fr (by rfl) fr92_100 (?_ : TZ (d + 1) 186 31 [some (.inr 100), some (.inl x1), some (.inl x2)] [.inr 105] Z (zri Q))
    refine z0 (op := 3) (a := 1) (b := 0) (by rfl) (by rfl) (?_ : TZ (d + 1) 186 32 [some (.inr 100), some (.inl x1), some (.inl x2)] [.inl x1, .inr 105] Z (zri Q))
    obtain ⟨c3, v⟩ := v
    refine z_al (by rfl) ln_105 c3 (?_ : TZ (d + 1) 186 33 [some (.inr 100), some (.inl x1), some (.inl x2)] [.inl (Z 105 x1)] Z (zri Q))
    refine z0 (op := 3) (a := 2) (b := 0) (by rfl) (by rfl) (?_ : TZ (d + 1) 186 34 [some (.inr 100), some (.inl x1), some (.inl x2)] [.inl x2, .inl (Z 105 x1)] Z (zri Q))
    refine z_si (by rfl) (by rfl) (TI.mono v fun r5 Z4 v => ?_)
    show TZ (d + 1) 186 37 [some (.inr 100), some (.inl x1), some (.inl x2)] [.inl r5] Z4 (zri Q)
    exact z_reti (by rfl) (by rfl) v
  · have v := v2 h2; clear v1 v2
    show TZ (d + 1) 186 4 [some (.inr 100), some (.inl x1), some (.inl x2)] [] Z (zri Q)
    refine z0 (op := 3) (a := 2) (b := 0) (by rfl) (by rfl) (?_ : TZ (d + 1) 186 5 [some (.inr 100), some (.inl x1), some (.inl x2)] [.inl x2] Z (zri Q))
    refine z0 (op := 5) (a := 0) (b := 0) (by rfl) (by rfl) (?_ : TZ (d + 1) 186 6 [some (.inr 100), some (.inl x1), some (.inl x2)] [.inr 100, .inl x2] Z (zri Q))
    refine z_fr (by rfl) fr92_100 (?_ : TZ (d + 1) 186 9 [some (.inr 100), some (.inl x1), some (.inl x2)] [.inr 105, .inl x2] Z (zri Q))
    refine z0 (op := 3) (a := 1) (b := 0) (by rfl) (by rfl) (?_ : TZ (d + 1) 186 10 [some (.inr 100), some (.inl x1), some (.inl x2)] [.inl x1, .inr 105, .inl x2] Z (zri Q))
    obtain ⟨c6, v⟩ := v
    refine z_al (by rfl) ln_105 c6 (?_ : TZ (d + 1) 186 11 [some (.inr 100), some (.inl x1), some (.inl x2)] [.inl (Z 105 x1), .inl x2] Z (zri Q))
    refine z_si (by rfl) (by rfl) (TI.mono v fun r8 Z7 v => ?_)
    show TZ (d + 1) 186 14 [some (.inr 100), some (.inl x1), some (.inl x2)] [.inl r8] Z7 (zri Q)
    refine z0 (op := 0) (a := 0) (b := 1) (by rfl) (by rfl) (?_ : TZ (d + 1) 186 15 [some (.inr 100), some (.inl x1), some (.inl x2)] [.inl 1, .inl r8] Z7 (zri Q))
    obtain ⟨c9, v1, v2⟩ := v
    refine z_if2 (a := 1) (t := 27) (by rfl) (by rfl) c9 (by decide) (fun h10 => ?_) (fun h10 => ?_)
    · have v := v1 h10; clear v1 v2
      show TZ (d + 1) 186 27 [some (.inr 100), some (.inl x1), some (.inl x2)] [] Z7 (zri Q)
      refine z0 (op := 5) (a := 0) (b := 0) (by rfl) (by rfl) (?_ : TZ (d + 1) 186 28 [some (.inr 100), some (.inl x1), some (.inl x2)] [.inr 100] Z7 (zri Q))
      refine z_fr (by rfl) fr92_100 (?_ : TZ (d + 1) 186 31 [some (.inr 100), some (.inl x1), some (.inl x2)] [.inr 105] Z7 (zri Q))
      refine z0 (op := 3) (a := 1) (b := 0) (by rfl) (by rfl) (?_ : TZ (d + 1) 186 32 [some (.inr 100), some (.inl x1), some (.inl x2)] [.inl x1, .inr 105] Z7 (zri Q))
      obtain ⟨c11, v⟩ := v
      refine z_al (by rfl) ln_105 c11 (?_ : TZ (d + 1) 186 33 [some (.inr 100), some (.inl x1), some (.inl x2)] [.inl (Z7 105 x1)] Z7 (zri Q))
      refine z0 (op := 3) (a := 2) (b := 0) (by rfl) (by rfl) (?_ : TZ (d + 1) 186 34 [some (.inr 100), some (.inl x1), some (.inl x2)] [.inl x2, .inl (Z7 105 x1)] Z7 (zri Q))
      refine z_si (by rfl) (by rfl) (TI.mono v fun r13 Z12 v => ?_)
      show TZ (d + 1) 186 37 [some (.inr 100), some (.inl x1), some (.inl x2)] [.inl r13] Z12 (zri Q)
      exact z_reti (by rfl) (by rfl) v
    · have v := v2 h10; clear v1 v2
      show TZ (d + 1) 186 18 [some (.inr 100), some (.inl x1), some (.inl x2)] [] Z7 (zri Q)
      refine z0 (op := 5) (a := 0) (b := 0) (by rfl) (by rfl) (?_ : TZ (d + 1) 186 19 [some (.inr 100), some (.inl x1), some (.inl x2)] [.inr 100] Z7 (zri Q))
      refine z_fr (by rfl) fr92_100 (?_ : TZ (d + 1) 186 22 [some (.inr 100), some (.inl x1), some (.inl x2)] [.inr 105] Z7 (zri Q))
      refine z0 (op := 3) (a := 1) (b := 0) (by rfl) (by rfl) (?_ : TZ (d + 1) 186 23 [some (.inr 100), some (.inl x1), some (.inl x2)] [.inl x1, .inr 105] Z7 (zri Q))
      obtain ⟨c14, v⟩ := v
      refine z_al (by rfl) ln_105 c14 (?_ : TZ (d + 1) 186 24 [some (.inr 100), some (.inl x1), some (.inl x2)] [.inl (Z7 105 x1)] Z7 (zri Q))
      refine z_goto (t := 37) (by rfl) (by rfl) (?_ : TZ (d + 1) 186 37 [some (.inr 100), some (.inl x1), some (.inl x2)] [.inl (Z7 105 x1)] Z7 (zri Q))
      exact z_reti (by rfl) (by rfl) v
theorem w187_0 {d : Nat} {x1 x2 : Int} {Z : zM} {Q : Int → zM → Prop}
    (v : (0 ≤ x1 ∧ x1 < 8) ∧
      zR (Z 103 x1) ∧
      ((Z 103 x1) = 1 → TI d 185 [.inr 100, .inl x1, .inl x2] Z (fun r7 Z6 =>
          Q r7 Z6)) ∧
      ((Z 103 x1) = 2 → TI d 186 [.inr 100, .inl x1, .inl x2] Z (fun r9 Z8 =>
          Q r9 Z8)) ∧
      ((Z 103 x1) = 3 → (zR x2 ∧
          (x2 < 0 → TI d 185 [.inr 100, .inl x1, .inl x2] Z (fun r13 Z12 =>
              Q r13 Z12)) ∧
          (¬ x2 < 0 → ((0 ≤ x1 ∧ x1 < 8) ∧
              TI d 182 [.inl x2, .inl (Z 105 x1)] Z (fun r16 Z15 =>
              (0 ≤ x1 ∧ x1 < 8) ∧
                zR r16 ∧
                zR (Z15 104 x1) ∧
                ((Z15 104 x1) < r16 → TI d 185 [.inr 100, .inl x1, .inl x2] Z15 (fun r22 Z21 =>
                    Q r22 Z21)) ∧
                (¬ (Z15 104 x1) < r16 → Q x2 Z15)))))) ∧
      ((Z 103 x1) = 4 → ((0 ≤ x1 ∧ x1 < 8) ∧
          TI d 159 [.inr 100, .inl (Z 105 x1)] Z (fun r25 Z24 =>
          zR r25 ∧
            (r25 ≠ 1 → TI d 186 [.inr 100, .inl x1, .inl x2] Z24 (fun r29 Z28 =>
                Q r29 Z28)) ∧
            (¬ r25 ≠ 1 → ((0 ≤ x1 ∧ x1 < 8) ∧
                TI d 184 [.inl (Z24 105 x1), .inl x2] Z24 (fun r32 Z31 =>
                Q r32 Z31)))))) ∧
      ((Z 103 x1) = 5 → TI d 186 [.inr 100, .inl x1, .inl x2] Z (fun r34 Z33 =>
          (0 ≤ x1 ∧ x1 < 8) ∧
            zR (Z33 104 x1) ∧
            TI d 183 [.inl r34, .inl (Int.tdiv (Z33 104 x1) 3)] Z33 (fun r38 Z37 =>
            Q r38 Z37))) ∧
      (((Z 103 x1) ≠ 1 ∧ (Z 103 x1) ≠ 2 ∧ (Z 103 x1) ≠ 3 ∧ (Z 103 x1) ≠ 4 ∧ (Z 103 x1) ≠ 5) → ((0 ≤ x1 ∧ x1 < 8) ∧
          TI d 184 [.inl (Z 105 x1), .inl x2] Z (fun r5 Z4 =>
          Q r5 Z4)))) :
    TZ (d + 1) 187 0 [some (.inr 100), some (.inl x1), some (.inl x2)] [] Z (zri Q) := by
  refine z0 (op := 5) (a := 0) (b := 0) (by rfl) (by rfl) (?_ : TZ (d + 1) 187 1 [some (.inr 100), some (.inl x1), some (.inl x2)] [.inr 100] Z (zri Q))
  refine z_fr (by rfl) fr90_100 (?_ : TZ (d + 1) 187 4 [some (.inr 100), some (.inl x1), some (.inl x2)] [.inr 103] Z (zri Q))
  refine z0 (op := 3) (a := 1) (b := 0) (by rfl) (by rfl) (?_ : TZ (d + 1) 187 5 [some (.inr 100), some (.inl x1), some (.inl x2)] [.inl x1, .inr 103] Z (zri Q))
  obtain ⟨c1, v⟩ := v
  refine z_al (by rfl) ln_103 c1 (?_ : TZ (d + 1) 187 6 [some (.inr 100), some (.inl x1), some (.inl x2)] [.inl (Z 103 x1)] Z (zri Q))
  obtain ⟨c2, v⟩ := v
  obtain ⟨w0, w1, w2, w3, w4, w5⟩ := v
  have hd : (Z 103 x1) ≠ 1 ∧ (Z 103 x1) ≠ 2 ∧ (Z 103 x1) ≠ 3 ∧ (Z 103 x1) ≠ 4 ∧ (Z 103 x1) ≠ 5 → TZ (d + 1) 187 140 [some (.inr 100), some (.inl x1), some (.inl x2)] [] Z (zri Q) := fun hh => by
    have v := w5 hh; clear w0 w1 w2 w3 w4 w5
    refine z0 (op := 5) (a := 0) (b := 0) (by rfl) (by rfl) (?_ : TZ (d + 1) 187 141 [some (.inr 100), some (.inl x1), some (.inl x2)] [.inr 100] Z (zri Q))
    refine z_fr (by rfl) fr92_100 (?_ : TZ (d + 1) 187 144 [some (.inr 100), some (.inl x1), some (.inl x2)] [.inr 105] Z (zri Q))
    refine z0 (op := 3) (a := 1) (b := 0) (by rfl) (by rfl) (?_ : TZ (d + 1) 187 145 [some (.inr 100), some (.inl x1), some (.inl x2)] [.inl x1, .inr 105] Z (zri Q))
    obtain ⟨c3, v⟩ := v
    refine z_al (by rfl) ln_105 c3 (?_ : TZ (d + 1) 187 146 [some (.inr 100), some (.inl x1), some (.inl x2)] [.inl (Z 105 x1)] Z (zri Q))
    refine z0 (op := 3) (a := 2) (b := 0) (by rfl) (by rfl) (?_ : TZ (d + 1) 187 147 [some (.inr 100), some (.inl x1), some (.inl x2)] [.inl x2, .inl (Z 105 x1)] Z (zri Q))
    refine z_si (by rfl) (by rfl) (TI.mono v fun r5 Z4 v => ?_)
    show TZ (d + 1) 187 150 [some (.inr 100), some (.inl x1), some (.inl x2)] [.inl r5] Z4 (zri Q)
    exact z_reti (by rfl) (by rfl) v
  have hc0 : (Z 103 x1) = 1 → TZ (d + 1) 187 40 [some (.inr 100), some (.inl x1), some (.inl x2)] [] Z (zri Q) := fun hh => by
    have v := w0 hh; clear w0 w1 w2 w3 w4 w5 hd
    refine z0 (op := 5) (a := 0) (b := 0) (by rfl) (by rfl) (?_ : TZ (d + 1) 187 41 [some (.inr 100), some (.inl x1), some (.inl x2)] [.inr 100] Z (zri Q))
    refine z0 (op := 3) (a := 1) (b := 0) (by rfl) (by rfl) (?_ : TZ (d + 1) 187 42 [some (.inr 100), some (.inl x1), some (.inl x2)] [.inl x1, .inr 100] Z (zri Q))
    refine z0 (op := 3) (a := 2) (b := 0) (by rfl) (by rfl) (?_ : TZ (d + 1) 187 43 [some (.inr 100), some (.inl x1), some (.inl x2)] [.inl x2, .inl x1, .inr 100] Z (zri Q))
    refine z_vi (by rfl) (by rfl) cl_100 (TI.mono v fun r7 Z6 v => ?_)
    show TZ (d + 1) 187 46 [some (.inr 100), some (.inl x1), some (.inl x2)] [.inl r7] Z6 (zri Q)
    exact z_reti (by rfl) (by rfl) v
  have hc1 : (Z 103 x1) = 2 → TZ (d + 1) 187 47 [some (.inr 100), some (.inl x1), some (.inl x2)] [] Z (zri Q) := fun hh => by
    have v := w1 hh; clear w0 w1 w2 w3 w4 w5 hd hc0
    refine z0 (op := 5) (a := 0) (b := 0) (by rfl) (by rfl) (?_ : TZ (d + 1) 187 48 [some (.inr 100), some (.inl x1), some (.inl x2)] [.inr 100] Z (zri Q))
    refine z0 (op := 3) (a := 1) (b := 0) (by rfl) (by rfl) (?_ : TZ (d + 1) 187 49 [some (.inr 100), some (.inl x1), some (.inl x2)] [.inl x1, .inr 100] Z (zri Q))
    refine z0 (op := 3) (a := 2) (b := 0) (by rfl) (by rfl) (?_ : TZ (d + 1) 187 50 [some (.inr 100), some (.inl x1), some (.inl x2)] [.inl x2, .inl x1, .inr 100] Z (zri Q))
    refine z_vi (by rfl) (by rfl) cl_100 (TI.mono v fun r9 Z8 v => ?_)
    show TZ (d + 1) 187 53 [some (.inr 100), some (.inl x1), some (.inl x2)] [.inl r9] Z8 (zri Q)
    exact z_reti (by rfl) (by rfl) v
  have hc2 : (Z 103 x1) = 3 → TZ (d + 1) 187 54 [some (.inr 100), some (.inl x1), some (.inl x2)] [] Z (zri Q) := fun hh => by
    have v := w2 hh; clear w0 w1 w2 w3 w4 w5 hd hc0 hc1
    refine z0 (op := 3) (a := 2) (b := 0) (by rfl) (by rfl) (?_ : TZ (d + 1) 187 55 [some (.inr 100), some (.inl x1), some (.inl x2)] [.inl x2] Z (zri Q))
    obtain ⟨c10, v1, v2⟩ := v
    refine z_if0 (a := 2) (t := 81) (by rfl) (by rfl) c10 (fun h11 => ?_) (fun h11 => ?_)
    · have v := v1 h11; clear v1 v2
      show TZ (d + 1) 187 81 [some (.inr 100), some (.inl x1), some (.inl x2)] [] Z (zri Q)
      refine z0 (op := 5) (a := 0) (b := 0) (by rfl) (by rfl) (?_ : TZ (d + 1) 187 82 [some (.inr 100), some (.inl x1), some (.inl x2)] [.inr 100] Z (zri Q))
      refine z0 (op := 3) (a := 1) (b := 0) (by rfl) (by rfl) (?_ : TZ (d + 1) 187 83 [some (.inr 100), some (.inl x1), some (.inl x2)] [.inl x1, .inr 100] Z (zri Q))
      refine z0 (op := 3) (a := 2) (b := 0) (by rfl) (by rfl) (?_ : TZ (d + 1) 187 84 [some (.inr 100), some (.inl x1), some (.inl x2)] [.inl x2, .inl x1, .inr 100] Z (zri Q))
      refine z_vi (by rfl) (by rfl) cl_100 (TI.mono v fun r13 Z12 v => ?_)
      show TZ (d + 1) 187 87 [some (.inr 100), some (.inl x1), some (.inl x2)] [.inl r13] Z12 (zri Q)
      exact z_reti (by rfl) (by rfl) v
    · have v := v2 h11; clear v1 v2
      show TZ (d + 1) 187 58 [some (.inr 100), some (.inl x1), some (.inl x2)] [] Z (zri Q)
      refine z0 (op := 3) (a := 2) (b := 0) (by rfl) (by rfl) (?_ : TZ (d + 1) 187 59 [some (.inr 100), some (.inl x1), some (.inl x2)] [.inl x2] Z (zri Q))
      refine z0 (op := 5) (a := 0) (b := 0) (by rfl) (by rfl) (?_ : TZ (d + 1) 187 60 [some (.inr 100), some (.inl x1), some (.inl x2)] [.inr 100, .inl x2] Z (zri Q))
      refine z_fr (by rfl) fr92_100 (?_ : TZ (d + 1) 187 63 [some (.inr 100), some (.inl x1), some (.inl x2)] [.inr 105, .inl x2] Z (zri Q))
      refine z0 (op := 3) (a := 1) (b := 0) (by rfl) (by rfl) (?_ : TZ (d + 1) 187 64 [some (.inr 100), some (.inl x1), some (.inl x2)] [.inl x1, .inr 105, .inl x2] Z (zri Q))
      obtain ⟨c14, v⟩ := v
      refine z_al (by rfl) ln_105 c14 (?_ : TZ (d + 1) 187 65 [some (.inr 100), some (.inl x1), some (.inl x2)] [.inl (Z 105 x1), .inl x2] Z (zri Q))
      refine z_si (by rfl) (by rfl) (TI.mono v fun r16 Z15 v => ?_)
      show TZ (d + 1) 187 68 [some (.inr 100), some (.inl x1), some (.inl x2)] [.inl r16] Z15 (zri Q)
      refine z0 (op := 5) (a := 0) (b := 0) (by rfl) (by rfl) (?_ : TZ (d + 1) 187 69 [some (.inr 100), some (.inl x1), some (.inl x2)] [.inr 100, .inl r16] Z15 (zri Q))
      refine z_fr (by rfl) fr91_100 (?_ : TZ (d + 1) 187 72 [some (.inr 100), some (.inl x1), some (.inl x2)] [.inr 104, .inl r16] Z15 (zri Q))
      refine z0 (op := 3) (a := 1) (b := 0) (by rfl) (by rfl) (?_ : TZ (d + 1) 187 73 [some (.inr 100), some (.inl x1), some (.inl x2)] [.inl x1, .inr 104, .inl r16] Z15 (zri Q))
      obtain ⟨c17, v⟩ := v
      refine z_al (by rfl) ln_104 c17 (?_ : TZ (d + 1) 187 74 [some (.inr 100), some (.inl x1), some (.inl x2)] [.inl (Z15 104 x1), .inl r16] Z15 (zri Q))
      obtain ⟨c18, c19, v1, v2⟩ := v
      refine z_if2 (a := 4) (t := 81) (by rfl) (by rfl) c18 c19 (fun h20 => ?_) (fun h20 => ?_)
      · have v := v1 h20; clear v1 v2
        show TZ (d + 1) 187 81 [some (.inr 100), some (.inl x1), some (.inl x2)] [] Z15 (zri Q)
        refine z0 (op := 5) (a := 0) (b := 0) (by rfl) (by rfl) (?_ : TZ (d + 1) 187 82 [some (.inr 100), some (.inl x1), some (.inl x2)] [.inr 100] Z15 (zri Q))
        refine z0 (op := 3) (a := 1) (b := 0) (by rfl) (by rfl) (?_ : TZ (d + 1) 187 83 [some (.inr 100), some (.inl x1), some (.inl x2)] [.inl x1, .inr 100] Z15 (zri Q))
        refine z0 (op := 3) (a := 2) (b := 0) (by rfl) (by rfl) (?_ : TZ (d + 1) 187 84 [some (.inr 100), some (.inl x1), some (.inl x2)] [.inl x2, .inl x1, .inr 100] Z15 (zri Q))
        refine z_vi (by rfl) (by rfl) cl_100 (TI.mono v fun r22 Z21 v => ?_)
        show TZ (d + 1) 187 87 [some (.inr 100), some (.inl x1), some (.inl x2)] [.inl r22] Z21 (zri Q)
        exact z_reti (by rfl) (by rfl) v
      · have v := v2 h20; clear v1 v2
        show TZ (d + 1) 187 77 [some (.inr 100), some (.inl x1), some (.inl x2)] [] Z15 (zri Q)
        refine z0 (op := 3) (a := 2) (b := 0) (by rfl) (by rfl) (?_ : TZ (d + 1) 187 78 [some (.inr 100), some (.inl x1), some (.inl x2)] [.inl x2] Z15 (zri Q))
        refine z_goto (t := 87) (by rfl) (by rfl) (?_ : TZ (d + 1) 187 87 [some (.inr 100), some (.inl x1), some (.inl x2)] [.inl x2] Z15 (zri Q))
        exact z_reti (by rfl) (by rfl) v
  have hc3 : (Z 103 x1) = 4 → TZ (d + 1) 187 88 [some (.inr 100), some (.inl x1), some (.inl x2)] [] Z (zri Q) := fun hh => by
    have v := w3 hh; clear w0 w1 w2 w3 w4 w5 hd hc0 hc1 hc2
    refine z0 (op := 5) (a := 0) (b := 0) (by rfl) (by rfl) (?_ : TZ (d + 1) 187 89 [some (.inr 100), some (.inl x1), some (.inl x2)] [.inr 100] Z (zri Q))
    refine z0 (op := 5) (a := 0) (b := 0) (by rfl) (by rfl) (?_ : TZ (d + 1) 187 90 [some (.inr 100), some (.inl x1), some (.inl x2)] [.inr 100, .inr 100] Z (zri Q))
    refine z_fr (by rfl) fr92_100 (?_ : TZ (d + 1) 187 93 [some (.inr 100), some (.inl x1), some (.inl x2)] [.inr 105, .inr 100] Z (zri Q))
    refine z0 (op := 3) (a := 1) (b := 0) (by rfl) (by rfl) (?_ : TZ (d + 1) 187 94 [some (.inr 100), some (.inl x1), some (.inl x2)] [.inl x1, .inr 105, .inr 100] Z (zri Q))
    obtain ⟨c23, v⟩ := v
    refine z_al (by rfl) ln_105 c23 (?_ : TZ (d + 1) 187 95 [some (.inr 100), some (.inl x1), some (.inl x2)] [.inl (Z 105 x1), .inr 100] Z (zri Q))
    refine z_vi (by rfl) (by rfl) cl_100 (TI.mono v fun r25 Z24 v => ?_)
    show TZ (d + 1) 187 98 [some (.inr 100), some (.inl x1), some (.inl x2)] [.inl r25] Z24 (zri Q)
    refine z0 (op := 0) (a := 0) (b := 1) (by rfl) (by rfl) (?_ : TZ (d + 1) 187 99 [some (.inr 100), some (.inl x1), some (.inl x2)] [.inl 1, .inl r25] Z24 (zri Q))
    obtain ⟨c26, v1, v2⟩ := v
    refine z_if2 (a := 1) (t := 115) (by rfl) (by rfl) c26 (by decide) (fun h27 => ?_) (fun h27 => ?_)
    · have v := v1 h27; clear v1 v2
      show TZ (d + 1) 187 115 [some (.inr 100), some (.inl x1), some (.inl x2)] [] Z24 (zri Q)
      refine z0 (op := 5) (a := 0) (b := 0) (by rfl) (by rfl) (?_ : TZ (d + 1) 187 116 [some (.inr 100), some (.inl x1), some (.inl x2)] [.inr 100] Z24 (zri Q))
      refine z0 (op := 3) (a := 1) (b := 0) (by rfl) (by rfl) (?_ : TZ (d + 1) 187 117 [some (.inr 100), some (.inl x1), some (.inl x2)] [.inl x1, .inr 100] Z24 (zri Q))
      refine z0 (op := 3) (a := 2) (b := 0) (by rfl) (by rfl) (?_ : TZ (d + 1) 187 118 [some (.inr 100), some (.inl x1), some (.inl x2)] [.inl x2, .inl x1, .inr 100] Z24 (zri Q))
      refine z_vi (by rfl) (by rfl) cl_100 (TI.mono v fun r29 Z28 v => ?_)
      show TZ (d + 1) 187 121 [some (.inr 100), some (.inl x1), some (.inl x2)] [.inl r29] Z28 (zri Q)
      exact z_reti (by rfl) (by rfl) v
    · have v := v2 h27; clear v1 v2
      show TZ (d + 1) 187 102 [some (.inr 100), some (.inl x1), some (.inl x2)] [] Z24 (zri Q)
      refine z0 (op := 5) (a := 0) (b := 0) (by rfl) (by rfl) (?_ : TZ (d + 1) 187 103 [some (.inr 100), some (.inl x1), some (.inl x2)] [.inr 100] Z24 (zri Q))
      refine z_fr (by rfl) fr92_100 (?_ : TZ (d + 1) 187 106 [some (.inr 100), some (.inl x1), some (.inl x2)] [.inr 105] Z24 (zri Q))
      refine z0 (op := 3) (a := 1) (b := 0) (by rfl) (by rfl) (?_ : TZ (d + 1) 187 107 [some (.inr 100), some (.inl x1), some (.inl x2)] [.inl x1, .inr 105] Z24 (zri Q))
      obtain ⟨c30, v⟩ := v
      refine z_al (by rfl) ln_105 c30 (?_ : TZ (d + 1) 187 108 [some (.inr 100), some (.inl x1), some (.inl x2)] [.inl (Z24 105 x1)] Z24 (zri Q))
      refine z0 (op := 3) (a := 2) (b := 0) (by rfl) (by rfl) (?_ : TZ (d + 1) 187 109 [some (.inr 100), some (.inl x1), some (.inl x2)] [.inl x2, .inl (Z24 105 x1)] Z24 (zri Q))
      refine z_si (by rfl) (by rfl) (TI.mono v fun r32 Z31 v => ?_)
      show TZ (d + 1) 187 112 [some (.inr 100), some (.inl x1), some (.inl x2)] [.inl r32] Z31 (zri Q)
      refine z_goto (t := 121) (by rfl) (by rfl) (?_ : TZ (d + 1) 187 121 [some (.inr 100), some (.inl x1), some (.inl x2)] [.inl r32] Z31 (zri Q))
      exact z_reti (by rfl) (by rfl) v
  have hc4 : (Z 103 x1) = 5 → TZ (d + 1) 187 122 [some (.inr 100), some (.inl x1), some (.inl x2)] [] Z (zri Q) := fun hh => by
    have v := w4 hh; clear w0 w1 w2 w3 w4 w5 hd hc0 hc1 hc2 hc3
    refine z0 (op := 5) (a := 0) (b := 0) (by rfl) (by rfl) (?_ : TZ (d + 1) 187 123 [some (.inr 100), some (.inl x1), some (.inl x2)] [.inr 100] Z (zri Q))
    refine z0 (op := 3) (a := 1) (b := 0) (by rfl) (by rfl) (?_ : TZ (d + 1) 187 124 [some (.inr 100), some (.inl x1), some (.inl x2)] [.inl x1, .inr 100] Z (zri Q))
    refine z0 (op := 3) (a := 2) (b := 0) (by rfl) (by rfl) (?_ : TZ (d + 1) 187 125 [some (.inr 100), some (.inl x1), some (.inl x2)] [.inl x2, .inl x1, .inr 100] Z (zri Q))
    refine z_vi (by rfl) (by rfl) cl_100 (TI.mono v fun r34 Z33 v => ?_)
    show TZ (d + 1) 187 128 [some (.inr 100), some (.inl x1), some (.inl x2)] [.inl r34] Z33 (zri Q)
    refine z0 (op := 5) (a := 0) (b := 0) (by rfl) (by rfl) (?_ : TZ (d + 1) 187 129 [some (.inr 100), some (.inl x1), some (.inl x2)] [.inr 100, .inl r34] Z33 (zri Q))
    refine z_fr (by rfl) fr91_100 (?_ : TZ (d + 1) 187 132 [some (.inr 100), some (.inl x1), some (.inl x2)] [.inr 104, .inl r34] Z33 (zri Q))
    refine z0 (op := 3) (a := 1) (b := 0) (by rfl) (by rfl) (?_ : TZ (d + 1) 187 133 [some (.inr 100), some (.inl x1), some (.inl x2)] [.inl x1, .inr 104, .inl r34] Z33 (zri Q))
    obtain ⟨c35, v⟩ := v
    refine z_al (by rfl) ln_104 c35 (?_ : TZ (d + 1) 187 134 [some (.inr 100), some (.inl x1), some (.inl x2)] [.inl (Z33 104 x1), .inl r34] Z33 (zri Q))
    refine z0 (op := 0) (a := 0) (b := 3) (by rfl) (by rfl) (?_ : TZ (d + 1) 187 135 [some (.inr 100), some (.inl x1), some (.inl x2)] [.inl 3, .inl (Z33 104 x1), .inl r34] Z33 (zri Q))
    obtain ⟨c36, v⟩ := v
    refine z_div (by rfl) c36 (by decide) (?_ : TZ (d + 1) 187 136 [some (.inr 100), some (.inl x1), some (.inl x2)] [.inl (Int.tdiv (Z33 104 x1) 3), .inl r34] Z33 (zri Q))
    refine z_si (by rfl) (by rfl) (TI.mono v fun r38 Z37 v => ?_)
    show TZ (d + 1) 187 139 [some (.inr 100), some (.inl x1), some (.inl x2)] [.inl r38] Z37 (zri Q)
    exact z_reti (by rfl) (by rfl) v
  refine z_tsw (t := 140) (by rfl) (by rfl) (by decide) (by rfl) c2 (fun n o hn hx => ?_) (fun hx => hd (by omega))
  match n, hn with
  | 0, hn => have e := Option.some.inj hn; subst e; exact ⟨40, by rfl, hc0 (by omega)⟩
  | 1, hn => have e := Option.some.inj hn; subst e; exact ⟨47, by rfl, hc1 (by omega)⟩
  | 2, hn => have e := Option.some.inj hn; subst e; exact ⟨54, by rfl, hc2 (by omega)⟩
  | 3, hn => have e := Option.some.inj hn; subst e; exact ⟨88, by rfl, hc3 (by omega)⟩
  | 4, hn => have e := Option.some.inj hn; subst e; exact ⟨122, by rfl, hc4 (by omega)⟩
  | n + 5, hn => exact absurd hn (by simp)
theorem w188_0 {d : Nat} {x1 : Int} {Z : zM} {Q : Int → zM → Prop}
    (v : TZ d 188 4 [some (.inr 100), some (.inl x1), some (.inl 0), some (.inl 0), none] [] Z (zri Q)) :
    TZ d 188 0 [some (.inr 100), some (.inl x1), none, none, none] [] Z (zri Q) := by
  refine z0 (op := 0) (a := 0) (b := 0) (by rfl) (by rfl) (?_ : TZ d 188 1 [some (.inr 100), some (.inl x1), none, none, none] [.inl 0] Z (zri Q))
  refine z0 (op := 7) (a := 2) (b := 0) (by rfl) (by rfl) (?_ : TZ d 188 2 [some (.inr 100), some (.inl x1), some (.inl 0), none, none] [] Z (zri Q))
  refine z0 (op := 0) (a := 0) (b := 0) (by rfl) (by rfl) (?_ : TZ d 188 3 [some (.inr 100), some (.inl x1), some (.inl 0), none, none] [.inl 0] Z (zri Q))
  refine z0 (op := 7) (a := 3) (b := 0) (by rfl) (by rfl) (?_ : TZ d 188 4 [some (.inr 100), some (.inl x1), some (.inl 0), some (.inl 0), none] [] Z (zri Q))
  exact v
theorem w188_4 {d : Nat} {x1 x2 x3 : Int} {o4 : Option zV} {Z : zM} {Q : Int → zM → Prop}
    (v : zR x3 ∧
      zR (Z 100 5) ∧
      ((Z 100 5) ≤ x3 → ∀ Z4, Z4 = zup Z 100 7 ((Z 100 7) + 1) →
          Q x2 Z4) ∧
      (¬ (Z 100 5) ≤ x3 → TI d 187 [.inr 100, .inl x3, .inl x1] Z (fun r6 Z5 =>
          (0 ≤ x3 ∧ x3 < 8) ∧
            zR r6 ∧
            zR (Z5 105 x3) ∧
            (r6 = (Z5 105 x3) → TZ (d + 1) 188 4 [some (.inr 100), some (.inl x1), some (.inl x2), some (.inl (x3 + 1)), some (.inl r6)] [] Z5 (zri Q)) ∧
            (¬ r6 = (Z5 105 x3) → TI d 160 [.inr 100, .inl r6] Z5 (fun r12 Z11 =>
                zR r12 ∧
                  (r12 ≠ 0 → ((0 ≤ x3 ∧ x3 < 8) ∧
                      ∀ Z16, Z16 = zup Z11 105 x3 r6 →
                      TZ (d + 1) 188 4 [some (.inr 100), some (.inl x1), some (.inl (zbit 4 x2 (zbit 6 1 x3))), some (.inl (x3 + 1)), some (.inl r6)] [] Z16 (zri Q))) ∧
                  (¬ r12 ≠ 0 → TZ (d + 1) 188 4 [some (.inr 100), some (.inl x1), some (.inl x2), some (.inl (x3 + 1)), some (.inl r6)] [] Z11 (zri Q))))))) :
    TZ (d + 1) 188 4 [some (.inr 100), some (.inl x1), some (.inl x2), some (.inl x3), o4] [] Z (zri Q) := by
  refine z0 (op := 3) (a := 3) (b := 0) (by rfl) (by rfl) (?_ : TZ (d + 1) 188 5 [some (.inr 100), some (.inl x1), some (.inl x2), some (.inl x3), o4] [.inl x3] Z (zri Q))
  refine z0 (op := 5) (a := 0) (b := 0) (by rfl) (by rfl) (?_ : TZ (d + 1) 188 6 [some (.inr 100), some (.inl x1), some (.inl x2), some (.inl x3), o4] [.inr 100, .inl x3] Z (zri Q))
  refine z_fi (by rfl) fi111_100 (?_ : TZ (d + 1) 188 9 [some (.inr 100), some (.inl x1), some (.inl x2), some (.inl x3), o4] [.inl (Z 100 5), .inl x3] Z (zri Q))
  obtain ⟨c1, c2, v1, v2⟩ := v
  refine z_if2 (a := 3) (t := 63) (by rfl) (by rfl) c1 c2 (fun h3 => ?_) (fun h3 => ?_)
  · have v := v1 h3; clear v1 v2
    show TZ (d + 1) 188 63 [some (.inr 100), some (.inl x1), some (.inl x2), some (.inl x3), o4] [] Z (zri Q)
    refine z0 (op := 5) (a := 0) (b := 0) (by rfl) (by rfl) (?_ : TZ (d + 1) 188 64 [some (.inr 100), some (.inl x1), some (.inl x2), some (.inl x3), o4] [.inr 100] Z (zri Q))
    refine z0 (op := 15) (a := 0) (b := 0) (by rfl) (by rfl) (?_ : TZ (d + 1) 188 65 [some (.inr 100), some (.inl x1), some (.inl x2), some (.inl x3), o4] [.inr 100, .inr 100] Z (zri Q))
    refine z_fi (by rfl) fi112_100 (?_ : TZ (d + 1) 188 68 [some (.inr 100), some (.inl x1), some (.inl x2), some (.inl x3), o4] [.inl (Z 100 7), .inr 100] Z (zri Q))
    refine z0 (op := 0) (a := 0) (b := 1) (by rfl) (by rfl) (?_ : TZ (d + 1) 188 69 [some (.inr 100), some (.inl x1), some (.inl x2), some (.inl x3), o4] [.inl 1, .inl (Z 100 7), .inr 100] Z (zri Q))
    refine z0 (op := 12) (a := 0) (b := 0) (by rfl) (by rfl) (?_ : TZ (d + 1) 188 70 [some (.inr 100), some (.inl x1), some (.inl x2), some (.inl x3), o4] [.inl ((Z 100 7) + 1), .inr 100] Z (zri Q))
    obtain ⟨Z4, eZ4⟩ : ∃ q, q = zup Z 100 7 ((Z 100 7) + 1) := ⟨_, rfl⟩
    have v := v Z4 eZ4
    refine z_pf (by rfl) pf112_100 (fun h => nomatch h) ?_
    show TZ (d + 1) 188 73 [some (.inr 100), some (.inl x1), some (.inl x2), some (.inl x3), o4] [] (zup Z 100 7 ((Z 100 7) + 1)) _
    rw [← eZ4]
    refine z0 (op := 3) (a := 2) (b := 0) (by rfl) (by rfl) (?_ : TZ (d + 1) 188 74 [some (.inr 100), some (.inl x1), some (.inl x2), some (.inl x3), o4] [.inl x2] Z4 (zri Q))
    exact z_reti (by rfl) (by rfl) v
  · have v := v2 h3; clear v1 v2
    show TZ (d + 1) 188 12 [some (.inr 100), some (.inl x1), some (.inl x2), some (.inl x3), o4] [] Z (zri Q)
    refine z0 (op := 5) (a := 0) (b := 0) (by rfl) (by rfl) (?_ : TZ (d + 1) 188 13 [some (.inr 100), some (.inl x1), some (.inl x2), some (.inl x3), o4] [.inr 100] Z (zri Q))
    refine z0 (op := 3) (a := 3) (b := 0) (by rfl) (by rfl) (?_ : TZ (d + 1) 188 14 [some (.inr 100), some (.inl x1), some (.inl x2), some (.inl x3), o4] [.inl x3, .inr 100] Z (zri Q))
    refine z0 (op := 3) (a := 1) (b := 0) (by rfl) (by rfl) (?_ : TZ (d + 1) 188 15 [some (.inr 100), some (.inl x1), some (.inl x2), some (.inl x3), o4] [.inl x1, .inl x3, .inr 100] Z (zri Q))
    refine z_vi (by rfl) (by rfl) cl_100 (TI.mono v fun r6 Z5 v => ?_)
    show TZ (d + 1) 188 18 [some (.inr 100), some (.inl x1), some (.inl x2), some (.inl x3), o4] [.inl r6] Z5 (zri Q)
    refine z0 (op := 8) (a := 4) (b := 0) (by rfl) (by rfl) (?_ : TZ (d + 1) 188 20 [some (.inr 100), some (.inl x1), some (.inl x2), some (.inl x3), some (.inl r6)] [] Z5 (zri Q))
    refine z0 (op := 4) (a := 4) (b := 0) (by rfl) (by rfl) (?_ : TZ (d + 1) 188 22 [some (.inr 100), some (.inl x1), some (.inl x2), some (.inl x3), some (.inl r6)] [.inl r6] Z5 (zri Q))
    refine z0 (op := 5) (a := 0) (b := 0) (by rfl) (by rfl) (?_ : TZ (d + 1) 188 23 [some (.inr 100), some (.inl x1), some (.inl x2), some (.inl x3), some (.inl r6)] [.inr 100, .inl r6] Z5 (zri Q))
    refine z_fr (by rfl) fr92_100 (?_ : TZ (d + 1) 188 26 [some (.inr 100), some (.inl x1), some (.inl x2), some (.inl x3), some (.inl r6)] [.inr 105, .inl r6] Z5 (zri Q))
    refine z0 (op := 3) (a := 3) (b := 0) (by rfl) (by rfl) (?_ : TZ (d + 1) 188 27 [some (.inr 100), some (.inl x1), some (.inl x2), some (.inl x3), some (.inl r6)] [.inl x3, .inr 105, .inl r6] Z5 (zri Q))
    obtain ⟨c7, v⟩ := v
    refine z_al (by rfl) ln_105 c7 (?_ : TZ (d + 1) 188 28 [some (.inr 100), some (.inl x1), some (.inl x2), some (.inl x3), some (.inl r6)] [.inl (Z5 105 x3), .inl r6] Z5 (zri Q))
    obtain ⟨c8, c9, v1, v2⟩ := v
    refine z_if2 (a := 0) (t := 57) (by rfl) (by rfl) c8 c9 (fun h10 => ?_) (fun h10 => ?_)
    · have v := v1 h10; clear v1 v2
      show TZ (d + 1) 188 57 [some (.inr 100), some (.inl x1), some (.inl x2), some (.inl x3), some (.inl r6)] [] Z5 (zri Q)
      refine z0 (op := 11) (a := 3) (b := 1) (by rfl) (by rfl) (?_ : TZ (d + 1) 188 60 [some (.inr 100), some (.inl x1), some (.inl x2), some (.inl (x3 + 1)), some (.inl r6)] [] Z5 (zri Q))
      refine z_goto (t := 4) (by rfl) (by rfl) (?_ : TZ (d + 1) 188 4 [some (.inr 100), some (.inl x1), some (.inl x2), some (.inl (x3 + 1)), some (.inl r6)] [] Z5 (zri Q))
      exact v
    · have v := v2 h10; clear v1 v2
      show TZ (d + 1) 188 31 [some (.inr 100), some (.inl x1), some (.inl x2), some (.inl x3), some (.inl r6)] [] Z5 (zri Q)
      refine z0 (op := 5) (a := 0) (b := 0) (by rfl) (by rfl) (?_ : TZ (d + 1) 188 32 [some (.inr 100), some (.inl x1), some (.inl x2), some (.inl x3), some (.inl r6)] [.inr 100] Z5 (zri Q))
      refine z0 (op := 4) (a := 4) (b := 0) (by rfl) (by rfl) (?_ : TZ (d + 1) 188 34 [some (.inr 100), some (.inl x1), some (.inl x2), some (.inl x3), some (.inl r6)] [.inl r6, .inr 100] Z5 (zri Q))
      refine z_vi (by rfl) (by rfl) cl_100 (TI.mono v fun r12 Z11 v => ?_)
      show TZ (d + 1) 188 37 [some (.inr 100), some (.inl x1), some (.inl x2), some (.inl x3), some (.inl r6)] [.inl r12] Z11 (zri Q)
      obtain ⟨c13, v1, v2⟩ := v
      refine z_if0 (a := 1) (t := 43) (by rfl) (by rfl) c13 (fun h14 => ?_) (fun h14 => ?_)
      · have v := v1 h14; clear v1 v2
        show TZ (d + 1) 188 43 [some (.inr 100), some (.inl x1), some (.inl x2), some (.inl x3), some (.inl r6)] [] Z11 (zri Q)
        refine z0 (op := 5) (a := 0) (b := 0) (by rfl) (by rfl) (?_ : TZ (d + 1) 188 44 [some (.inr 100), some (.inl x1), some (.inl x2), some (.inl x3), some (.inl r6)] [.inr 100] Z11 (zri Q))
        refine z_fr (by rfl) fr92_100 (?_ : TZ (d + 1) 188 47 [some (.inr 100), some (.inl x1), some (.inl x2), some (.inl x3), some (.inl r6)] [.inr 105] Z11 (zri Q))
        refine z0 (op := 3) (a := 3) (b := 0) (by rfl) (by rfl) (?_ : TZ (d + 1) 188 48 [some (.inr 100), some (.inl x1), some (.inl x2), some (.inl x3), some (.inl r6)] [.inl x3, .inr 105] Z11 (zri Q))
        refine z0 (op := 4) (a := 4) (b := 0) (by rfl) (by rfl) (?_ : TZ (d + 1) 188 50 [some (.inr 100), some (.inl x1), some (.inl x2), some (.inl x3), some (.inl r6)] [.inl r6, .inl x3, .inr 105] Z11 (zri Q))
        obtain ⟨c15, v⟩ := v
        obtain ⟨Z16, eZ16⟩ : ∃ q, q = zup Z11 105 x3 r6 := ⟨_, rfl⟩
        have v := v Z16 eZ16
        refine z_as (by rfl) ln_105 c15 ?_
        show TZ (d + 1) 188 51 [some (.inr 100), some (.inl x1), some (.inl x2), some (.inl x3), some (.inl r6)] [] (zup Z11 105 x3 r6) _
        rw [← eZ16]
        refine z0 (op := 3) (a := 2) (b := 0) (by rfl) (by rfl) (?_ : TZ (d + 1) 188 52 [some (.inr 100), some (.inl x1), some (.inl x2), some (.inl x3), some (.inl r6)] [.inl x2] Z16 (zri Q))
        refine z0 (op := 0) (a := 0) (b := 1) (by rfl) (by rfl) (?_ : TZ (d + 1) 188 53 [some (.inr 100), some (.inl x1), some (.inl x2), some (.inl x3), some (.inl r6)] [.inl 1, .inl x2] Z16 (zri Q))
        refine z0 (op := 3) (a := 3) (b := 0) (by rfl) (by rfl) (?_ : TZ (d + 1) 188 54 [some (.inr 100), some (.inl x1), some (.inl x2), some (.inl x3), some (.inl r6)] [.inl x3, .inl 1, .inl x2] Z16 (zri Q))
        refine z0 (op := 12) (a := 6) (b := 0) (by rfl) (by rfl) (?_ : TZ (d + 1) 188 55 [some (.inr 100), some (.inl x1), some (.inl x2), some (.inl x3), some (.inl r6)] [.inl (zbit 6 1 x3), .inl x2] Z16 (zri Q))
        refine z0 (op := 12) (a := 4) (b := 0) (by rfl) (by rfl) (?_ : TZ (d + 1) 188 56 [some (.inr 100), some (.inl x1), some (.inl x2), some (.inl x3), some (.inl r6)] [.inl (zbit 4 x2 (zbit 6 1 x3))] Z16 (zri Q))
        refine z0 (op := 7) (a := 2) (b := 0) (by rfl) (by rfl) (?_ : TZ (d + 1) 188 57 [some (.inr 100), some (.inl x1), some (.inl (zbit 4 x2 (zbit 6 1 x3))), some (.inl x3), some (.inl r6)] [] Z16 (zri Q))
        refine z0 (op := 11) (a := 3) (b := 1) (by rfl) (by rfl) (?_ : TZ (d + 1) 188 60 [some (.inr 100), some (.inl x1), some (.inl (zbit 4 x2 (zbit 6 1 x3))), some (.inl (x3 + 1)), some (.inl r6)] [] Z16 (zri Q))
        refine z_goto (t := 4) (by rfl) (by rfl) (?_ : TZ (d + 1) 188 4 [some (.inr 100), some (.inl x1), some (.inl (zbit 4 x2 (zbit 6 1 x3))), some (.inl (x3 + 1)), some (.inl r6)] [] Z16 (zri Q))
        exact v
      · have v := v2 h14; clear v1 v2
        show TZ (d + 1) 188 40 [some (.inr 100), some (.inl x1), some (.inl x2), some (.inl x3), some (.inl r6)] [] Z11 (zri Q)
        refine z_goto (t := 57) (by rfl) (by rfl) (?_ : TZ (d + 1) 188 57 [some (.inr 100), some (.inl x1), some (.inl x2), some (.inl x3), some (.inl r6)] [] Z11 (zri Q))
        refine z0 (op := 11) (a := 3) (b := 1) (by rfl) (by rfl) (?_ : TZ (d + 1) 188 60 [some (.inr 100), some (.inl x1), some (.inl x2), some (.inl (x3 + 1)), some (.inl r6)] [] Z11 (zri Q))
        refine z_goto (t := 4) (by rfl) (by rfl) (?_ : TZ (d + 1) 188 4 [some (.inr 100), some (.inl x1), some (.inl x2), some (.inl (x3 + 1)), some (.inl r6)] [] Z11 (zri Q))
        exact v
theorem w189_0 {d : Nat} {x1 x2 : Int} {Z : zM} {Q : zM → Prop}
    (v : TZ d 189 2 [some (.inr 100), some (.inl x1), some (.inl x2), some (.inl 0)] [] Z (zrv Q)) :
    TZ d 189 0 [some (.inr 100), some (.inl x1), some (.inl x2), none] [] Z (zrv Q) := by
  refine z0 (op := 0) (a := 0) (b := 0) (by rfl) (by rfl) (?_ : TZ d 189 1 [some (.inr 100), some (.inl x1), some (.inl x2), none] [.inl 0] Z (zrv Q))
  refine z0 (op := 7) (a := 3) (b := 0) (by rfl) (by rfl) (?_ : TZ d 189 2 [some (.inr 100), some (.inl x1), some (.inl x2), some (.inl 0)] [] Z (zrv Q))
  exact v
theorem w189_2 {d : Nat} {x1 x2 x3 : Int} {Z : zM} {Q : zM → Prop}
    (v : zR x3 ∧
      zR x1 ∧
      (x1 ≤ x3 → Q Z) ∧
      (¬ x1 ≤ x3 → TI d 188 [.inr 100, .inl x2] Z (fun r5 Z4 =>
          TZ (d + 1) 189 2 [some (.inr 100), some (.inl x1), some (.inl x2), some (.inl (x3 + 1))] [] Z4 (zrv Q)))) :
    TZ (d + 1) 189 2 [some (.inr 100), some (.inl x1), some (.inl x2), some (.inl x3)] [] Z (zrv Q) := by
  refine z0 (op := 3) (a := 3) (b := 0) (by rfl) (by rfl) (?_ : TZ (d + 1) 189 3 [some (.inr 100), some (.inl x1), some (.inl x2), some (.inl x3)] [.inl x3] Z (zrv Q))
  refine z0 (op := 3) (a := 1) (b := 0) (by rfl) (by rfl) (?_ : TZ (d + 1) 189 4 [some (.inr 100), some (.inl x1), some (.inl x2), some (.inl x3)] [.inl x1, .inl x3] Z (zrv Q))
  obtain ⟨c1, c2, v1, v2⟩ := v
  refine z_if2 (a := 3) (t := 19) (by rfl) (by rfl) c1 c2 (fun h3 => ?_) (fun h3 => ?_)
  · have v := v1 h3; clear v1 v2
    show TZ (d + 1) 189 19 [some (.inr 100), some (.inl x1), some (.inl x2), some (.inl x3)] [] Z (zrv Q)
    exact z_retv (by rfl) (by rfl) v
  · have v := v2 h3; clear v1 v2
    show TZ (d + 1) 189 7 [some (.inr 100), some (.inl x1), some (.inl x2), some (.inl x3)] [] Z (zrv Q)
    refine z0 (op := 5) (a := 0) (b := 0) (by rfl) (by rfl) (?_ : TZ (d + 1) 189 8 [some (.inr 100), some (.inl x1), some (.inl x2), some (.inl x3)] [.inr 100] Z (zrv Q))
    refine z0 (op := 3) (a := 2) (b := 0) (by rfl) (by rfl) (?_ : TZ (d + 1) 189 9 [some (.inr 100), some (.inl x1), some (.inl x2), some (.inl x3)] [.inl x2, .inr 100] Z (zrv Q))
    refine z_vi (by rfl) (by rfl) cl_100 (TI.mono v fun r5 Z4 v => ?_)
    show TZ (d + 1) 189 12 [some (.inr 100), some (.inl x1), some (.inl x2), some (.inl x3)] [.inl r5] Z4 (zrv Q)
    refine z0 (op := 14) (a := 0) (b := 0) (by rfl) (by rfl) (?_ : TZ (d + 1) 189 13 [some (.inr 100), some (.inl x1), some (.inl x2), some (.inl x3)] [] Z4 (zrv Q))
    refine z0 (op := 11) (a := 3) (b := 1) (by rfl) (by rfl) (?_ : TZ (d + 1) 189 16 [some (.inr 100), some (.inl x1), some (.inl x2), some (.inl (x3 + 1))] [] Z4 (zrv Q))
    refine z_goto (t := 2) (by rfl) (by rfl) (?_ : TZ (d + 1) 189 2 [some (.inr 100), some (.inl x1), some (.inl x2), some (.inl (x3 + 1))] [] Z4 (zrv Q))
    exact v
theorem w190_0 {d : Nat} {x1 : Int} {Z : zM} {Q : Int → zM → Prop}
    (v : TZ d 190 4 [some (.inr 100), some (.inl x1), some (.inl (x1 + 1))] [] Z (zri Q)) :
    TZ d 190 0 [some (.inr 100), some (.inl x1), none] [] Z (zri Q) := by
  refine z0 (op := 3) (a := 1) (b := 0) (by rfl) (by rfl) (?_ : TZ d 190 1 [some (.inr 100), some (.inl x1), none] [.inl x1] Z (zri Q))
  refine z0 (op := 0) (a := 0) (b := 1) (by rfl) (by rfl) (?_ : TZ d 190 2 [some (.inr 100), some (.inl x1), none] [.inl 1, .inl x1] Z (zri Q))
  refine z0 (op := 12) (a := 0) (b := 0) (by rfl) (by rfl) (?_ : TZ d 190 3 [some (.inr 100), some (.inl x1), none] [.inl (x1 + 1)] Z (zri Q))
  refine z0 (op := 7) (a := 2) (b := 0) (by rfl) (by rfl) (?_ : TZ d 190 4 [some (.inr 100), some (.inl x1), some (.inl (x1 + 1))] [] Z (zri Q))
  exact v
theorem w190_4 {d : Nat} {x1 x2 : Int} {Z : zM} {Q : Int → zM → Prop}
    (v : zR x2 ∧
      zR (Z 100 6) ∧
      ((Z 100 6) ≤ x2 → TZ (d + 1) 190 32 [some (.inr 100), some (.inl x1), some (.inl (x1 - 1))] [] Z (zri Q)) ∧
      (¬ (Z 100 6) ≤ x2 → TI d 160 [.inr 100, .inl x2] Z (fun r5 Z4 =>
          zR r5 ∧
            (r5 = 0 → TZ (d + 1) 190 4 [some (.inr 100), some (.inl x1), some (.inl (x2 + 1))] [] Z4 (zri Q)) ∧
            (¬ r5 = 0 → Q x2 Z4)))) :
    TZ (d + 1) 190 4 [some (.inr 100), some (.inl x1), some (.inl x2)] [] Z (zri Q) := by
  refine z0 (op := 3) (a := 2) (b := 0) (by rfl) (by rfl) (?_ : TZ (d + 1) 190 5 [some (.inr 100), some (.inl x1), some (.inl x2)] [.inl x2] Z (zri Q))
  refine z0 (op := 5) (a := 0) (b := 0) (by rfl) (by rfl) (?_ : TZ (d + 1) 190 6 [some (.inr 100), some (.inl x1), some (.inl x2)] [.inr 100, .inl x2] Z (zri Q))
  refine z_fi (by rfl) fi110_100 (?_ : TZ (d + 1) 190 9 [some (.inr 100), some (.inl x1), some (.inl x2)] [.inl (Z 100 6), .inl x2] Z (zri Q))
  obtain ⟨c1, c2, v1, v2⟩ := v
  refine z_if2 (a := 3) (t := 28) (by rfl) (by rfl) c1 c2 (fun h3 => ?_) (fun h3 => ?_)
  · have v := v1 h3; clear v1 v2
    show TZ (d + 1) 190 28 [some (.inr 100), some (.inl x1), some (.inl x2)] [] Z (zri Q)
    refine z0 (op := 3) (a := 1) (b := 0) (by rfl) (by rfl) (?_ : TZ (d + 1) 190 29 [some (.inr 100), some (.inl x1), some (.inl x2)] [.inl x1] Z (zri Q))
    refine z0 (op := 0) (a := 0) (b := 1) (by rfl) (by rfl) (?_ : TZ (d + 1) 190 30 [some (.inr 100), some (.inl x1), some (.inl x2)] [.inl 1, .inl x1] Z (zri Q))
    refine z0 (op := 12) (a := 1) (b := 0) (by rfl) (by rfl) (?_ : TZ (d + 1) 190 31 [some (.inr 100), some (.inl x1), some (.inl x2)] [.inl (x1 - 1)] Z (zri Q))
    refine z0 (op := 7) (a := 2) (b := 0) (by rfl) (by rfl) (?_ : TZ (d + 1) 190 32 [some (.inr 100), some (.inl x1), some (.inl (x1 - 1))] [] Z (zri Q))
    exact v
  · have v := v2 h3; clear v1 v2
    show TZ (d + 1) 190 12 [some (.inr 100), some (.inl x1), some (.inl x2)] [] Z (zri Q)
    refine z0 (op := 5) (a := 0) (b := 0) (by rfl) (by rfl) (?_ : TZ (d + 1) 190 13 [some (.inr 100), some (.inl x1), some (.inl x2)] [.inr 100] Z (zri Q))
    refine z0 (op := 3) (a := 2) (b := 0) (by rfl) (by rfl) (?_ : TZ (d + 1) 190 14 [some (.inr 100), some (.inl x1), some (.inl x2)] [.inl x2, .inr 100] Z (zri Q))
    refine z_vi (by rfl) (by rfl) cl_100 (TI.mono v fun r5 Z4 v => ?_)
    show TZ (d + 1) 190 17 [some (.inr 100), some (.inl x1), some (.inl x2)] [.inl r5] Z4 (zri Q)
    obtain ⟨c6, v1, v2⟩ := v
    refine z_if0 (a := 0) (t := 22) (by rfl) (by rfl) c6 (fun h7 => ?_) (fun h7 => ?_)
    · have v := v1 h7; clear v1 v2
      show TZ (d + 1) 190 22 [some (.inr 100), some (.inl x1), some (.inl x2)] [] Z4 (zri Q)
      refine z0 (op := 11) (a := 2) (b := 1) (by rfl) (by rfl) (?_ : TZ (d + 1) 190 25 [some (.inr 100), some (.inl x1), some (.inl (x2 + 1))] [] Z4 (zri Q))
      refine z_goto (t := 4) (by rfl) (by rfl) (?_ : TZ (d + 1) 190 4 [some (.inr 100), some (.inl x1), some (.inl (x2 + 1))] [] Z4 (zri Q))
      exact v
    · have v := v2 h7; clear v1 v2
      show TZ (d + 1) 190 20 [some (.inr 100), some (.inl x1), some (.inl x2)] [] Z4 (zri Q)
      refine z0 (op := 3) (a := 2) (b := 0) (by rfl) (by rfl) (?_ : TZ (d + 1) 190 21 [some (.inr 100), some (.inl x1), some (.inl x2)] [.inl x2] Z4 (zri Q))
      exact z_reti (by rfl) (by rfl) v
theorem w190_32 {d : Nat} {x1 x2 : Int} {Z : zM} {Q : Int → zM → Prop}
    (v : zR x2 ∧
      (x2 < 0 → Q x1 Z) ∧
      (¬ x2 < 0 → TI d 160 [.inr 100, .inl x2] Z (fun r4 Z3 =>
          zR r4 ∧
            (r4 = 0 → TZ (d + 1) 190 32 [some (.inr 100), some (.inl x1), some (.inl (x2 + (-1)))] [] Z3 (zri Q)) ∧
            (¬ r4 = 0 → Q x2 Z3)))) :
    TZ (d + 1) 190 32 [some (.inr 100), some (.inl x1), some (.inl x2)] [] Z (zri Q) := by
  refine z0 (op := 3) (a := 2) (b := 0) (by rfl) (by rfl) (?_ : TZ (d + 1) 190 33 [some (.inr 100), some (.inl x1), some (.inl x2)] [.inl x2] Z (zri Q))
  obtain ⟨c1, v1, v2⟩ := v
  refine z_if0 (a := 2) (t := 52) (by rfl) (by rfl) c1 (fun h2 => ?_) (fun h2 => ?_)
  · have v := v1 h2; clear v1 v2
    show TZ (d + 1) 190 52 [some (.inr 100), some (.inl x1), some (.inl x2)] [] Z (zri Q)
    refine z0 (op := 3) (a := 1) (b := 0) (by rfl) (by rfl) (?_ : TZ (d + 1) 190 53 [some (.inr 100), some (.inl x1), some (.inl x2)] [.inl x1] Z (zri Q))
    exact z_reti (by rfl) (by rfl) v
  · have v := v2 h2; clear v1 v2
    show TZ (d + 1) 190 36 [some (.inr 100), some (.inl x1), some (.inl x2)] [] Z (zri Q)
    refine z0 (op := 5) (a := 0) (b := 0) (by rfl) (by rfl) (?_ : TZ (d + 1) 190 37 [some (.inr 100), some (.inl x1), some (.inl x2)] [.inr 100] Z (zri Q))
    refine z0 (op := 3) (a := 2) (b := 0) (by rfl) (by rfl) (?_ : TZ (d + 1) 190 38 [some (.inr 100), some (.inl x1), some (.inl x2)] [.inl x2, .inr 100] Z (zri Q))
    refine z_vi (by rfl) (by rfl) cl_100 (TI.mono v fun r4 Z3 v => ?_)
    show TZ (d + 1) 190 41 [some (.inr 100), some (.inl x1), some (.inl x2)] [.inl r4] Z3 (zri Q)
    obtain ⟨c5, v1, v2⟩ := v
    refine z_if0 (a := 0) (t := 46) (by rfl) (by rfl) c5 (fun h6 => ?_) (fun h6 => ?_)
    · have v := v1 h6; clear v1 v2
      show TZ (d + 1) 190 46 [some (.inr 100), some (.inl x1), some (.inl x2)] [] Z3 (zri Q)
      refine z0 (op := 11) (a := 2) (b := (-1)) (by rfl) (by rfl) (?_ : TZ (d + 1) 190 49 [some (.inr 100), some (.inl x1), some (.inl (x2 + (-1)))] [] Z3 (zri Q))
      refine z_goto (t := 32) (by rfl) (by rfl) (?_ : TZ (d + 1) 190 32 [some (.inr 100), some (.inl x1), some (.inl (x2 + (-1)))] [] Z3 (zri Q))
      exact v
    · have v := v2 h6; clear v1 v2
      show TZ (d + 1) 190 44 [some (.inr 100), some (.inl x1), some (.inl x2)] [] Z3 (zri Q)
      refine z0 (op := 3) (a := 2) (b := 0) (by rfl) (by rfl) (?_ : TZ (d + 1) 190 45 [some (.inr 100), some (.inl x1), some (.inl x2)] [.inl x2] Z3 (zri Q))
      exact z_reti (by rfl) (by rfl) v
theorem w191_0 {d : Nat} {x1 : Int} {Z : zM} {Q : Int → zM → Prop}
    (v : TZ d 191 4 [some (.inr 100), some (.inl x1), some (.inl 0), some (.inl 0)] [] Z (zri Q)) :
    TZ d 191 0 [some (.inr 100), some (.inl x1), none, none] [] Z (zri Q) := by
  refine z0 (op := 0) (a := 0) (b := 0) (by rfl) (by rfl) (?_ : TZ d 191 1 [some (.inr 100), some (.inl x1), none, none] [.inl 0] Z (zri Q))
  refine z0 (op := 7) (a := 2) (b := 0) (by rfl) (by rfl) (?_ : TZ d 191 2 [some (.inr 100), some (.inl x1), some (.inl 0), none] [] Z (zri Q))
  refine z0 (op := 0) (a := 0) (b := 0) (by rfl) (by rfl) (?_ : TZ d 191 3 [some (.inr 100), some (.inl x1), some (.inl 0), none] [.inl 0] Z (zri Q))
  refine z0 (op := 7) (a := 3) (b := 0) (by rfl) (by rfl) (?_ : TZ d 191 4 [some (.inr 100), some (.inl x1), some (.inl 0), some (.inl 0)] [] Z (zri Q))
  exact v
theorem w191_4 {d : Nat} {x1 x2 x3 : Int} {Z : zM} {Q : Int → zM → Prop}
    (v : zR x3 ∧
      zR (Z 100 5) ∧
      ((Z 100 5) ≤ x3 → Q x2 Z) ∧
      (¬ (Z 100 5) ≤ x3 → ((0 ≤ x3 ∧ x3 < 8) ∧
          zR (Z 105 x3) ∧
          zR x1 ∧
          ((Z 105 x3) = x1 → TI d 190 [.inr 100, .inl x1] Z (fun r9 Z8 =>
              (0 ≤ x3 ∧ x3 < 8) ∧
                ∀ Z11, Z11 = zup Z8 105 x3 r9 →
                (0 ≤ x3 ∧ x3 < 8) ∧
                zR (Z11 105 x3) ∧
                zR x1 ∧
                ((Z11 105 x3) ≠ x1 → TZ (d + 1) 191 4 [some (.inr 100), some (.inl x1), some (.inl (x2 + 1)), some (.inl (x3 + 1))] [] Z11 (zri Q)) ∧
                (¬ (Z11 105 x3) ≠ x1 → TZ (d + 1) 191 4 [some (.inr 100), some (.inl x1), some (.inl (x2 + 0)), some (.inl (x3 + 1))] [] Z11 (zri Q)))) ∧
          (¬ (Z 105 x3) = x1 → TZ (d + 1) 191 4 [some (.inr 100), some (.inl x1), some (.inl x2), some (.inl (x3 + 1))] [] Z (zri Q))))) :
    TZ (d + 1) 191 4 [some (.inr 100), some (.inl x1), some (.inl x2), some (.inl x3)] [] Z (zri Q) := by
  refine z0 (op := 3) (a := 3) (b := 0) (by rfl) (by rfl) (?_ : TZ (d + 1) 191 5 [some (.inr 100), some (.inl x1), some (.inl x2), some (.inl x3)] [.inl x3] Z (zri Q))
  refine z0 (op := 5) (a := 0) (b := 0) (by rfl) (by rfl) (?_ : TZ (d + 1) 191 6 [some (.inr 100), some (.inl x1), some (.inl x2), some (.inl x3)] [.inr 100, .inl x3] Z (zri Q))
  refine z_fi (by rfl) fi111_100 (?_ : TZ (d + 1) 191 9 [some (.inr 100), some (.inl x1), some (.inl x2), some (.inl x3)] [.inl (Z 100 5), .inl x3] Z (zri Q))
  obtain ⟨c1, c2, v1, v2⟩ := v
  refine z_if2 (a := 3) (t := 60) (by rfl) (by rfl) c1 c2 (fun h3 => ?_) (fun h3 => ?_)
  · have v := v1 h3; clear v1 v2
    show TZ (d + 1) 191 60 [some (.inr 100), some (.inl x1), some (.inl x2), some (.inl x3)] [] Z (zri Q)
    refine z0 (op := 3) (a := 2) (b := 0) (by rfl) (by rfl) (?_ : TZ (d + 1) 191 61 [some (.inr 100), some (.inl x1), some (.inl x2), some (.inl x3)] [.inl x2] Z (zri Q))
    exact z_reti (by rfl) (by rfl) v
  · have v := v2 h3; clear v1 v2
    show TZ (d + 1) 191 12 [some (.inr 100), some (.inl x1), some (.inl x2), some (.inl x3)] [] Z (zri Q)
    refine z0 (op := 5) (a := 0) (b := 0) (by rfl) (by rfl) (?_ : TZ (d + 1) 191 13 [some (.inr 100), some (.inl x1), some (.inl x2), some (.inl x3)] [.inr 100] Z (zri Q))
    refine z_fr (by rfl) fr92_100 (?_ : TZ (d + 1) 191 16 [some (.inr 100), some (.inl x1), some (.inl x2), some (.inl x3)] [.inr 105] Z (zri Q))
    refine z0 (op := 3) (a := 3) (b := 0) (by rfl) (by rfl) (?_ : TZ (d + 1) 191 17 [some (.inr 100), some (.inl x1), some (.inl x2), some (.inl x3)] [.inl x3, .inr 105] Z (zri Q))
    obtain ⟨c4, v⟩ := v
    refine z_al (by rfl) ln_105 c4 (?_ : TZ (d + 1) 191 18 [some (.inr 100), some (.inl x1), some (.inl x2), some (.inl x3)] [.inl (Z 105 x3)] Z (zri Q))
    refine z0 (op := 3) (a := 1) (b := 0) (by rfl) (by rfl) (?_ : TZ (d + 1) 191 19 [some (.inr 100), some (.inl x1), some (.inl x2), some (.inl x3)] [.inl x1, .inl (Z 105 x3)] Z (zri Q))
    obtain ⟨c5, c6, v1, v2⟩ := v
    refine z_if2 (a := 0) (t := 25) (by rfl) (by rfl) c5 c6 (fun h7 => ?_) (fun h7 => ?_)
    · have v := v1 h7; clear v1 v2
      show TZ (d + 1) 191 25 [some (.inr 100), some (.inl x1), some (.inl x2), some (.inl x3)] [] Z (zri Q)
      refine z0 (op := 5) (a := 0) (b := 0) (by rfl) (by rfl) (?_ : TZ (d + 1) 191 26 [some (.inr 100), some (.inl x1), some (.inl x2), some (.inl x3)] [.inr 100] Z (zri Q))
      refine z_fr (by rfl) fr92_100 (?_ : TZ (d + 1) 191 29 [some (.inr 100), some (.inl x1), some (.inl x2), some (.inl x3)] [.inr 105] Z (zri Q))
      refine z0 (op := 3) (a := 3) (b := 0) (by rfl) (by rfl) (?_ : TZ (d + 1) 191 30 [some (.inr 100), some (.inl x1), some (.inl x2), some (.inl x3)] [.inl x3, .inr 105] Z (zri Q))
      refine z0 (op := 5) (a := 0) (b := 0) (by rfl) (by rfl) (?_ : TZ (d + 1) 191 31 [some (.inr 100), some (.inl x1), some (.inl x2), some (.inl x3)] [.inr 100, .inl x3, .inr 105] Z (zri Q))
      refine z0 (op := 3) (a := 1) (b := 0) (by rfl) (by rfl) (?_ : TZ (d + 1) 191 32 [some (.inr 100), some (.inl x1), some (.inl x2), some (.inl x3)] [.inl x1, .inr 100, .inl x3, .inr 105] Z (zri Q))
      refine z_vi (by rfl) (by rfl) cl_100 (TI.mono v fun r9 Z8 v => ?_)
      show TZ (d + 1) 191 35 [some (.inr 100), some (.inl x1), some (.inl x2), some (.inl x3)] [.inl r9, .inl x3, .inr 105] Z8 (zri Q)
      obtain ⟨c10, v⟩ := v
      obtain ⟨Z11, eZ11⟩ : ∃ q, q = zup Z8 105 x3 r9 := ⟨_, rfl⟩
      have v := v Z11 eZ11
      refine z_as (by rfl) ln_105 c10 ?_
      show TZ (d + 1) 191 36 [some (.inr 100), some (.inl x1), some (.inl x2), some (.inl x3)] [] (zup Z8 105 x3 r9) _
      rw [← eZ11]
      refine z0 (op := 3) (a := 2) (b := 0) (by rfl) (by rfl) (?_ : TZ (d + 1) 191 37 [some (.inr 100), some (.inl x1), some (.inl x2), some (.inl x3)] [.inl x2] Z11 (zri Q))
      refine z0 (op := 5) (a := 0) (b := 0) (by rfl) (by rfl) (?_ : TZ (d + 1) 191 38 [some (.inr 100), some (.inl x1), some (.inl x2), some (.inl x3)] [.inr 100, .inl x2] Z11 (zri Q))
      refine z_fr (by rfl) fr92_100 (?_ : TZ (d + 1) 191 41 [some (.inr 100), some (.inl x1), some (.inl x2), some (.inl x3)] [.inr 105, .inl x2] Z11 (zri Q))
      refine z0 (op := 3) (a := 3) (b := 0) (by rfl) (by rfl) (?_ : TZ (d + 1) 191 42 [some (.inr 100), some (.inl x1), some (.inl x2), some (.inl x3)] [.inl x3, .inr 105, .inl x2] Z11 (zri Q))
      obtain ⟨c12, v⟩ := v
      refine z_al (by rfl) ln_105 c12 (?_ : TZ (d + 1) 191 43 [some (.inr 100), some (.inl x1), some (.inl x2), some (.inl x3)] [.inl (Z11 105 x3), .inl x2] Z11 (zri Q))
      refine z0 (op := 3) (a := 1) (b := 0) (by rfl) (by rfl) (?_ : TZ (d + 1) 191 44 [some (.inr 100), some (.inl x1), some (.inl x2), some (.inl x3)] [.inl x1, .inl (Z11 105 x3), .inl x2] Z11 (zri Q))
      obtain ⟨c13, c14, v1, v2⟩ := v
      refine z_if2 (a := 1) (t := 51) (by rfl) (by rfl) c13 c14 (fun h15 => ?_) (fun h15 => ?_)
      · have v := v1 h15; clear v1 v2
        show TZ (d + 1) 191 51 [some (.inr 100), some (.inl x1), some (.inl x2), some (.inl x3)] [.inl x2] Z11 (zri Q)
        refine z0 (op := 0) (a := 0) (b := 1) (by rfl) (by rfl) (?_ : TZ (d + 1) 191 52 [some (.inr 100), some (.inl x1), some (.inl x2), some (.inl x3)] [.inl 1, .inl x2] Z11 (zri Q))
        refine z0 (op := 12) (a := 0) (b := 0) (by rfl) (by rfl) (?_ : TZ (d + 1) 191 53 [some (.inr 100), some (.inl x1), some (.inl x2), some (.inl x3)] [.inl (x2 + 1)] Z11 (zri Q))
        refine z0 (op := 7) (a := 2) (b := 0) (by rfl) (by rfl) (?_ : TZ (d + 1) 191 54 [some (.inr 100), some (.inl x1), some (.inl (x2 + 1)), some (.inl x3)] [] Z11 (zri Q))
        refine z0 (op := 11) (a := 3) (b := 1) (by rfl) (by rfl) (?_ : TZ (d + 1) 191 57 [some (.inr 100), some (.inl x1), some (.inl (x2 + 1)), some (.inl (x3 + 1))] [] Z11 (zri Q))
        refine z_goto (t := 4) (by rfl) (by rfl) (?_ : TZ (d + 1) 191 4 [some (.inr 100), some (.inl x1), some (.inl (x2 + 1)), some (.inl (x3 + 1))] [] Z11 (zri Q))
        exact v
      · have v := v2 h15; clear v1 v2
        show TZ (d + 1) 191 47 [some (.inr 100), some (.inl x1), some (.inl x2), some (.inl x3)] [.inl x2] Z11 (zri Q)
        refine z0 (op := 0) (a := 0) (b := 0) (by rfl) (by rfl) (?_ : TZ (d + 1) 191 48 [some (.inr 100), some (.inl x1), some (.inl x2), some (.inl x3)] [.inl 0, .inl x2] Z11 (zri Q))
        refine z_goto (t := 52) (by rfl) (by rfl) (?_ : TZ (d + 1) 191 52 [some (.inr 100), some (.inl x1), some (.inl x2), some (.inl x3)] [.inl 0, .inl x2] Z11 (zri Q))
        refine z0 (op := 12) (a := 0) (b := 0) (by rfl) (by rfl) (?_ : TZ (d + 1) 191 53 [some (.inr 100), some (.inl x1), some (.inl x2), some (.inl x3)] [.inl (x2 + 0)] Z11 (zri Q))
        refine z0 (op := 7) (a := 2) (b := 0) (by rfl) (by rfl) (?_ : TZ (d + 1) 191 54 [some (.inr 100), some (.inl x1), some (.inl (x2 + 0)), some (.inl x3)] [] Z11 (zri Q))
        refine z0 (op := 11) (a := 3) (b := 1) (by rfl) (by rfl) (?_ : TZ (d + 1) 191 57 [some (.inr 100), some (.inl x1), some (.inl (x2 + 0)), some (.inl (x3 + 1))] [] Z11 (zri Q))
        refine z_goto (t := 4) (by rfl) (by rfl) (?_ : TZ (d + 1) 191 4 [some (.inr 100), some (.inl x1), some (.inl (x2 + 0)), some (.inl (x3 + 1))] [] Z11 (zri Q))
        exact v
    · have v := v2 h7; clear v1 v2
      show TZ (d + 1) 191 22 [some (.inr 100), some (.inl x1), some (.inl x2), some (.inl x3)] [] Z (zri Q)
      refine z_goto (t := 54) (by rfl) (by rfl) (?_ : TZ (d + 1) 191 54 [some (.inr 100), some (.inl x1), some (.inl x2), some (.inl x3)] [] Z (zri Q))
      refine z0 (op := 11) (a := 3) (b := 1) (by rfl) (by rfl) (?_ : TZ (d + 1) 191 57 [some (.inr 100), some (.inl x1), some (.inl x2), some (.inl (x3 + 1))] [] Z (zri Q))
      refine z_goto (t := 4) (by rfl) (by rfl) (?_ : TZ (d + 1) 191 4 [some (.inr 100), some (.inl x1), some (.inl x2), some (.inl (x3 + 1))] [] Z (zri Q))
      exact v
theorem w192_0 {d : Nat} {x1 : Int} {Z : zM} {Q : Int → zM → Prop}
    (v : zR x1 ∧
      (x1 = 0 → TZ d 192 15 [some (.inr 100), some (.inl x1), some (.inl 0)] [] Z (zri Q)) ∧
      (¬ x1 = 0 → TZ d 192 15 [some (.inr 100), some (.inl x1), some (.inl ((Z 100 6) - 1))] [] Z (zri Q))) :
    TZ d 192 0 [some (.inr 100), some (.inl x1), none] [] Z (zri Q) := by
  refine z0 (op := 3) (a := 1) (b := 0) (by rfl) (by rfl) (?_ : TZ d 192 1 [some (.inr 100), some (.inl x1), none] [.inl x1] Z (zri Q))
  obtain ⟨c1, v1, v2⟩ := v
  refine z_if0 (a := 0) (t := 13) (by rfl) (by rfl) c1 (fun h2 => ?_) (fun h2 => ?_)
  · have v := v1 h2; clear v1 v2
    show TZ d 192 13 [some (.inr 100), some (.inl x1), none] [] Z (zri Q)
    refine z0 (op := 0) (a := 0) (b := 0) (by rfl) (by rfl) (?_ : TZ d 192 14 [some (.inr 100), some (.inl x1), none] [.inl 0] Z (zri Q))
    refine z0 (op := 7) (a := 2) (b := 0) (by rfl) (by rfl) (?_ : TZ d 192 15 [some (.inr 100), some (.inl x1), some (.inl 0)] [] Z (zri Q))
    exact v
  · have v := v2 h2; clear v1 v2
    show TZ d 192 4 [some (.inr 100), some (.inl x1), none] [] Z (zri Q)
    refine z0 (op := 5) (a := 0) (b := 0) (by rfl) (by rfl) (?_ : TZ d 192 5 [some (.inr 100), some (.inl x1), none] [.inr 100] Z (zri Q))
    refine z_fi (by rfl) fi110_100 (?_ : TZ d 192 8 [some (.inr 100), some (.inl x1), none] [.inl (Z 100 6)] Z (zri Q))
    refine z0 (op := 0) (a := 0) (b := 1) (by rfl) (by rfl) (?_ : TZ d 192 9 [some (.inr 100), some (.inl x1), none] [.inl 1, .inl (Z 100 6)] Z (zri Q))
    refine z0 (op := 12) (a := 1) (b := 0) (by rfl) (by rfl) (?_ : TZ d 192 10 [some (.inr 100), some (.inl x1), none] [.inl ((Z 100 6) - 1)] Z (zri Q))
    refine z_goto (t := 14) (by rfl) (by rfl) (?_ : TZ d 192 14 [some (.inr 100), some (.inl x1), none] [.inl ((Z 100 6) - 1)] Z (zri Q))
    refine z0 (op := 7) (a := 2) (b := 0) (by rfl) (by rfl) (?_ : TZ d 192 15 [some (.inr 100), some (.inl x1), some (.inl ((Z 100 6) - 1))] [] Z (zri Q))
    exact v
theorem w192_15 {d : Nat} {x1 x2 : Int} {Z : zM} {Q : Int → zM → Prop}
    (v : TI d 160 [.inr 100, .inl x2] Z (fun r2 Z1 =>
      zR r2 ∧
        (r2 ≠ 0 → Q x2 Z1) ∧
        (¬ r2 ≠ 0 → (zR x1 ∧
            (x1 = 0 → TZ (d + 1) 192 15 [some (.inr 100), some (.inl x1), some (.inl (x2 + 1))] [] Z1 (zri Q)) ∧
            (¬ x1 = 0 → TZ (d + 1) 192 15 [some (.inr 100), some (.inl x1), some (.inl (x2 + (-1)))] [] Z1 (zri Q)))))) :
    TZ (d + 1) 192 15 [some (.inr 100), some (.inl x1), some (.inl x2)] [] Z (zri Q) := by
  refine z0 (op := 5) (a := 0) (b := 0) (by rfl) (by rfl) (?_ : TZ (d + 1) 192 16 [some (.inr 100), some (.inl x1), some (.inl x2)] [.inr 100] Z (zri Q))
  refine z0 (op := 3) (a := 2) (b := 0) (by rfl) (by rfl) (?_ : TZ (d + 1) 192 17 [some (.inr 100), some (.inl x1), some (.inl x2)] [.inl x2, .inr 100] Z (zri Q))
  refine z_vi (by rfl) (by rfl) cl_100 (TI.mono v fun r2 Z1 v => ?_)
  show TZ (d + 1) 192 20 [some (.inr 100), some (.inl x1), some (.inl x2)] [.inl r2] Z1 (zri Q)
  obtain ⟨c3, v1, v2⟩ := v
  refine z_if0 (a := 1) (t := 38) (by rfl) (by rfl) c3 (fun h4 => ?_) (fun h4 => ?_)
  · have v := v1 h4; clear v1 v2
    show TZ (d + 1) 192 38 [some (.inr 100), some (.inl x1), some (.inl x2)] [] Z1 (zri Q)
    refine z0 (op := 3) (a := 2) (b := 0) (by rfl) (by rfl) (?_ : TZ (d + 1) 192 39 [some (.inr 100), some (.inl x1), some (.inl x2)] [.inl x2] Z1 (zri Q))
    exact z_reti (by rfl) (by rfl) v
  · have v := v2 h4; clear v1 v2
    show TZ (d + 1) 192 23 [some (.inr 100), some (.inl x1), some (.inl x2)] [] Z1 (zri Q)
    refine z0 (op := 3) (a := 2) (b := 0) (by rfl) (by rfl) (?_ : TZ (d + 1) 192 24 [some (.inr 100), some (.inl x1), some (.inl x2)] [.inl x2] Z1 (zri Q))
    refine z0 (op := 3) (a := 1) (b := 0) (by rfl) (by rfl) (?_ : TZ (d + 1) 192 25 [some (.inr 100), some (.inl x1), some (.inl x2)] [.inl x1, .inl x2] Z1 (zri Q))
    obtain ⟨c5, v1, v2⟩ := v
    refine z_if0 (a := 0) (t := 32) (by rfl) (by rfl) c5 (fun h6 => ?_) (fun h6 => ?_)
    · have v := v1 h6; clear v1 v2
      show TZ (d + 1) 192 32 [some (.inr 100), some (.inl x1), some (.inl x2)] [.inl x2] Z1 (zri Q)
      refine z0 (op := 0) (a := 0) (b := 1) (by rfl) (by rfl) (?_ : TZ (d + 1) 192 33 [some (.inr 100), some (.inl x1), some (.inl x2)] [.inl 1, .inl x2] Z1 (zri Q))
      refine z0 (op := 12) (a := 0) (b := 0) (by rfl) (by rfl) (?_ : TZ (d + 1) 192 34 [some (.inr 100), some (.inl x1), some (.inl x2)] [.inl (x2 + 1)] Z1 (zri Q))
      refine z0 (op := 7) (a := 2) (b := 0) (by rfl) (by rfl) (?_ : TZ (d + 1) 192 35 [some (.inr 100), some (.inl x1), some (.inl (x2 + 1))] [] Z1 (zri Q))
      refine z_goto (t := 15) (by rfl) (by rfl) (?_ : TZ (d + 1) 192 15 [some (.inr 100), some (.inl x1), some (.inl (x2 + 1))] [] Z1 (zri Q))
      exact v
    · have v := v2 h6; clear v1 v2
      show TZ (d + 1) 192 28 [some (.inr 100), some (.inl x1), some (.inl x2)] [.inl x2] Z1 (zri Q)
      refine z0 (op := 0) (a := 0) (b := (-1)) (by rfl) (by rfl) (?_ : TZ (d + 1) 192 29 [some (.inr 100), some (.inl x1), some (.inl x2)] [.inl (-1), .inl x2] Z1 (zri Q))
      refine z_goto (t := 33) (by rfl) (by rfl) (?_ : TZ (d + 1) 192 33 [some (.inr 100), some (.inl x1), some (.inl x2)] [.inl (-1), .inl x2] Z1 (zri Q))
      refine z0 (op := 12) (a := 0) (b := 0) (by rfl) (by rfl) (?_ : TZ (d + 1) 192 34 [some (.inr 100), some (.inl x1), some (.inl x2)] [.inl (x2 + (-1))] Z1 (zri Q))
      refine z0 (op := 7) (a := 2) (b := 0) (by rfl) (by rfl) (?_ : TZ (d + 1) 192 35 [some (.inr 100), some (.inl x1), some (.inl (x2 + (-1)))] [] Z1 (zri Q))
      refine z_goto (t := 15) (by rfl) (by rfl) (?_ : TZ (d + 1) 192 15 [some (.inr 100), some (.inl x1), some (.inl (x2 + (-1)))] [] Z1 (zri Q))
      exact v
theorem w193_0 {d : Nat} {x1 : Int} {Z : zM} {Q : Int → zM → Prop}
    (v : TZ d 193 4 [some (.inr 100), some (.inl x1), some (.inl 0), some (.inl 0), none] [] Z (zri Q)) :
    TZ d 193 0 [some (.inr 100), some (.inl x1), none, none, none] [] Z (zri Q) := by
  refine z0 (op := 0) (a := 0) (b := 0) (by rfl) (by rfl) (?_ : TZ d 193 1 [some (.inr 100), some (.inl x1), none, none, none] [.inl 0] Z (zri Q))
  refine z0 (op := 7) (a := 2) (b := 0) (by rfl) (by rfl) (?_ : TZ d 193 2 [some (.inr 100), some (.inl x1), some (.inl 0), none, none] [] Z (zri Q))
  refine z0 (op := 0) (a := 0) (b := 0) (by rfl) (by rfl) (?_ : TZ d 193 3 [some (.inr 100), some (.inl x1), some (.inl 0), none, none] [.inl 0] Z (zri Q))
  refine z0 (op := 7) (a := 3) (b := 0) (by rfl) (by rfl) (?_ : TZ d 193 4 [some (.inr 100), some (.inl x1), some (.inl 0), some (.inl 0), none] [] Z (zri Q))
  exact v
theorem w193_4 {d : Nat} {x1 x2 x3 : Int} {o4 : Option zV} {Z : zM} {Q : Int → zM → Prop}
    (v : zR x3 ∧
      zR (Z 100 5) ∧
      ((Z 100 5) ≤ x3 → Q x2 Z) ∧
      (¬ (Z 100 5) ≤ x3 → ((0 ≤ x3 ∧ x3 < 8) ∧
          (0 ≤ x3 ∧ x3 < 8) ∧
          ∀ Z6, Z6 = zup Z 105 x3 (-1) →
          TI d 192 [.inr 100, .inl x1] Z6 (fun r8 Z7 =>
          (0 ≤ x3 ∧ x3 < 8) ∧
            ∀ Z10, Z10 = zup Z7 105 x3 r8 →
            (0 ≤ x3 ∧ x3 < 8) ∧
            zR (Z10 105 x3) ∧
            zR (Z 105 x3) ∧
            ((Z10 105 x3) ≠ (Z 105 x3) → TZ (d + 1) 193 4 [some (.inr 100), some (.inl x1), some (.inl (x2 + 1)), some (.inl (x3 + 1)), some (.inl (Z 105 x3))] [] Z10 (zri Q)) ∧
            (¬ (Z10 105 x3) ≠ (Z 105 x3) → TZ (d + 1) 193 4 [some (.inr 100), some (.inl x1), some (.inl (x2 + 0)), some (.inl (x3 + 1)), some (.inl (Z 105 x3))] [] Z10 (zri Q)))))) :
    TZ (d + 1) 193 4 [some (.inr 100), some (.inl x1), some (.inl x2), some (.inl x3), o4] [] Z (zri Q) := by
  refine z0 (op := 3) (a := 3) (b := 0) (by rfl) (by rfl) (?_ : TZ (d + 1) 193 5 [some (.inr 100), some (.inl x1), some (.inl x2), some (.inl x3), o4] [.inl x3] Z (zri Q))
  refine z0 (op := 5) (a := 0) (b := 0) (by rfl) (by rfl) (?_ : TZ (d + 1) 193 6 [some (.inr 100), some (.inl x1), some (.inl x2), some (.inl x3), o4] [.inr 100, .inl x3] Z (zri Q))
  refine z_fi (by rfl) fi111_100 (?_ : TZ (d + 1) 193 9 [some (.inr 100), some (.inl x1), some (.inl x2), some (.inl x3), o4] [.inl (Z 100 5), .inl x3] Z (zri Q))
  obtain ⟨c1, c2, v1, v2⟩ := v
  refine z_if2 (a := 3) (t := 63) (by rfl) (by rfl) c1 c2 (fun h3 => ?_) (fun h3 => ?_)
  · have v := v1 h3; clear v1 v2
    show TZ (d + 1) 193 63 [some (.inr 100), some (.inl x1), some (.inl x2), some (.inl x3), o4] [] Z (zri Q)
    refine z0 (op := 3) (a := 2) (b := 0) (by rfl) (by rfl) (?_ : TZ (d + 1) 193 64 [some (.inr 100), some (.inl x1), some (.inl x2), some (.inl x3), o4] [.inl x2] Z (zri Q))
    exact z_reti (by rfl) (by rfl) v
  · have v := v2 h3; clear v1 v2
    show TZ (d + 1) 193 12 [some (.inr 100), some (.inl x1), some (.inl x2), some (.inl x3), o4] [] Z (zri Q)
    refine z0 (op := 5) (a := 0) (b := 0) (by rfl) (by rfl) (?_ : TZ (d + 1) 193 13 [some (.inr 100), some (.inl x1), some (.inl x2), some (.inl x3), o4] [.inr 100] Z (zri Q))
    refine z_fr (by rfl) fr92_100 (?_ : TZ (d + 1) 193 16 [some (.inr 100), some (.inl x1), some (.inl x2), some (.inl x3), o4] [.inr 105] Z (zri Q))
    refine z0 (op := 3) (a := 3) (b := 0) (by rfl) (by rfl) (?_ : TZ (d + 1) 193 17 [some (.inr 100), some (.inl x1), some (.inl x2), some (.inl x3), o4] [.inl x3, .inr 105] Z (zri Q))
    obtain ⟨c4, v⟩ := v
    refine z_al (by rfl) ln_105 c4 (?_ : TZ (d + 1) 193 18 [some (.inr 100), some (.inl x1), some (.inl x2), some (.inl x3), o4] [.inl (Z 105 x3)] Z (zri Q))
    refine z0 (op := 8) (a := 4) (b := 0) (by rfl) (by rfl) (?_ : TZ (d + 1) 193 20 [some (.inr 100), some (.inl x1), some (.inl x2), some (.inl x3), some (.inl (Z 105 x3))] [] Z (zri Q))
    refine z0 (op := 5) (a := 0) (b := 0) (by rfl) (by rfl) (?_ : TZ (d + 1) 193 21 [some (.inr 100), some (.inl x1), some (.inl x2), some (.inl x3), some (.inl (Z 105 x3))] [.inr 100] Z (zri Q))
    refine z_fr (by rfl) fr92_100 (?_ : TZ (d + 1) 193 24 [some (.inr 100), some (.inl x1), some (.inl x2), some (.inl x3), some (.inl (Z 105 x3))] [.inr 105] Z (zri Q))
    refine z0 (op := 3) (a := 3) (b := 0) (by rfl) (by rfl) (?_ : TZ (d + 1) 193 25 [some (.inr 100), some (.inl x1), some (.inl x2), some (.inl x3), some (.inl (Z 105 x3))] [.inl x3, .inr 105] Z (zri Q))
    refine z0 (op := 0) (a := 0) (b := (-1)) (by rfl) (by rfl) (?_ : TZ (d + 1) 193 26 [some (.inr 100), some (.inl x1), some (.inl x2), some (.inl x3), some (.inl (Z 105 x3))] [.inl (-1), .inl x3, .inr 105] Z (zri Q))
    obtain ⟨c5, v⟩ := v
    obtain ⟨Z6, eZ6⟩ : ∃ q, q = zup Z 105 x3 (-1) := ⟨_, rfl⟩
    have v := v Z6 eZ6
    refine z_as (by rfl) ln_105 c5 ?_
    show TZ (d + 1) 193 27 [some (.inr 100), some (.inl x1), some (.inl x2), some (.inl x3), some (.inl (Z 105 x3))] [] (zup Z 105 x3 (-1)) _
    rw [← eZ6]
    refine z0 (op := 5) (a := 0) (b := 0) (by rfl) (by rfl) (?_ : TZ (d + 1) 193 28 [some (.inr 100), some (.inl x1), some (.inl x2), some (.inl x3), some (.inl (Z 105 x3))] [.inr 100] Z6 (zri Q))
    refine z_fr (by rfl) fr92_100 (?_ : TZ (d + 1) 193 31 [some (.inr 100), some (.inl x1), some (.inl x2), some (.inl x3), some (.inl (Z 105 x3))] [.inr 105] Z6 (zri Q))
    refine z0 (op := 3) (a := 3) (b := 0) (by rfl) (by rfl) (?_ : TZ (d + 1) 193 32 [some (.inr 100), some (.inl x1), some (.inl x2), some (.inl x3), some (.inl (Z 105 x3))] [.inl x3, .inr 105] Z6 (zri Q))
    refine z0 (op := 5) (a := 0) (b := 0) (by rfl) (by rfl) (?_ : TZ (d + 1) 193 33 [some (.inr 100), some (.inl x1), some (.inl x2), some (.inl x3), some (.inl (Z 105 x3))] [.inr 100, .inl x3, .inr 105] Z6 (zri Q))
    refine z0 (op := 3) (a := 1) (b := 0) (by rfl) (by rfl) (?_ : TZ (d + 1) 193 34 [some (.inr 100), some (.inl x1), some (.inl x2), some (.inl x3), some (.inl (Z 105 x3))] [.inl x1, .inr 100, .inl x3, .inr 105] Z6 (zri Q))
    refine z_vi (by rfl) (by rfl) cl_100 (TI.mono v fun r8 Z7 v => ?_)
    show TZ (d + 1) 193 37 [some (.inr 100), some (.inl x1), some (.inl x2), some (.inl x3), some (.inl (Z 105 x3))] [.inl r8, .inl x3, .inr 105] Z7 (zri Q)
    obtain ⟨c9, v⟩ := v
    obtain ⟨Z10, eZ10⟩ : ∃ q, q = zup Z7 105 x3 r8 := ⟨_, rfl⟩
    have v := v Z10 eZ10
    refine z_as (by rfl) ln_105 c9 ?_
    show TZ (d + 1) 193 38 [some (.inr 100), some (.inl x1), some (.inl x2), some (.inl x3), some (.inl (Z 105 x3))] [] (zup Z7 105 x3 r8) _
    rw [← eZ10]
    refine z0 (op := 3) (a := 2) (b := 0) (by rfl) (by rfl) (?_ : TZ (d + 1) 193 39 [some (.inr 100), some (.inl x1), some (.inl x2), some (.inl x3), some (.inl (Z 105 x3))] [.inl x2] Z10 (zri Q))
    refine z0 (op := 5) (a := 0) (b := 0) (by rfl) (by rfl) (?_ : TZ (d + 1) 193 40 [some (.inr 100), some (.inl x1), some (.inl x2), some (.inl x3), some (.inl (Z 105 x3))] [.inr 100, .inl x2] Z10 (zri Q))
    refine z_fr (by rfl) fr92_100 (?_ : TZ (d + 1) 193 43 [some (.inr 100), some (.inl x1), some (.inl x2), some (.inl x3), some (.inl (Z 105 x3))] [.inr 105, .inl x2] Z10 (zri Q))
    refine z0 (op := 3) (a := 3) (b := 0) (by rfl) (by rfl) (?_ : TZ (d + 1) 193 44 [some (.inr 100), some (.inl x1), some (.inl x2), some (.inl x3), some (.inl (Z 105 x3))] [.inl x3, .inr 105, .inl x2] Z10 (zri Q))
    obtain ⟨c11, v⟩ := v
    refine z_al (by rfl) ln_105 c11 (?_ : TZ (d + 1) 193 45 [some (.inr 100), some (.inl x1), some (.inl x2), some (.inl x3), some (.inl (Z 105 x3))] [.inl (Z10 105 x3), .inl x2] Z10 (zri Q))
    refine z0 (op := 4) (a := 4) (b := 0) (by rfl) (by rfl) (?_ : TZ (d + 1) 193 47 [some (.inr 100), some (.inl x1), some (.inl x2), some (.inl x3), some (.inl (Z 105 x3))] [.inl (Z 105 x3), .inl (Z10 105 x3), .inl x2] Z10 (zri Q))
    obtain ⟨c12, c13, v1, v2⟩ := v
    refine z_if2 (a := 1) (t := 54) (by rfl) (by rfl) c12 c13 (fun h14 => ?_) (fun h14 => ?_)
    · have v := v1 h14; clear v1 v2
      show TZ (d + 1) 193 54 [some (.inr 100), some (.inl x1), some (.inl x2), some (.inl x3), some (.inl (Z 105 x3))] [.inl x2] Z10 (zri Q)
      refine z0 (op := 0) (a := 0) (b := 1) (by rfl) (by rfl) (?_ : TZ (d + 1) 193 55 [some (.inr 100), some (.inl x1), some (.inl x2), some (.inl x3), some (.inl (Z 105 x3))] [.inl 1, .inl x2] Z10 (zri Q))
      refine z0 (op := 12) (a := 0) (b := 0) (by rfl) (by rfl) (?_ : TZ (d + 1) 193 56 [some (.inr 100), some (.inl x1), some (.inl x2), some (.inl x3), some (.inl (Z 105 x3))] [.inl (x2 + 1)] Z10 (zri Q))
      refine z0 (op := 7) (a := 2) (b := 0) (by rfl) (by rfl) (?_ : TZ (d + 1) 193 57 [some (.inr 100), some (.inl x1), some (.inl (x2 + 1)), some (.inl x3), some (.inl (Z 105 x3))] [] Z10 (zri Q))
      refine z0 (op := 11) (a := 3) (b := 1) (by rfl) (by rfl) (?_ : TZ (d + 1) 193 60 [some (.inr 100), some (.inl x1), some (.inl (x2 + 1)), some (.inl (x3 + 1)), some (.inl (Z 105 x3))] [] Z10 (zri Q))
      refine z_goto (t := 4) (by rfl) (by rfl) (?_ : TZ (d + 1) 193 4 [some (.inr 100), some (.inl x1), some (.inl (x2 + 1)), some (.inl (x3 + 1)), some (.inl (Z 105 x3))] [] Z10 (zri Q))
      exact v
    · have v := v2 h14; clear v1 v2
      show TZ (d + 1) 193 50 [some (.inr 100), some (.inl x1), some (.inl x2), some (.inl x3), some (.inl (Z 105 x3))] [.inl x2] Z10 (zri Q)
      refine z0 (op := 0) (a := 0) (b := 0) (by rfl) (by rfl) (?_ : TZ (d + 1) 193 51 [some (.inr 100), some (.inl x1), some (.inl x2), some (.inl x3), some (.inl (Z 105 x3))] [.inl 0, .inl x2] Z10 (zri Q))
      refine z_goto (t := 55) (by rfl) (by rfl) (?_ : TZ (d + 1) 193 55 [some (.inr 100), some (.inl x1), some (.inl x2), some (.inl x3), some (.inl (Z 105 x3))] [.inl 0, .inl x2] Z10 (zri Q))
      refine z0 (op := 12) (a := 0) (b := 0) (by rfl) (by rfl) (?_ : TZ (d + 1) 193 56 [some (.inr 100), some (.inl x1), some (.inl x2), some (.inl x3), some (.inl (Z 105 x3))] [.inl (x2 + 0)] Z10 (zri Q))
      refine z0 (op := 7) (a := 2) (b := 0) (by rfl) (by rfl) (?_ : TZ (d + 1) 193 57 [some (.inr 100), some (.inl x1), some (.inl (x2 + 0)), some (.inl x3), some (.inl (Z 105 x3))] [] Z10 (zri Q))
      refine z0 (op := 11) (a := 3) (b := 1) (by rfl) (by rfl) (?_ : TZ (d + 1) 193 60 [some (.inr 100), some (.inl x1), some (.inl (x2 + 0)), some (.inl (x3 + 1)), some (.inl (Z 105 x3))] [] Z10 (zri Q))
      refine z_goto (t := 4) (by rfl) (by rfl) (?_ : TZ (d + 1) 193 4 [some (.inr 100), some (.inl x1), some (.inl (x2 + 0)), some (.inl (x3 + 1)), some (.inl (Z 105 x3))] [] Z10 (zri Q))
      exact v
theorem w194_0 {d : Nat} {Z : zM} {Q : zM → Prop}
    (v : zR (Z 100 6) ∧
      ((Z 100 6) ≠ 6 → (zR (Z 100 6) ∧
          ((Z 100 6) ≠ 6 → ∀ Z5, Z5 = zup Z 100 6 6 →
              Q Z5) ∧
          (¬ (Z 100 6) ≠ 6 → ∀ Z6, Z6 = zup Z 100 6 5 →
              Q Z6))) ∧
      (¬ (Z 100 6) ≠ 6 → TI d 191 [.inr 100, .inl 5] Z (fun r8 Z7 =>
          zR (Z7 100 6) ∧
            ((Z7 100 6) ≠ 6 → ∀ Z11, Z11 = zup Z7 100 6 6 →
                Q Z11) ∧
            (¬ (Z7 100 6) ≠ 6 → ∀ Z12, Z12 = zup Z7 100 6 5 →
                Q Z12)))) :
    TZ (d + 1) 194 0 [some (.inr 100)] [] Z (zrv Q) := by
  refine z0 (op := 5) (a := 0) (b := 0) (by rfl) (by rfl) (?_ : TZ (d + 1) 194 1 [some (.inr 100)] [.inr 100] Z (zrv Q))
  refine z_fi (by rfl) fi110_100 (?_ : TZ (d + 1) 194 4 [some (.inr 100)] [.inl (Z 100 6)] Z (zrv Q))
  refine z0 (op := 1) (a := 0) (b := 6) (by rfl) (by rfl) (?_ : TZ (d + 1) 194 6 [some (.inr 100)] [.inl 6, .inl (Z 100 6)] Z (zrv Q))
  obtain ⟨c1, v1, v2⟩ := v
  refine z_if2 (a := 1) (t := 15) (by rfl) (by rfl) c1 (by decide) (fun h2 => ?_) (fun h2 => ?_)
  · have v := v1 h2; clear v1 v2
    show TZ (d + 1) 194 15 [some (.inr 100)] [] Z (zrv Q)
    refine z0 (op := 5) (a := 0) (b := 0) (by rfl) (by rfl) (?_ : TZ (d + 1) 194 16 [some (.inr 100)] [.inr 100] Z (zrv Q))
    refine z0 (op := 5) (a := 0) (b := 0) (by rfl) (by rfl) (?_ : TZ (d + 1) 194 17 [some (.inr 100)] [.inr 100, .inr 100] Z (zrv Q))
    refine z_fi (by rfl) fi110_100 (?_ : TZ (d + 1) 194 20 [some (.inr 100)] [.inl (Z 100 6), .inr 100] Z (zrv Q))
    refine z0 (op := 1) (a := 0) (b := 6) (by rfl) (by rfl) (?_ : TZ (d + 1) 194 22 [some (.inr 100)] [.inl 6, .inl (Z 100 6), .inr 100] Z (zrv Q))
    obtain ⟨c3, v1, v2⟩ := v
    refine z_if2 (a := 1) (t := 29) (by rfl) (by rfl) c3 (by decide) (fun h4 => ?_) (fun h4 => ?_)
    · have v := v1 h4; clear v1 v2
      show TZ (d + 1) 194 29 [some (.inr 100)] [.inr 100] Z (zrv Q)
      refine z0 (op := 1) (a := 0) (b := 6) (by rfl) (by rfl) (?_ : TZ (d + 1) 194 31 [some (.inr 100)] [.inl 6, .inr 100] Z (zrv Q))
      obtain ⟨Z5, eZ5⟩ : ∃ q, q = zup Z 100 6 6 := ⟨_, rfl⟩
      have v := v Z5 eZ5
      refine z_pf (by rfl) pf110_100 (fun h => nomatch h) ?_
      show TZ (d + 1) 194 34 [some (.inr 100)] [] (zup Z 100 6 6) _
      rw [← eZ5]
      exact z_retv (by rfl) (by rfl) v
    · have v := v2 h4; clear v1 v2
      show TZ (d + 1) 194 25 [some (.inr 100)] [.inr 100] Z (zrv Q)
      refine z0 (op := 0) (a := 0) (b := 5) (by rfl) (by rfl) (?_ : TZ (d + 1) 194 26 [some (.inr 100)] [.inl 5, .inr 100] Z (zrv Q))
      refine z_goto (t := 31) (by rfl) (by rfl) (?_ : TZ (d + 1) 194 31 [some (.inr 100)] [.inl 5, .inr 100] Z (zrv Q))
      obtain ⟨Z6, eZ6⟩ : ∃ q, q = zup Z 100 6 5 := ⟨_, rfl⟩
      have v := v Z6 eZ6
      refine z_pf (by rfl) pf110_100 (fun h => nomatch h) ?_
      show TZ (d + 1) 194 34 [some (.inr 100)] [] (zup Z 100 6 5) _
      rw [← eZ6]
      exact z_retv (by rfl) (by rfl) v
  · have v := v2 h2; clear v1 v2
    show TZ (d + 1) 194 9 [some (.inr 100)] [] Z (zrv Q)
    refine z0 (op := 5) (a := 0) (b := 0) (by rfl) (by rfl) (?_ : TZ (d + 1) 194 10 [some (.inr 100)] [.inr 100] Z (zrv Q))
    refine z0 (op := 0) (a := 0) (b := 5) (by rfl) (by rfl) (?_ : TZ (d + 1) 194 11 [some (.inr 100)] [.inl 5, .inr 100] Z (zrv Q))
    refine z_vi (by rfl) (by rfl) cl_100 (TI.mono v fun r8 Z7 v => ?_)
    show TZ (d + 1) 194 14 [some (.inr 100)] [.inl r8] Z7 (zrv Q)
    refine z0 (op := 14) (a := 0) (b := 0) (by rfl) (by rfl) (?_ : TZ (d + 1) 194 15 [some (.inr 100)] [] Z7 (zrv Q))
    refine z0 (op := 5) (a := 0) (b := 0) (by rfl) (by rfl) (?_ : TZ (d + 1) 194 16 [some (.inr 100)] [.inr 100] Z7 (zrv Q))
    refine z0 (op := 5) (a := 0) (b := 0) (by rfl) (by rfl) (?_ : TZ (d + 1) 194 17 [some (.inr 100)] [.inr 100, .inr 100] Z7 (zrv Q))
    refine z_fi (by rfl) fi110_100 (?_ : TZ (d + 1) 194 20 [some (.inr 100)] [.inl (Z7 100 6), .inr 100] Z7 (zrv Q))
    refine z0 (op := 1) (a := 0) (b := 6) (by rfl) (by rfl) (?_ : TZ (d + 1) 194 22 [some (.inr 100)] [.inl 6, .inl (Z7 100 6), .inr 100] Z7 (zrv Q))
    obtain ⟨c9, v1, v2⟩ := v
    refine z_if2 (a := 1) (t := 29) (by rfl) (by rfl) c9 (by decide) (fun h10 => ?_) (fun h10 => ?_)
    · have v := v1 h10; clear v1 v2
      show TZ (d + 1) 194 29 [some (.inr 100)] [.inr 100] Z7 (zrv Q)
      refine z0 (op := 1) (a := 0) (b := 6) (by rfl) (by rfl) (?_ : TZ (d + 1) 194 31 [some (.inr 100)] [.inl 6, .inr 100] Z7 (zrv Q))
      obtain ⟨Z11, eZ11⟩ : ∃ q, q = zup Z7 100 6 6 := ⟨_, rfl⟩
      have v := v Z11 eZ11
      refine z_pf (by rfl) pf110_100 (fun h => nomatch h) ?_
      show TZ (d + 1) 194 34 [some (.inr 100)] [] (zup Z7 100 6 6) _
      rw [← eZ11]
      exact z_retv (by rfl) (by rfl) v
    · have v := v2 h10; clear v1 v2
      show TZ (d + 1) 194 25 [some (.inr 100)] [.inr 100] Z7 (zrv Q)
      refine z0 (op := 0) (a := 0) (b := 5) (by rfl) (by rfl) (?_ : TZ (d + 1) 194 26 [some (.inr 100)] [.inl 5, .inr 100] Z7 (zrv Q))
      refine z_goto (t := 31) (by rfl) (by rfl) (?_ : TZ (d + 1) 194 31 [some (.inr 100)] [.inl 5, .inr 100] Z7 (zrv Q))
      obtain ⟨Z12, eZ12⟩ : ∃ q, q = zup Z7 100 6 5 := ⟨_, rfl⟩
      have v := v Z12 eZ12
      refine z_pf (by rfl) pf110_100 (fun h => nomatch h) ?_
      show TZ (d + 1) 194 34 [some (.inr 100)] [] (zup Z7 100 6 5) _
      rw [← eZ12]
      exact z_retv (by rfl) (by rfl) v
theorem w195_0 {d : Nat} {x1 : Int} {Z : zM} {Q : zM → Prop}
    (v : zR x1 ∧
      (x1 ≠ 1 → (zR x1 ∧
          (x1 ≠ 2 → (zR x1 ∧
              (x1 ≤ 2 → Q Z) ∧
              (¬ x1 ≤ 2 → TI d 191 [.inr 100, .inl (x1 - 3)] Z (fun r8 Z7 =>
                  Q Z7)))) ∧
          (¬ x1 ≠ 2 → TI d 193 [.inr 100, .inl 0] Z (fun r10 Z9 =>
              zR x1 ∧
                (x1 ≤ 2 → Q Z9) ∧
                (¬ x1 ≤ 2 → TI d 191 [.inr 100, .inl (x1 - 3)] Z9 (fun r14 Z13 =>
                    Q Z13)))))) ∧
      (¬ x1 ≠ 1 → TI d 193 [.inr 100, .inl 1] Z (fun r16 Z15 =>
          zR x1 ∧
            (x1 ≠ 2 → (zR x1 ∧
                (x1 ≤ 2 → Q Z15) ∧
                (¬ x1 ≤ 2 → TI d 191 [.inr 100, .inl (x1 - 3)] Z15 (fun r22 Z21 =>
                    Q Z21)))) ∧
            (¬ x1 ≠ 2 → TI d 193 [.inr 100, .inl 0] Z15 (fun r24 Z23 =>
                zR x1 ∧
                  (x1 ≤ 2 → Q Z23) ∧
                  (¬ x1 ≤ 2 → TI d 191 [.inr 100, .inl (x1 - 3)] Z23 (fun r28 Z27 =>
                      Q Z27))))))) :
    TZ (d + 1) 195 0 [some (.inr 100), some (.inl x1)] [] Z (zrv Q) := by
  refine z0 (op := 3) (a := 1) (b := 0) (by rfl) (by rfl) (?_ : TZ (d + 1) 195 1 [some (.inr 100), some (.inl x1)] [.inl x1] Z (zrv Q))
  refine z0 (op := 0) (a := 0) (b := 1) (by rfl) (by rfl) (?_ : TZ (d + 1) 195 2 [some (.inr 100), some (.inl x1)] [.inl 1, .inl x1] Z (zrv Q))
  obtain ⟨c1, v1, v2⟩ := v
  refine z_if2 (a := 1) (t := 11) (by rfl) (by rfl) c1 (by decide) (fun h2 => ?_) (fun h2 => ?_)
  · have v := v1 h2; clear v1 v2
    show TZ (d + 1) 195 11 [some (.inr 100), some (.inl x1)] [] Z (zrv Q)
    refine z0 (op := 3) (a := 1) (b := 0) (by rfl) (by rfl) (?_ : TZ (d + 1) 195 12 [some (.inr 100), some (.inl x1)] [.inl x1] Z (zrv Q))
    refine z0 (op := 0) (a := 0) (b := 2) (by rfl) (by rfl) (?_ : TZ (d + 1) 195 13 [some (.inr 100), some (.inl x1)] [.inl 2, .inl x1] Z (zrv Q))
    obtain ⟨c3, v1, v2⟩ := v
    refine z_if2 (a := 1) (t := 22) (by rfl) (by rfl) c3 (by decide) (fun h4 => ?_) (fun h4 => ?_)
    · have v := v1 h4; clear v1 v2
      show TZ (d + 1) 195 22 [some (.inr 100), some (.inl x1)] [] Z (zrv Q)
      refine z0 (op := 3) (a := 1) (b := 0) (by rfl) (by rfl) (?_ : TZ (d + 1) 195 23 [some (.inr 100), some (.inl x1)] [.inl x1] Z (zrv Q))
      refine z0 (op := 0) (a := 0) (b := 2) (by rfl) (by rfl) (?_ : TZ (d + 1) 195 24 [some (.inr 100), some (.inl x1)] [.inl 2, .inl x1] Z (zrv Q))
      obtain ⟨c5, v1, v2⟩ := v
      refine z_if2 (a := 5) (t := 35) (by rfl) (by rfl) c5 (by decide) (fun h6 => ?_) (fun h6 => ?_)
      · have v := v1 h6; clear v1 v2
        show TZ (d + 1) 195 35 [some (.inr 100), some (.inl x1)] [] Z (zrv Q)
        exact z_retv (by rfl) (by rfl) v
      · have v := v2 h6; clear v1 v2
        show TZ (d + 1) 195 27 [some (.inr 100), some (.inl x1)] [] Z (zrv Q)
        refine z0 (op := 5) (a := 0) (b := 0) (by rfl) (by rfl) (?_ : TZ (d + 1) 195 28 [some (.inr 100), some (.inl x1)] [.inr 100] Z (zrv Q))
        refine z0 (op := 3) (a := 1) (b := 0) (by rfl) (by rfl) (?_ : TZ (d + 1) 195 29 [some (.inr 100), some (.inl x1)] [.inl x1, .inr 100] Z (zrv Q))
        refine z0 (op := 0) (a := 0) (b := 3) (by rfl) (by rfl) (?_ : TZ (d + 1) 195 30 [some (.inr 100), some (.inl x1)] [.inl 3, .inl x1, .inr 100] Z (zrv Q))
        refine z0 (op := 12) (a := 1) (b := 0) (by rfl) (by rfl) (?_ : TZ (d + 1) 195 31 [some (.inr 100), some (.inl x1)] [.inl (x1 - 3), .inr 100] Z (zrv Q))
        refine z_vi (by rfl) (by rfl) cl_100 (TI.mono v fun r8 Z7 v => ?_)
        show TZ (d + 1) 195 34 [some (.inr 100), some (.inl x1)] [.inl r8] Z7 (zrv Q)
        refine z0 (op := 14) (a := 0) (b := 0) (by rfl) (by rfl) (?_ : TZ (d + 1) 195 35 [some (.inr 100), some (.inl x1)] [] Z7 (zrv Q))
        exact z_retv (by rfl) (by rfl) v
    · have v := v2 h4; clear v1 v2
      show TZ (d + 1) 195 16 [some (.inr 100), some (.inl x1)] [] Z (zrv Q)
      refine z0 (op := 5) (a := 0) (b := 0) (by rfl) (by rfl) (?_ : TZ (d + 1) 195 17 [some (.inr 100), some (.inl x1)] [.inr 100] Z (zrv Q))
      refine z0 (op := 0) (a := 0) (b := 0) (by rfl) (by rfl) (?_ : TZ (d + 1) 195 18 [some (.inr 100), some (.inl x1)] [.inl 0, .inr 100] Z (zrv Q))
      refine z_vi (by rfl) (by rfl) cl_100 (TI.mono v fun r10 Z9 v => ?_)
      show TZ (d + 1) 195 21 [some (.inr 100), some (.inl x1)] [.inl r10] Z9 (zrv Q)
      refine z0 (op := 14) (a := 0) (b := 0) (by rfl) (by rfl) (?_ : TZ (d + 1) 195 22 [some (.inr 100), some (.inl x1)] [] Z9 (zrv Q))
      refine z0 (op := 3) (a := 1) (b := 0) (by rfl) (by rfl) (?_ : TZ (d + 1) 195 23 [some (.inr 100), some (.inl x1)] [.inl x1] Z9 (zrv Q))
      refine z0 (op := 0) (a := 0) (b := 2) (by rfl) (by rfl) (?_ : TZ (d + 1) 195 24 [some (.inr 100), some (.inl x1)] [.inl 2, .inl x1] Z9 (zrv Q))
      obtain ⟨c11, v1, v2⟩ := v
      refine z_if2 (a := 5) (t := 35) (by rfl) (by rfl) c11 (by decide) (fun h12 => ?_) (fun h12 => ?_)
      · have v := v1 h12; clear v1 v2
        show TZ (d + 1) 195 35 [some (.inr 100), some (.inl x1)] [] Z9 (zrv Q)
        exact z_retv (by rfl) (by rfl) v
      · have v := v2 h12; clear v1 v2
        show TZ (d + 1) 195 27 [some (.inr 100), some (.inl x1)] [] Z9 (zrv Q)
        refine z0 (op := 5) (a := 0) (b := 0) (by rfl) (by rfl) (?_ : TZ (d + 1) 195 28 [some (.inr 100), some (.inl x1)] [.inr 100] Z9 (zrv Q))
        refine z0 (op := 3) (a := 1) (b := 0) (by rfl) (by rfl) (?_ : TZ (d + 1) 195 29 [some (.inr 100), some (.inl x1)] [.inl x1, .inr 100] Z9 (zrv Q))
        refine z0 (op := 0) (a := 0) (b := 3) (by rfl) (by rfl) (?_ : TZ (d + 1) 195 30 [some (.inr 100), some (.inl x1)] [.inl 3, .inl x1, .inr 100] Z9 (zrv Q))
        refine z0 (op := 12) (a := 1) (b := 0) (by rfl) (by rfl) (?_ : TZ (d + 1) 195 31 [some (.inr 100), some (.inl x1)] [.inl (x1 - 3), .inr 100] Z9 (zrv Q))
        refine z_vi (by rfl) (by rfl) cl_100 (TI.mono v fun r14 Z13 v => ?_)
        show TZ (d + 1) 195 34 [some (.inr 100), some (.inl x1)] [.inl r14] Z13 (zrv Q)
        refine z0 (op := 14) (a := 0) (b := 0) (by rfl) (by rfl) (?_ : TZ (d + 1) 195 35 [some (.inr 100), some (.inl x1)] [] Z13 (zrv Q))
        exact z_retv (by rfl) (by rfl) v
  · have v := v2 h2; clear v1 v2
    show TZ (d + 1) 195 5 [some (.inr 100), some (.inl x1)] [] Z (zrv Q)
    refine z0 (op := 5) (a := 0) (b := 0) (by rfl) (by rfl) (?_ : TZ (d + 1) 195 6 [some (.inr 100), some (.inl x1)] [.inr 100] Z (zrv Q))
    refine z0 (op := 0) (a := 0) (b := 1) (by rfl) (by rfl) (?_ : TZ (d + 1) 195 7 [some (.inr 100), some (.inl x1)] [.inl 1, .inr 100] Z (zrv Q))
    refine z_vi (by rfl) (by rfl) cl_100 (TI.mono v fun r16 Z15 v => ?_)
    show TZ (d + 1) 195 10 [some (.inr 100), some (.inl x1)] [.inl r16] Z15 (zrv Q)
    refine z0 (op := 14) (a := 0) (b := 0) (by rfl) (by rfl) (?_ : TZ (d + 1) 195 11 [some (.inr 100), some (.inl x1)] [] Z15 (zrv Q))
    refine z0 (op := 3) (a := 1) (b := 0) (by rfl) (by rfl) (?_ : TZ (d + 1) 195 12 [some (.inr 100), some (.inl x1)] [.inl x1] Z15 (zrv Q))
    refine z0 (op := 0) (a := 0) (b := 2) (by rfl) (by rfl) (?_ : TZ (d + 1) 195 13 [some (.inr 100), some (.inl x1)] [.inl 2, .inl x1] Z15 (zrv Q))
    obtain ⟨c17, v1, v2⟩ := v
    refine z_if2 (a := 1) (t := 22) (by rfl) (by rfl) c17 (by decide) (fun h18 => ?_) (fun h18 => ?_)
    · have v := v1 h18; clear v1 v2
      show TZ (d + 1) 195 22 [some (.inr 100), some (.inl x1)] [] Z15 (zrv Q)
      refine z0 (op := 3) (a := 1) (b := 0) (by rfl) (by rfl) (?_ : TZ (d + 1) 195 23 [some (.inr 100), some (.inl x1)] [.inl x1] Z15 (zrv Q))
      refine z0 (op := 0) (a := 0) (b := 2) (by rfl) (by rfl) (?_ : TZ (d + 1) 195 24 [some (.inr 100), some (.inl x1)] [.inl 2, .inl x1] Z15 (zrv Q))
      obtain ⟨c19, v1, v2⟩ := v
      refine z_if2 (a := 5) (t := 35) (by rfl) (by rfl) c19 (by decide) (fun h20 => ?_) (fun h20 => ?_)
      · have v := v1 h20; clear v1 v2
        show TZ (d + 1) 195 35 [some (.inr 100), some (.inl x1)] [] Z15 (zrv Q)
        exact z_retv (by rfl) (by rfl) v
      · have v := v2 h20; clear v1 v2
        show TZ (d + 1) 195 27 [some (.inr 100), some (.inl x1)] [] Z15 (zrv Q)
        refine z0 (op := 5) (a := 0) (b := 0) (by rfl) (by rfl) (?_ : TZ (d + 1) 195 28 [some (.inr 100), some (.inl x1)] [.inr 100] Z15 (zrv Q))
        refine z0 (op := 3) (a := 1) (b := 0) (by rfl) (by rfl) (?_ : TZ (d + 1) 195 29 [some (.inr 100), some (.inl x1)] [.inl x1, .inr 100] Z15 (zrv Q))
        refine z0 (op := 0) (a := 0) (b := 3) (by rfl) (by rfl) (?_ : TZ (d + 1) 195 30 [some (.inr 100), some (.inl x1)] [.inl 3, .inl x1, .inr 100] Z15 (zrv Q))
        refine z0 (op := 12) (a := 1) (b := 0) (by rfl) (by rfl) (?_ : TZ (d + 1) 195 31 [some (.inr 100), some (.inl x1)] [.inl (x1 - 3), .inr 100] Z15 (zrv Q))
        refine z_vi (by rfl) (by rfl) cl_100 (TI.mono v fun r22 Z21 v => ?_)
        show TZ (d + 1) 195 34 [some (.inr 100), some (.inl x1)] [.inl r22] Z21 (zrv Q)
        refine z0 (op := 14) (a := 0) (b := 0) (by rfl) (by rfl) (?_ : TZ (d + 1) 195 35 [some (.inr 100), some (.inl x1)] [] Z21 (zrv Q))
        exact z_retv (by rfl) (by rfl) v
    · have v := v2 h18; clear v1 v2
      show TZ (d + 1) 195 16 [some (.inr 100), some (.inl x1)] [] Z15 (zrv Q)
      refine z0 (op := 5) (a := 0) (b := 0) (by rfl) (by rfl) (?_ : TZ (d + 1) 195 17 [some (.inr 100), some (.inl x1)] [.inr 100] Z15 (zrv Q))
      refine z0 (op := 0) (a := 0) (b := 0) (by rfl) (by rfl) (?_ : TZ (d + 1) 195 18 [some (.inr 100), some (.inl x1)] [.inl 0, .inr 100] Z15 (zrv Q))
      refine z_vi (by rfl) (by rfl) cl_100 (TI.mono v fun r24 Z23 v => ?_)
      show TZ (d + 1) 195 21 [some (.inr 100), some (.inl x1)] [.inl r24] Z23 (zrv Q)
      refine z0 (op := 14) (a := 0) (b := 0) (by rfl) (by rfl) (?_ : TZ (d + 1) 195 22 [some (.inr 100), some (.inl x1)] [] Z23 (zrv Q))
      refine z0 (op := 3) (a := 1) (b := 0) (by rfl) (by rfl) (?_ : TZ (d + 1) 195 23 [some (.inr 100), some (.inl x1)] [.inl x1] Z23 (zrv Q))
      refine z0 (op := 0) (a := 0) (b := 2) (by rfl) (by rfl) (?_ : TZ (d + 1) 195 24 [some (.inr 100), some (.inl x1)] [.inl 2, .inl x1] Z23 (zrv Q))
      obtain ⟨c25, v1, v2⟩ := v
      refine z_if2 (a := 5) (t := 35) (by rfl) (by rfl) c25 (by decide) (fun h26 => ?_) (fun h26 => ?_)
      · have v := v1 h26; clear v1 v2
        show TZ (d + 1) 195 35 [some (.inr 100), some (.inl x1)] [] Z23 (zrv Q)
        exact z_retv (by rfl) (by rfl) v
      · have v := v2 h26; clear v1 v2
        show TZ (d + 1) 195 27 [some (.inr 100), some (.inl x1)] [] Z23 (zrv Q)
        refine z0 (op := 5) (a := 0) (b := 0) (by rfl) (by rfl) (?_ : TZ (d + 1) 195 28 [some (.inr 100), some (.inl x1)] [.inr 100] Z23 (zrv Q))
        refine z0 (op := 3) (a := 1) (b := 0) (by rfl) (by rfl) (?_ : TZ (d + 1) 195 29 [some (.inr 100), some (.inl x1)] [.inl x1, .inr 100] Z23 (zrv Q))
        refine z0 (op := 0) (a := 0) (b := 3) (by rfl) (by rfl) (?_ : TZ (d + 1) 195 30 [some (.inr 100), some (.inl x1)] [.inl 3, .inl x1, .inr 100] Z23 (zrv Q))
        refine z0 (op := 12) (a := 1) (b := 0) (by rfl) (by rfl) (?_ : TZ (d + 1) 195 31 [some (.inr 100), some (.inl x1)] [.inl (x1 - 3), .inr 100] Z23 (zrv Q))
        refine z_vi (by rfl) (by rfl) cl_100 (TI.mono v fun r28 Z27 v => ?_)
        show TZ (d + 1) 195 34 [some (.inr 100), some (.inl x1)] [.inl r28] Z27 (zrv Q)
        refine z0 (op := 14) (a := 0) (b := 0) (by rfl) (by rfl) (?_ : TZ (d + 1) 195 35 [some (.inr 100), some (.inl x1)] [] Z27 (zrv Q))
        exact z_retv (by rfl) (by rfl) v
theorem w196_0 {d : Nat} {x1 x2 : Int} {Z : zM} {Q : Int → zM → Prop}
    (v : TI d 158 [.inr 100, .inl x1] Z (fun r2 Z1 =>
      zR r2 ∧
        (r2 ≠ 0 → (zR x2 ∧
            (x2 ≠ 0 → (zR x2 ∧
                (x2 ≠ 1 → (zR x2 ∧
                    (x2 ≠ 2 → TI d 154 [.inr 100, .inl (-2)] Z1 (fun r12 Z11 =>
                        Q r12 Z11)) ∧
                    (¬ x2 ≠ 2 → ((0 ≤ x1 ∧ x1 < 8) ∧ Q (Z1 105 x1) Z1)))) ∧
                (¬ x2 ≠ 1 → ((0 ≤ x1 ∧ x1 < 8) ∧ Q (Z1 104 x1) Z1)))) ∧
            (¬ x2 ≠ 0 → ((0 ≤ x1 ∧ x1 < 8) ∧ Q (Z1 103 x1) Z1)))) ∧
        (¬ r2 ≠ 0 → TI d 154 [.inr 100, .inl (-1)] Z1 (fun r17 Z16 =>
            Q r17 Z16)))) :
    TZ (d + 1) 196 0 [some (.inr 100), some (.inl x1), some (.inl x2)] [] Z (zri Q) := by
  refine z0 (op := 5) (a := 0) (b := 0) (by rfl) (by rfl) (?_ : TZ (d + 1) 196 1 [some (.inr 100), some (.inl x1), some (.inl x2)] [.inr 100] Z (zri Q))
  refine z0 (op := 3) (a := 1) (b := 0) (by rfl) (by rfl) (?_ : TZ (d + 1) 196 2 [some (.inr 100), some (.inl x1), some (.inl x2)] [.inl x1, .inr 100] Z (zri Q))
  refine z_vi (by rfl) (by rfl) cl_100 (TI.mono v fun r2 Z1 v => ?_)
  show TZ (d + 1) 196 5 [some (.inr 100), some (.inl x1), some (.inl x2)] [.inl r2] Z1 (zri Q)
  obtain ⟨c3, v1, v2⟩ := v
  refine z_if0 (a := 1) (t := 14) (by rfl) (by rfl) c3 (fun h4 => ?_) (fun h4 => ?_)
  · have v := v1 h4; clear v1 v2
    show TZ (d + 1) 196 14 [some (.inr 100), some (.inl x1), some (.inl x2)] [] Z1 (zri Q)
    refine z0 (op := 3) (a := 2) (b := 0) (by rfl) (by rfl) (?_ : TZ (d + 1) 196 15 [some (.inr 100), some (.inl x1), some (.inl x2)] [.inl x2] Z1 (zri Q))
    obtain ⟨c5, v1, v2⟩ := v
    refine z_if0 (a := 1) (t := 27) (by rfl) (by rfl) c5 (fun h6 => ?_) (fun h6 => ?_)
    · have v := v1 h6; clear v1 v2
      show TZ (d + 1) 196 27 [some (.inr 100), some (.inl x1), some (.inl x2)] [] Z1 (zri Q)
      refine z0 (op := 3) (a := 2) (b := 0) (by rfl) (by rfl) (?_ : TZ (d + 1) 196 28 [some (.inr 100), some (.inl x1), some (.inl x2)] [.inl x2] Z1 (zri Q))
      refine z0 (op := 0) (a := 0) (b := 1) (by rfl) (by rfl) (?_ : TZ (d + 1) 196 29 [some (.inr 100), some (.inl x1), some (.inl x2)] [.inl 1, .inl x2] Z1 (zri Q))
      obtain ⟨c7, v1, v2⟩ := v
      refine z_if2 (a := 1) (t := 41) (by rfl) (by rfl) c7 (by decide) (fun h8 => ?_) (fun h8 => ?_)
      · have v := v1 h8; clear v1 v2
        show TZ (d + 1) 196 41 [some (.inr 100), some (.inl x1), some (.inl x2)] [] Z1 (zri Q)
        refine z0 (op := 3) (a := 2) (b := 0) (by rfl) (by rfl) (?_ : TZ (d + 1) 196 42 [some (.inr 100), some (.inl x1), some (.inl x2)] [.inl x2] Z1 (zri Q))
        refine z0 (op := 0) (a := 0) (b := 2) (by rfl) (by rfl) (?_ : TZ (d + 1) 196 43 [some (.inr 100), some (.inl x1), some (.inl x2)] [.inl 2, .inl x2] Z1 (zri Q))
        obtain ⟨c9, v1, v2⟩ := v
        refine z_if2 (a := 1) (t := 55) (by rfl) (by rfl) c9 (by decide) (fun h10 => ?_) (fun h10 => ?_)
        · have v := v1 h10; clear v1 v2
          show TZ (d + 1) 196 55 [some (.inr 100), some (.inl x1), some (.inl x2)] [] Z1 (zri Q)
          refine z0 (op := 5) (a := 0) (b := 0) (by rfl) (by rfl) (?_ : TZ (d + 1) 196 56 [some (.inr 100), some (.inl x1), some (.inl x2)] [.inr 100] Z1 (zri Q))
          refine z0 (op := 1) (a := 0) (b := (-2)) (by rfl) (by rfl) (?_ : TZ (d + 1) 196 58 [some (.inr 100), some (.inl x1), some (.inl x2)] [.inl (-2), .inr 100] Z1 (zri Q))
          refine z_vi (by rfl) (by rfl) cl_100 (TI.mono v fun r12 Z11 v => ?_)
          show TZ (d + 1) 196 61 [some (.inr 100), some (.inl x1), some (.inl x2)] [.inl r12] Z11 (zri Q)
          exact z_reti (by rfl) (by rfl) v
        · have v := v2 h10; clear v1 v2
          show TZ (d + 1) 196 46 [some (.inr 100), some (.inl x1), some (.inl x2)] [] Z1 (zri Q)
          refine z0 (op := 5) (a := 0) (b := 0) (by rfl) (by rfl) (?_ : TZ (d + 1) 196 47 [some (.inr 100), some (.inl x1), some (.inl x2)] [.inr 100] Z1 (zri Q))
          refine z_fr (by rfl) fr92_100 (?_ : TZ (d + 1) 196 50 [some (.inr 100), some (.inl x1), some (.inl x2)] [.inr 105] Z1 (zri Q))
          refine z0 (op := 3) (a := 1) (b := 0) (by rfl) (by rfl) (?_ : TZ (d + 1) 196 51 [some (.inr 100), some (.inl x1), some (.inl x2)] [.inl x1, .inr 105] Z1 (zri Q))
          obtain ⟨c13, v⟩ := v
          refine z_al (by rfl) ln_105 c13 (?_ : TZ (d + 1) 196 52 [some (.inr 100), some (.inl x1), some (.inl x2)] [.inl (Z1 105 x1)] Z1 (zri Q))
          refine z_goto (t := 61) (by rfl) (by rfl) (?_ : TZ (d + 1) 196 61 [some (.inr 100), some (.inl x1), some (.inl x2)] [.inl (Z1 105 x1)] Z1 (zri Q))
          exact z_reti (by rfl) (by rfl) v
      · have v := v2 h8; clear v1 v2
        show TZ (d + 1) 196 32 [some (.inr 100), some (.inl x1), some (.inl x2)] [] Z1 (zri Q)
        refine z0 (op := 5) (a := 0) (b := 0) (by rfl) (by rfl) (?_ : TZ (d + 1) 196 33 [some (.inr 100), some (.inl x1), some (.inl x2)] [.inr 100] Z1 (zri Q))
        refine z_fr (by rfl) fr91_100 (?_ : TZ (d + 1) 196 36 [some (.inr 100), some (.inl x1), some (.inl x2)] [.inr 104] Z1 (zri Q))
        refine z0 (op := 3) (a := 1) (b := 0) (by rfl) (by rfl) (?_ : TZ (d + 1) 196 37 [some (.inr 100), some (.inl x1), some (.inl x2)] [.inl x1, .inr 104] Z1 (zri Q))
        obtain ⟨c14, v⟩ := v
        refine z_al (by rfl) ln_104 c14 (?_ : TZ (d + 1) 196 38 [some (.inr 100), some (.inl x1), some (.inl x2)] [.inl (Z1 104 x1)] Z1 (zri Q))
        refine z_goto (t := 61) (by rfl) (by rfl) (?_ : TZ (d + 1) 196 61 [some (.inr 100), some (.inl x1), some (.inl x2)] [.inl (Z1 104 x1)] Z1 (zri Q))
        exact z_reti (by rfl) (by rfl) v
    · have v := v2 h6; clear v1 v2
      show TZ (d + 1) 196 18 [some (.inr 100), some (.inl x1), some (.inl x2)] [] Z1 (zri Q)
      refine z0 (op := 5) (a := 0) (b := 0) (by rfl) (by rfl) (?_ : TZ (d + 1) 196 19 [some (.inr 100), some (.inl x1), some (.inl x2)] [.inr 100] Z1 (zri Q))
      refine z_fr (by rfl) fr90_100 (?_ : TZ (d + 1) 196 22 [some (.inr 100), some (.inl x1), some (.inl x2)] [.inr 103] Z1 (zri Q))
      refine z0 (op := 3) (a := 1) (b := 0) (by rfl) (by rfl) (?_ : TZ (d + 1) 196 23 [some (.inr 100), some (.inl x1), some (.inl x2)] [.inl x1, .inr 103] Z1 (zri Q))
      obtain ⟨c15, v⟩ := v
      refine z_al (by rfl) ln_103 c15 (?_ : TZ (d + 1) 196 24 [some (.inr 100), some (.inl x1), some (.inl x2)] [.inl (Z1 103 x1)] Z1 (zri Q))
      refine z_goto (t := 61) (by rfl) (by rfl) (?_ : TZ (d + 1) 196 61 [some (.inr 100), some (.inl x1), some (.inl x2)] [.inl (Z1 103 x1)] Z1 (zri Q))
      exact z_reti (by rfl) (by rfl) v
  · have v := v2 h4; clear v1 v2
    show TZ (d + 1) 196 8 [some (.inr 100), some (.inl x1), some (.inl x2)] [] Z1 (zri Q)
    refine z0 (op := 5) (a := 0) (b := 0) (by rfl) (by rfl) (?_ : TZ (d + 1) 196 9 [some (.inr 100), some (.inl x1), some (.inl x2)] [.inr 100] Z1 (zri Q))
    refine z0 (op := 0) (a := 0) (b := (-1)) (by rfl) (by rfl) (?_ : TZ (d + 1) 196 10 [some (.inr 100), some (.inl x1), some (.inl x2)] [.inl (-1), .inr 100] Z1 (zri Q))
    refine z_vi (by rfl) (by rfl) cl_100 (TI.mono v fun r17 Z16 v => ?_)
    show TZ (d + 1) 196 13 [some (.inr 100), some (.inl x1), some (.inl x2)] [.inl r17] Z16 (zri Q)
    exact z_reti (by rfl) (by rfl) v
theorem w197_0 {d : Nat} {x1 x2 x3 : Int} {Z : zM} {Q : Int → zM → Prop}
    (v : TI d 157 [.inr 100, .inl x3] Z (fun r2 Z1 =>
      zR r2 ∧
        (r2 ≠ 0 → TI d 155 [.inl x1, .inl 0, .inl 5] Z1 (fun r6 Z5 =>
            zR r6 ∧
              (r6 ≠ 0 → TI d 156 [.inl x2, .inl 0, .inl 9] Z5 (fun r10 Z9 =>
                  zR r10 ∧
                    (r10 ≠ 0 → (zR r10 ∧
                        (r10 ≠ 0 → (zR r10 ∧
                            (r10 = 0 → ∀ Z17, Z17 = zup Z9 100 19 0 →
                                TV d 181 [.inr 100, .inl x1, .inl x2, .inl x3] Z17 (fun Z18 =>
                                Q ((Z18 100 5) - 1) Z18)) ∧
                            (¬ r10 = 0 → TI d 154 [.inr 100, .inl r10] Z9 (fun r20 Z19 =>
                                Q r20 Z19)))) ∧
                        (¬ r10 ≠ 0 → TI d 160 [.inr 100, .inl x3] Z9 (fun r22 Z21 =>
                            zR r22 ∧
                              (r22 ≠ 0 → (zR r10 ∧
                                  (r10 = 0 → ∀ Z27, Z27 = zup Z21 100 19 0 →
                                      TV d 181 [.inr 100, .inl x1, .inl x2, .inl x3] Z27 (fun Z28 =>
                                      Q ((Z28 100 5) - 1) Z28)) ∧
                                  (¬ r10 = 0 → TI d 154 [.inr 100, .inl r10] Z21 (fun r30 Z29 =>
                                      Q r30 Z29)))) ∧
                              (¬ r22 ≠ 0 → TI d 154 [.inr 100, .inl (-3)] Z21 (fun r32 Z31 =>
                                  Q r32 Z31)))))) ∧
                    (¬ r10 ≠ 0 → (zR (Z9 100 5) ∧
                        ((Z9 100 5) ≠ 8 → (zR r10 ∧
                            (r10 ≠ 0 → (zR r10 ∧
                                (r10 = 0 → ∀ Z39, Z39 = zup Z9 100 19 0 →
                                    TV d 181 [.inr 100, .inl x1, .inl x2, .inl x3] Z39 (fun Z40 =>
                                    Q ((Z40 100 5) - 1) Z40)) ∧
                                (¬ r10 = 0 → TI d 154 [.inr 100, .inl r10] Z9 (fun r42 Z41 =>
                                    Q r42 Z41)))) ∧
                            (¬ r10 ≠ 0 → TI d 160 [.inr 100, .inl x3] Z9 (fun r44 Z43 =>
                                zR r44 ∧
                                  (r44 ≠ 0 → (zR r10 ∧
                                      (r10 = 0 → ∀ Z49, Z49 = zup Z43 100 19 0 →
                                          TV d 181 [.inr 100, .inl x1, .inl x2, .inl x3] Z49 (fun Z50 =>
                                          Q ((Z50 100 5) - 1) Z50)) ∧
                                      (¬ r10 = 0 → TI d 154 [.inr 100, .inl r10] Z43 (fun r52 Z51 =>
                                          Q r52 Z51)))) ∧
                                  (¬ r44 ≠ 0 → TI d 154 [.inr 100, .inl (-3)] Z43 (fun r54 Z53 =>
                                      Q r54 Z53)))))) ∧
                        (¬ (Z9 100 5) ≠ 8 → TI d 154 [.inr 100, .inl (-6)] Z9 (fun r56 Z55 =>
                            Q r56 Z55)))))) ∧
              (¬ r6 ≠ 0 → TI d 154 [.inr 100, .inl (-2)] Z5 (fun r58 Z57 =>
                  Q r58 Z57)))) ∧
        (¬ r2 ≠ 0 → TI d 154 [.inr 100, .inl (-1)] Z1 (fun r60 Z59 =>
            Q r60 Z59)))) :
    TZ (d + 1) 197 0 [some (.inr 100), some (.inl x1), some (.inl x2), some (.inl x3), none] [] Z (zri Q) := by
  refine z0 (op := 5) (a := 0) (b := 0) (by rfl) (by rfl) (?_ : TZ (d + 1) 197 1 [some (.inr 100), some (.inl x1), some (.inl x2), some (.inl x3), none] [.inr 100] Z (zri Q))
  refine z0 (op := 3) (a := 3) (b := 0) (by rfl) (by rfl) (?_ : TZ (d + 1) 197 2 [some (.inr 100), some (.inl x1), some (.inl x2), some (.inl x3), none] [.inl x3, .inr 100] Z (zri Q))
  refine z_vi (by rfl) (by rfl) cl_100 (TI.mono v fun r2 Z1 v => ?_)
  show TZ (d + 1) 197 5 [some (.inr 100), some (.inl x1), some (.inl x2), some (.inl x3), none] [.inl r2] Z1 (zri Q)
  obtain ⟨c3, v1, v2⟩ := v
  refine z_if0 (a := 1) (t := 12) (by rfl) (by rfl) c3 (fun h4 => ?_) (fun h4 => ?_)
  · have v := v1 h4; clear v1 v2
    show TZ (d + 1) 197 12 [some (.inr 100), some (.inl x1), some (.inl x2), some (.inl x3), none] [] Z1 (zri Q)
    refine z0 (op := 3) (a := 1) (b := 0) (by rfl) (by rfl) (?_ : TZ (d + 1) 197 13 [some (.inr 100), some (.inl x1), some (.inl x2), some (.inl x3), none] [.inl x1] Z1 (zri Q))
    refine z0 (op := 0) (a := 0) (b := 0) (by rfl) (by rfl) (?_ : TZ (d + 1) 197 14 [some (.inr 100), some (.inl x1), some (.inl x2), some (.inl x3), none] [.inl 0, .inl x1] Z1 (zri Q))
    refine z0 (op := 0) (a := 0) (b := 5) (by rfl) (by rfl) (?_ : TZ (d + 1) 197 15 [some (.inr 100), some (.inl x1), some (.inl x2), some (.inl x3), none] [.inl 5, .inl 0, .inl x1] Z1 (zri Q))
    refine z_si (by rfl) (by rfl) (TI.mono v fun r6 Z5 v => ?_)
    show TZ (d + 1) 197 18 [some (.inr 100), some (.inl x1), some (.inl x2), some (.inl x3), none] [.inl r6] Z5 (zri Q)
    obtain ⟨c7, v1, v2⟩ := v
    refine z_if0 (a := 1) (t := 26) (by rfl) (by rfl) c7 (fun h8 => ?_) (fun h8 => ?_)
    · have v := v1 h8; clear v1 v2
      show TZ (d + 1) 197 26 [some (.inr 100), some (.inl x1), some (.inl x2), some (.inl x3), none] [] Z5 (zri Q)
      refine z0 (op := 3) (a := 2) (b := 0) (by rfl) (by rfl) (?_ : TZ (d + 1) 197 27 [some (.inr 100), some (.inl x1), some (.inl x2), some (.inl x3), none] [.inl x2] Z5 (zri Q))
      refine z0 (op := 0) (a := 0) (b := 0) (by rfl) (by rfl) (?_ : TZ (d + 1) 197 28 [some (.inr 100), some (.inl x1), some (.inl x2), some (.inl x3), none] [.inl 0, .inl x2] Z5 (zri Q))
      refine z0 (op := 1) (a := 0) (b := 9) (by rfl) (by rfl) (?_ : TZ (d + 1) 197 30 [some (.inr 100), some (.inl x1), some (.inl x2), some (.inl x3), none] [.inl 9, .inl 0, .inl x2] Z5 (zri Q))
      refine z_si (by rfl) (by rfl) (TI.mono v fun r10 Z9 v => ?_)
      show TZ (d + 1) 197 33 [some (.inr 100), some (.inl x1), some (.inl x2), some (.inl x3), none] [.inl r10] Z9 (zri Q)
      refine z0 (op := 8) (a := 4) (b := 0) (by rfl) (by rfl) (?_ : TZ (d + 1) 197 35 [some (.inr 100), some (.inl x1), some (.inl x2), some (.inl x3), some (.inl r10)] [] Z9 (zri Q))
      refine z0 (op := 4) (a := 4) (b := 0) (by rfl) (by rfl) (?_ : TZ (d + 1) 197 37 [some (.inr 100), some (.inl x1), some (.inl x2), some (.inl x3), some (.inl r10)] [.inl r10] Z9 (zri Q))
      obtain ⟨c11, v1, v2⟩ := v
      refine z_if0 (a := 1) (t := 53) (by rfl) (by rfl) c11 (fun h12 => ?_) (fun h12 => ?_)
      · have v := v1 h12; clear v1 v2
        show TZ (d + 1) 197 53 [some (.inr 100), some (.inl x1), some (.inl x2), some (.inl x3), some (.inl r10)] [] Z9 (zri Q)
        refine z0 (op := 4) (a := 4) (b := 0) (by rfl) (by rfl) (?_ : TZ (d + 1) 197 55 [some (.inr 100), some (.inl x1), some (.inl x2), some (.inl x3), some (.inl r10)] [.inl r10] Z9 (zri Q))
        obtain ⟨c13, v1, v2⟩ := v
        refine z_if0 (a := 1) (t := 70) (by rfl) (by rfl) c13 (fun h14 => ?_) (fun h14 => ?_)
        · have v := v1 h14; clear v1 v2
          show TZ (d + 1) 197 70 [some (.inr 100), some (.inl x1), some (.inl x2), some (.inl x3), some (.inl r10)] [] Z9 (zri Q)
          refine z0 (op := 4) (a := 4) (b := 0) (by rfl) (by rfl) (?_ : TZ (d + 1) 197 72 [some (.inr 100), some (.inl x1), some (.inl x2), some (.inl x3), some (.inl r10)] [.inl r10] Z9 (zri Q))
          obtain ⟨c15, v1, v2⟩ := v
          refine z_if0 (a := 0) (t := 82) (by rfl) (by rfl) c15 (fun h16 => ?_) (fun h16 => ?_)
          · have v := v1 h16; clear v1 v2
            show TZ (d + 1) 197 82 [some (.inr 100), some (.inl x1), some (.inl x2), some (.inl x3), some (.inl r10)] [] Z9 (zri Q)
            refine z0 (op := 5) (a := 0) (b := 0) (by rfl) (by rfl) (?_ : TZ (d + 1) 197 83 [some (.inr 100), some (.inl x1), some (.inl x2), some (.inl x3), some (.inl r10)] [.inr 100] Z9 (zri Q))
            refine z0 (op := 0) (a := 0) (b := 0) (by rfl) (by rfl) (?_ : TZ (d + 1) 197 84 [some (.inr 100), some (.inl x1), some (.inl x2), some (.inl x3), some (.inl r10)] [.inl 0, .inr 100] Z9 (zri Q))
            obtain ⟨Z17, eZ17⟩ : ∃ q, q = zup Z9 100 19 0 := ⟨_, rfl⟩
            have v := v Z17 eZ17
            refine z_pf (by rfl) pf116_100 (fun h => nomatch h) ?_
            show TZ (d + 1) 197 87 [some (.inr 100), some (.inl x1), some (.inl x2), some (.inl x3), some (.inl r10)] [] (zup Z9 100 19 0) _
            rw [← eZ17]
            refine z0 (op := 5) (a := 0) (b := 0) (by rfl) (by rfl) (?_ : TZ (d + 1) 197 88 [some (.inr 100), some (.inl x1), some (.inl x2), some (.inl x3), some (.inl r10)] [.inr 100] Z17 (zri Q))
            refine z0 (op := 3) (a := 1) (b := 0) (by rfl) (by rfl) (?_ : TZ (d + 1) 197 89 [some (.inr 100), some (.inl x1), some (.inl x2), some (.inl x3), some (.inl r10)] [.inl x1, .inr 100] Z17 (zri Q))
            refine z0 (op := 3) (a := 2) (b := 0) (by rfl) (by rfl) (?_ : TZ (d + 1) 197 90 [some (.inr 100), some (.inl x1), some (.inl x2), some (.inl x3), some (.inl r10)] [.inl x2, .inl x1, .inr 100] Z17 (zri Q))
            refine z0 (op := 3) (a := 3) (b := 0) (by rfl) (by rfl) (?_ : TZ (d + 1) 197 91 [some (.inr 100), some (.inl x1), some (.inl x2), some (.inl x3), some (.inl r10)] [.inl x3, .inl x2, .inl x1, .inr 100] Z17 (zri Q))
            refine z_vv (by rfl) (by rfl) cl_100 (TV.mono v fun Z18 v => ?_)
            show TZ (d + 1) 197 94 [some (.inr 100), some (.inl x1), some (.inl x2), some (.inl x3), some (.inl r10)] [] Z18 (zri Q)
            refine z0 (op := 5) (a := 0) (b := 0) (by rfl) (by rfl) (?_ : TZ (d + 1) 197 95 [some (.inr 100), some (.inl x1), some (.inl x2), some (.inl x3), some (.inl r10)] [.inr 100] Z18 (zri Q))
            refine z_fi (by rfl) fi111_100 (?_ : TZ (d + 1) 197 98 [some (.inr 100), some (.inl x1), some (.inl x2), some (.inl x3), some (.inl r10)] [.inl (Z18 100 5)] Z18 (zri Q))
            refine z0 (op := 0) (a := 0) (b := 1) (by rfl) (by rfl) (?_ : TZ (d + 1) 197 99 [some (.inr 100), some (.inl x1), some (.inl x2), some (.inl x3), some (.inl r10)] [.inl 1, .inl (Z18 100 5)] Z18 (zri Q))
            refine z0 (op := 12) (a := 1) (b := 0) (by rfl) (by rfl) (?_ : TZ (d + 1) 197 100 [some (.inr 100), some (.inl x1), some (.inl x2), some (.inl x3), some (.inl r10)] [.inl ((Z18 100 5) - 1)] Z18 (zri Q))
            exact z_reti (by rfl) (by rfl) v
          · have v := v2 h16; clear v1 v2
            show TZ (d + 1) 197 75 [some (.inr 100), some (.inl x1), some (.inl x2), some (.inl x3), some (.inl r10)] [] Z9 (zri Q)
            refine z0 (op := 5) (a := 0) (b := 0) (by rfl) (by rfl) (?_ : TZ (d + 1) 197 76 [some (.inr 100), some (.inl x1), some (.inl x2), some (.inl x3), some (.inl r10)] [.inr 100] Z9 (zri Q))
            refine z0 (op := 4) (a := 4) (b := 0) (by rfl) (by rfl) (?_ : TZ (d + 1) 197 78 [some (.inr 100), some (.inl x1), some (.inl x2), some (.inl x3), some (.inl r10)] [.inl r10, .inr 100] Z9 (zri Q))
            refine z_vi (by rfl) (by rfl) cl_100 (TI.mono v fun r20 Z19 v => ?_)
            show TZ (d + 1) 197 81 [some (.inr 100), some (.inl x1), some (.inl x2), some (.inl x3), some (.inl r10)] [.inl r20] Z19 (zri Q)
            exact z_reti (by rfl) (by rfl) v
        · have v := v2 h14; clear v1 v2
          show TZ (d + 1) 197 58 [some (.inr 100), some (.inl x1), some (.inl x2), some (.inl x3), some (.inl r10)] [] Z9 (zri Q)
          refine z0 (op := 5) (a := 0) (b := 0) (by rfl) (by rfl) (?_ : TZ (d + 1) 197 59 [some (.inr 100), some (.inl x1), some (.inl x2), some (.inl x3), some (.inl r10)] [.inr 100] Z9 (zri Q))
          refine z0 (op := 3) (a := 3) (b := 0) (by rfl) (by rfl) (?_ : TZ (d + 1) 197 60 [some (.inr 100), some (.inl x1), some (.inl x2), some (.inl x3), some (.inl r10)] [.inl x3, .inr 100] Z9 (zri Q))
          refine z_vi (by rfl) (by rfl) cl_100 (TI.mono v fun r22 Z21 v => ?_)
          show TZ (d + 1) 197 63 [some (.inr 100), some (.inl x1), some (.inl x2), some (.inl x3), some (.inl r10)] [.inl r22] Z21 (zri Q)
          obtain ⟨c23, v1, v2⟩ := v
          refine z_if0 (a := 1) (t := 70) (by rfl) (by rfl) c23 (fun h24 => ?_) (fun h24 => ?_)
          · have v := v1 h24; clear v1 v2
            show TZ (d + 1) 197 70 [some (.inr 100), some (.inl x1), some (.inl x2), some (.inl x3), some (.inl r10)] [] Z21 (zri Q)
            refine z0 (op := 4) (a := 4) (b := 0) (by rfl) (by rfl) (?_ : TZ (d + 1) 197 72 [some (.inr 100), some (.inl x1), some (.inl x2), some (.inl x3), some (.inl r10)] [.inl r10] Z21 (zri Q))
            obtain ⟨c25, v1, v2⟩ := v
            refine z_if0 (a := 0) (t := 82) (by rfl) (by rfl) c25 (fun h26 => ?_) (fun h26 => ?_)
            · have v := v1 h26; clear v1 v2
              show TZ (d + 1) 197 82 [some (.inr 100), some (.inl x1), some (.inl x2), some (.inl x3), some (.inl r10)] [] Z21 (zri Q)
              refine z0 (op := 5) (a := 0) (b := 0) (by rfl) (by rfl) (?_ : TZ (d + 1) 197 83 [some (.inr 100), some (.inl x1), some (.inl x2), some (.inl x3), some (.inl r10)] [.inr 100] Z21 (zri Q))
              refine z0 (op := 0) (a := 0) (b := 0) (by rfl) (by rfl) (?_ : TZ (d + 1) 197 84 [some (.inr 100), some (.inl x1), some (.inl x2), some (.inl x3), some (.inl r10)] [.inl 0, .inr 100] Z21 (zri Q))
              obtain ⟨Z27, eZ27⟩ : ∃ q, q = zup Z21 100 19 0 := ⟨_, rfl⟩
              have v := v Z27 eZ27
              refine z_pf (by rfl) pf116_100 (fun h => nomatch h) ?_
              show TZ (d + 1) 197 87 [some (.inr 100), some (.inl x1), some (.inl x2), some (.inl x3), some (.inl r10)] [] (zup Z21 100 19 0) _
              rw [← eZ27]
              refine z0 (op := 5) (a := 0) (b := 0) (by rfl) (by rfl) (?_ : TZ (d + 1) 197 88 [some (.inr 100), some (.inl x1), some (.inl x2), some (.inl x3), some (.inl r10)] [.inr 100] Z27 (zri Q))
              refine z0 (op := 3) (a := 1) (b := 0) (by rfl) (by rfl) (?_ : TZ (d + 1) 197 89 [some (.inr 100), some (.inl x1), some (.inl x2), some (.inl x3), some (.inl r10)] [.inl x1, .inr 100] Z27 (zri Q))
              refine z0 (op := 3) (a := 2) (b := 0) (by rfl) (by rfl) (?_ : TZ (d + 1) 197 90 [some (.inr 100), some (.inl x1), some (.inl x2), some (.inl x3), some (.inl r10)] [.inl x2, .inl x1, .inr 100] Z27 (zri Q))
              refine z0 (op := 3) (a := 3) (b := 0) (by rfl) (by rfl) (?_ : TZ (d + 1) 197 91 [some (.inr 100), some (.inl x1), some (.inl x2), some (.inl x3), some (.inl r10)] [.inl x3, .inl x2, .inl x1, .inr 100] Z27 (zri Q))
              refine z_vv (by rfl) (by rfl) cl_100 (TV.mono v fun Z28 v => ?_)
              show TZ (d + 1) 197 94 [some (.inr 100), some (.inl x1), some (.inl x2), some (.inl x3), some (.inl r10)] [] Z28 (zri Q)
              refine z0 (op := 5) (a := 0) (b := 0) (by rfl) (by rfl) (?_ : TZ (d + 1) 197 95 [some (.inr 100), some (.inl x1), some (.inl x2), some (.inl x3), some (.inl r10)] [.inr 100] Z28 (zri Q))
              refine z_fi (by rfl) fi111_100 (?_ : TZ (d + 1) 197 98 [some (.inr 100), some (.inl x1), some (.inl x2), some (.inl x3), some (.inl r10)] [.inl (Z28 100 5)] Z28 (zri Q))
              refine z0 (op := 0) (a := 0) (b := 1) (by rfl) (by rfl) (?_ : TZ (d + 1) 197 99 [some (.inr 100), some (.inl x1), some (.inl x2), some (.inl x3), some (.inl r10)] [.inl 1, .inl (Z28 100 5)] Z28 (zri Q))
              refine z0 (op := 12) (a := 1) (b := 0) (by rfl) (by rfl) (?_ : TZ (d + 1) 197 100 [some (.inr 100), some (.inl x1), some (.inl x2), some (.inl x3), some (.inl r10)] [.inl ((Z28 100 5) - 1)] Z28 (zri Q))
              exact z_reti (by rfl) (by rfl) v
            · have v := v2 h26; clear v1 v2
              show TZ (d + 1) 197 75 [some (.inr 100), some (.inl x1), some (.inl x2), some (.inl x3), some (.inl r10)] [] Z21 (zri Q)
              refine z0 (op := 5) (a := 0) (b := 0) (by rfl) (by rfl) (?_ : TZ (d + 1) 197 76 [some (.inr 100), some (.inl x1), some (.inl x2), some (.inl x3), some (.inl r10)] [.inr 100] Z21 (zri Q))
              refine z0 (op := 4) (a := 4) (b := 0) (by rfl) (by rfl) (?_ : TZ (d + 1) 197 78 [some (.inr 100), some (.inl x1), some (.inl x2), some (.inl x3), some (.inl r10)] [.inl r10, .inr 100] Z21 (zri Q))
              refine z_vi (by rfl) (by rfl) cl_100 (TI.mono v fun r30 Z29 v => ?_)
              show TZ (d + 1) 197 81 [some (.inr 100), some (.inl x1), some (.inl x2), some (.inl x3), some (.inl r10)] [.inl r30] Z29 (zri Q)
              exact z_reti (by rfl) (by rfl) v
          · have v := v2 h24; clear v1 v2
            show TZ (d + 1) 197 66 [some (.inr 100), some (.inl x1), some (.inl x2), some (.inl x3), some (.inl r10)] [] Z21 (zri Q)
            refine z0 (op := 1) (a := 0) (b := (-3)) (by rfl) (by rfl) (?_ : TZ (d + 1) 197 68 [some (.inr 100), some (.inl x1), some (.inl x2), some (.inl x3), some (.inl r10)] [.inl (-3)] Z21 (zri Q))
            refine z0 (op := 8) (a := 4) (b := 0) (by rfl) (by rfl) (?_ : TZ (d + 1) 197 70 [some (.inr 100), some (.inl x1), some (.inl x2), some (.inl x3), some (.inl (-3))] [] Z21 (zri Q))
            refine z0 (op := 4) (a := 4) (b := 0) (by rfl) (by rfl) (?_ : TZ (d + 1) 197 72 [some (.inr 100), some (.inl x1), some (.inl x2), some (.inl x3), some (.inl (-3))] [.inl (-3)] Z21 (zri Q))
            refine z_if0 (a := 0) (t := 82) (by rfl) (by rfl) (by decide) (fun h => absurd (show ((-3) : Int) = (0 : Int) from h) (by decide)) (fun _ => ?_)
            show TZ (d + 1) 197 75 [some (.inr 100), some (.inl x1), some (.inl x2), some (.inl x3), some (.inl (-3))] [] Z21 (zri Q)
            refine z0 (op := 5) (a := 0) (b := 0) (by rfl) (by rfl) (?_ : TZ (d + 1) 197 76 [some (.inr 100), some (.inl x1), some (.inl x2), some (.inl x3), some (.inl (-3))] [.inr 100] Z21 (zri Q))
            refine z0 (op := 4) (a := 4) (b := 0) (by rfl) (by rfl) (?_ : TZ (d + 1) 197 78 [some (.inr 100), some (.inl x1), some (.inl x2), some (.inl x3), some (.inl (-3))] [.inl (-3), .inr 100] Z21 (zri Q))
            refine z_vi (by rfl) (by rfl) cl_100 (TI.mono v fun r32 Z31 v => ?_)
            show TZ (d + 1) 197 81 [some (.inr 100), some (.inl x1), some (.inl x2), some (.inl x3), some (.inl (-3))] [.inl r32] Z31 (zri Q)
            exact z_reti (by rfl) (by rfl) v
      · have v := v2 h12; clear v1 v2
        show TZ (d + 1) 197 40 [some (.inr 100), some (.inl x1), some (.inl x2), some (.inl x3), some (.inl r10)] [] Z9 (zri Q)
        refine z0 (op := 5) (a := 0) (b := 0) (by rfl) (by rfl) (?_ : TZ (d + 1) 197 41 [some (.inr 100), some (.inl x1), some (.inl x2), some (.inl x3), some (.inl r10)] [.inr 100] Z9 (zri Q))
        refine z_fi (by rfl) fi111_100 (?_ : TZ (d + 1) 197 44 [some (.inr 100), some (.inl x1), some (.inl x2), some (.inl x3), some (.inl r10)] [.inl (Z9 100 5)] Z9 (zri Q))
        refine z0 (op := 1) (a := 0) (b := 8) (by rfl) (by rfl) (?_ : TZ (d + 1) 197 46 [some (.inr 100), some (.inl x1), some (.inl x2), some (.inl x3), some (.inl r10)] [.inl 8, .inl (Z9 100 5)] Z9 (zri Q))
        obtain ⟨c33, v1, v2⟩ := v
        refine z_if2 (a := 1) (t := 53) (by rfl) (by rfl) c33 (by decide) (fun h34 => ?_) (fun h34 => ?_)
        · have v := v1 h34; clear v1 v2
          show TZ (d + 1) 197 53 [some (.inr 100), some (.inl x1), some (.inl x2), some (.inl x3), some (.inl r10)] [] Z9 (zri Q)
          refine z0 (op := 4) (a := 4) (b := 0) (by rfl) (by rfl) (?_ : TZ (d + 1) 197 55 [some (.inr 100), some (.inl x1), some (.inl x2), some (.inl x3), some (.inl r10)] [.inl r10] Z9 (zri Q))
          obtain ⟨c35, v1, v2⟩ := v
          refine z_if0 (a := 1) (t := 70) (by rfl) (by rfl) c35 (fun h36 => ?_) (fun h36 => ?_)
          · have v := v1 h36; clear v1 v2
            show TZ (d + 1) 197 70 [some (.inr 100), some (.inl x1), some (.inl x2), some (.inl x3), some (.inl r10)] [] Z9 (zri Q)
            refine z0 (op := 4) (a := 4) (b := 0) (by rfl) (by rfl) (?_ : TZ (d + 1) 197 72 [some (.inr 100), some (.inl x1), some (.inl x2), some (.inl x3), some (.inl r10)] [.inl r10] Z9 (zri Q))
            obtain ⟨c37, v1, v2⟩ := v
            refine z_if0 (a := 0) (t := 82) (by rfl) (by rfl) c37 (fun h38 => ?_) (fun h38 => ?_)
            · have v := v1 h38; clear v1 v2
              show TZ (d + 1) 197 82 [some (.inr 100), some (.inl x1), some (.inl x2), some (.inl x3), some (.inl r10)] [] Z9 (zri Q)
              refine z0 (op := 5) (a := 0) (b := 0) (by rfl) (by rfl) (?_ : TZ (d + 1) 197 83 [some (.inr 100), some (.inl x1), some (.inl x2), some (.inl x3), some (.inl r10)] [.inr 100] Z9 (zri Q))
              refine z0 (op := 0) (a := 0) (b := 0) (by rfl) (by rfl) (?_ : TZ (d + 1) 197 84 [some (.inr 100), some (.inl x1), some (.inl x2), some (.inl x3), some (.inl r10)] [.inl 0, .inr 100] Z9 (zri Q))
              obtain ⟨Z39, eZ39⟩ : ∃ q, q = zup Z9 100 19 0 := ⟨_, rfl⟩
              have v := v Z39 eZ39
              refine z_pf (by rfl) pf116_100 (fun h => nomatch h) ?_
              show TZ (d + 1) 197 87 [some (.inr 100), some (.inl x1), some (.inl x2), some (.inl x3), some (.inl r10)] [] (zup Z9 100 19 0) _
              rw [← eZ39]
              refine z0 (op := 5) (a := 0) (b := 0) (by rfl) (by rfl) (?_ : TZ (d + 1) 197 88 [some (.inr 100), some (.inl x1), some (.inl x2), some (.inl x3), some (.inl r10)] [.inr 100] Z39 (zri Q))
              refine z0 (op := 3) (a := 1) (b := 0) (by rfl) (by rfl) (?_ : TZ (d + 1) 197 89 [some (.inr 100), some (.inl x1), some (.inl x2), some (.inl x3), some (.inl r10)] [.inl x1, .inr 100] Z39 (zri Q))
              refine z0 (op := 3) (a := 2) (b := 0) (by rfl) (by rfl) (?_ : TZ (d + 1) 197 90 [some (.inr 100), some (.inl x1), some (.inl x2), some (.inl x3), some (.inl r10)] [.inl x2, .inl x1, .inr 100] Z39 (zri Q))
              refine z0 (op := 3) (a := 3) (b := 0) (by rfl) (by rfl) (?_ : TZ (d + 1) 197 91 [some (.inr 100), some (.inl x1), some (.inl x2), some (.inl x3), some (.inl r10)] [.inl x3, .inl x2, .inl x1, .inr 100] Z39 (zri Q))
              refine z_vv (by rfl) (by rfl) cl_100 (TV.mono v fun Z40 v => ?_)
              show TZ (d + 1) 197 94 [some (.inr 100), some (.inl x1), some (.inl x2), some (.inl x3), some (.inl r10)] [] Z40 (zri Q)
              refine z0 (op := 5) (a := 0) (b := 0) (by rfl) (by rfl) (?_ : TZ (d + 1) 197 95 [some (.inr 100), some (.inl x1), some (.inl x2), some (.inl x3), some (.inl r10)] [.inr 100] Z40 (zri Q))
              refine z_fi (by rfl) fi111_100 (?_ : TZ (d + 1) 197 98 [some (.inr 100), some (.inl x1), some (.inl x2), some (.inl x3), some (.inl r10)] [.inl (Z40 100 5)] Z40 (zri Q))
              refine z0 (op := 0) (a := 0) (b := 1) (by rfl) (by rfl) (?_ : TZ (d + 1) 197 99 [some (.inr 100), some (.inl x1), some (.inl x2), some (.inl x3), some (.inl r10)] [.inl 1, .inl (Z40 100 5)] Z40 (zri Q))
              refine z0 (op := 12) (a := 1) (b := 0) (by rfl) (by rfl) (?_ : TZ (d + 1) 197 100 [some (.inr 100), some (.inl x1), some (.inl x2), some (.inl x3), some (.inl r10)] [.inl ((Z40 100 5) - 1)] Z40 (zri Q))
              exact z_reti (by rfl) (by rfl) v
            · have v := v2 h38; clear v1 v2
              show TZ (d + 1) 197 75 [some (.inr 100), some (.inl x1), some (.inl x2), some (.inl x3), some (.inl r10)] [] Z9 (zri Q)
              refine z0 (op := 5) (a := 0) (b := 0) (by rfl) (by rfl) (?_ : TZ (d + 1) 197 76 [some (.inr 100), some (.inl x1), some (.inl x2), some (.inl x3), some (.inl r10)] [.inr 100] Z9 (zri Q))
              refine z0 (op := 4) (a := 4) (b := 0) (by rfl) (by rfl) (?_ : TZ (d + 1) 197 78 [some (.inr 100), some (.inl x1), some (.inl x2), some (.inl x3), some (.inl r10)] [.inl r10, .inr 100] Z9 (zri Q))
              refine z_vi (by rfl) (by rfl) cl_100 (TI.mono v fun r42 Z41 v => ?_)
              show TZ (d + 1) 197 81 [some (.inr 100), some (.inl x1), some (.inl x2), some (.inl x3), some (.inl r10)] [.inl r42] Z41 (zri Q)
              exact z_reti (by rfl) (by rfl) v
          · have v := v2 h36; clear v1 v2
            show TZ (d + 1) 197 58 [some (.inr 100), some (.inl x1), some (.inl x2), some (.inl x3), some (.inl r10)] [] Z9 (zri Q)
            refine z0 (op := 5) (a := 0) (b := 0) (by rfl) (by rfl) (?_ : TZ (d + 1) 197 59 [some (.inr 100), some (.inl x1), some (.inl x2), some (.inl x3), some (.inl r10)] [.inr 100] Z9 (zri Q))
            refine z0 (op := 3) (a := 3) (b := 0) (by rfl) (by rfl) (?_ : TZ (d + 1) 197 60 [some (.inr 100), some (.inl x1), some (.inl x2), some (.inl x3), some (.inl r10)] [.inl x3, .inr 100] Z9 (zri Q))
            refine z_vi (by rfl) (by rfl) cl_100 (TI.mono v fun r44 Z43 v => ?_)
            show TZ (d + 1) 197 63 [some (.inr 100), some (.inl x1), some (.inl x2), some (.inl x3), some (.inl r10)] [.inl r44] Z43 (zri Q)
            obtain ⟨c45, v1, v2⟩ := v
            refine z_if0 (a := 1) (t := 70) (by rfl) (by rfl) c45 (fun h46 => ?_) (fun h46 => ?_)
            · have v := v1 h46; clear v1 v2
              show TZ (d + 1) 197 70 [some (.inr 100), some (.inl x1), some (.inl x2), some (.inl x3), some (.inl r10)] [] Z43 (zri Q)
              refine z0 (op := 4) (a := 4) (b := 0) (by rfl) (by rfl) (?_ : TZ (d + 1) 197 72 [some (.inr 100), some (.inl x1), some (.inl x2), some (.inl x3), some (.inl r10)] [.inl r10] Z43 (zri Q))
              obtain ⟨c47, v1, v2⟩ := v
              refine z_if0 (a := 0) (t := 82) (by rfl) (by rfl) c47 (fun h48 => ?_) (fun h48 => ?_)
              · have v := v1 h48; clear v1 v2
                show TZ (d + 1) 197 82 [some (.inr 100), some (.inl x1), some (.inl x2), some (.inl x3), some (.inl r10)] [] Z43 (zri Q)
                refine z0 (op := 5) (a := 0) (b := 0) (by rfl) (by rfl) (?_ : TZ (d + 1) 197 83 [some (.inr 100), some (.inl x1), some (.inl x2), some (.inl x3), some (.inl r10)] [.inr 100] Z43 (zri Q))
                refine z0 (op := 0) (a := 0) (b := 0) (by rfl) (by rfl) (?_ : TZ (d + 1) 197 84 [some (.inr 100), some (.inl x1), some (.inl x2), some (.inl x3), some (.inl r10)] [.inl 0, .inr 100] Z43 (zri Q))
                obtain ⟨Z49, eZ49⟩ : ∃ q, q = zup Z43 100 19 0 := ⟨_, rfl⟩
                have v := v Z49 eZ49
                refine z_pf (by rfl) pf116_100 (fun h => nomatch h) ?_
                show TZ (d + 1) 197 87 [some (.inr 100), some (.inl x1), some (.inl x2), some (.inl x3), some (.inl r10)] [] (zup Z43 100 19 0) _
                rw [← eZ49]
                refine z0 (op := 5) (a := 0) (b := 0) (by rfl) (by rfl) (?_ : TZ (d + 1) 197 88 [some (.inr 100), some (.inl x1), some (.inl x2), some (.inl x3), some (.inl r10)] [.inr 100] Z49 (zri Q))
                refine z0 (op := 3) (a := 1) (b := 0) (by rfl) (by rfl) (?_ : TZ (d + 1) 197 89 [some (.inr 100), some (.inl x1), some (.inl x2), some (.inl x3), some (.inl r10)] [.inl x1, .inr 100] Z49 (zri Q))
                refine z0 (op := 3) (a := 2) (b := 0) (by rfl) (by rfl) (?_ : TZ (d + 1) 197 90 [some (.inr 100), some (.inl x1), some (.inl x2), some (.inl x3), some (.inl r10)] [.inl x2, .inl x1, .inr 100] Z49 (zri Q))
                refine z0 (op := 3) (a := 3) (b := 0) (by rfl) (by rfl) (?_ : TZ (d + 1) 197 91 [some (.inr 100), some (.inl x1), some (.inl x2), some (.inl x3), some (.inl r10)] [.inl x3, .inl x2, .inl x1, .inr 100] Z49 (zri Q))
                refine z_vv (by rfl) (by rfl) cl_100 (TV.mono v fun Z50 v => ?_)
                show TZ (d + 1) 197 94 [some (.inr 100), some (.inl x1), some (.inl x2), some (.inl x3), some (.inl r10)] [] Z50 (zri Q)
                refine z0 (op := 5) (a := 0) (b := 0) (by rfl) (by rfl) (?_ : TZ (d + 1) 197 95 [some (.inr 100), some (.inl x1), some (.inl x2), some (.inl x3), some (.inl r10)] [.inr 100] Z50 (zri Q))
                refine z_fi (by rfl) fi111_100 (?_ : TZ (d + 1) 197 98 [some (.inr 100), some (.inl x1), some (.inl x2), some (.inl x3), some (.inl r10)] [.inl (Z50 100 5)] Z50 (zri Q))
                refine z0 (op := 0) (a := 0) (b := 1) (by rfl) (by rfl) (?_ : TZ (d + 1) 197 99 [some (.inr 100), some (.inl x1), some (.inl x2), some (.inl x3), some (.inl r10)] [.inl 1, .inl (Z50 100 5)] Z50 (zri Q))
                refine z0 (op := 12) (a := 1) (b := 0) (by rfl) (by rfl) (?_ : TZ (d + 1) 197 100 [some (.inr 100), some (.inl x1), some (.inl x2), some (.inl x3), some (.inl r10)] [.inl ((Z50 100 5) - 1)] Z50 (zri Q))
                exact z_reti (by rfl) (by rfl) v
              · have v := v2 h48; clear v1 v2
                show TZ (d + 1) 197 75 [some (.inr 100), some (.inl x1), some (.inl x2), some (.inl x3), some (.inl r10)] [] Z43 (zri Q)
                refine z0 (op := 5) (a := 0) (b := 0) (by rfl) (by rfl) (?_ : TZ (d + 1) 197 76 [some (.inr 100), some (.inl x1), some (.inl x2), some (.inl x3), some (.inl r10)] [.inr 100] Z43 (zri Q))
                refine z0 (op := 4) (a := 4) (b := 0) (by rfl) (by rfl) (?_ : TZ (d + 1) 197 78 [some (.inr 100), some (.inl x1), some (.inl x2), some (.inl x3), some (.inl r10)] [.inl r10, .inr 100] Z43 (zri Q))
                refine z_vi (by rfl) (by rfl) cl_100 (TI.mono v fun r52 Z51 v => ?_)
                show TZ (d + 1) 197 81 [some (.inr 100), some (.inl x1), some (.inl x2), some (.inl x3), some (.inl r10)] [.inl r52] Z51 (zri Q)
                exact z_reti (by rfl) (by rfl) v
            · have v := v2 h46; clear v1 v2
              show TZ (d + 1) 197 66 [some (.inr 100), some (.inl x1), some (.inl x2), some (.inl x3), some (.inl r10)] [] Z43 (zri Q)
              refine z0 (op := 1) (a := 0) (b := (-3)) (by rfl) (by rfl) (?_ : TZ (d + 1) 197 68 [some (.inr 100), some (.inl x1), some (.inl x2), some (.inl x3), some (.inl r10)] [.inl (-3)] Z43 (zri Q))
              refine z0 (op := 8) (a := 4) (b := 0) (by rfl) (by rfl) (?_ : TZ (d + 1) 197 70 [some (.inr 100), some (.inl x1), some (.inl x2), some (.inl x3), some (.inl (-3))] [] Z43 (zri Q))
              refine z0 (op := 4) (a := 4) (b := 0) (by rfl) (by rfl) (?_ : TZ (d + 1) 197 72 [some (.inr 100), some (.inl x1), some (.inl x2), some (.inl x3), some (.inl (-3))] [.inl (-3)] Z43 (zri Q))
              refine z_if0 (a := 0) (t := 82) (by rfl) (by rfl) (by decide) (fun h => absurd (show ((-3) : Int) = (0 : Int) from h) (by decide)) (fun _ => ?_)
              show TZ (d + 1) 197 75 [some (.inr 100), some (.inl x1), some (.inl x2), some (.inl x3), some (.inl (-3))] [] Z43 (zri Q)
              refine z0 (op := 5) (a := 0) (b := 0) (by rfl) (by rfl) (?_ : TZ (d + 1) 197 76 [some (.inr 100), some (.inl x1), some (.inl x2), some (.inl x3), some (.inl (-3))] [.inr 100] Z43 (zri Q))
              refine z0 (op := 4) (a := 4) (b := 0) (by rfl) (by rfl) (?_ : TZ (d + 1) 197 78 [some (.inr 100), some (.inl x1), some (.inl x2), some (.inl x3), some (.inl (-3))] [.inl (-3), .inr 100] Z43 (zri Q))
              refine z_vi (by rfl) (by rfl) cl_100 (TI.mono v fun r54 Z53 v => ?_)
              show TZ (d + 1) 197 81 [some (.inr 100), some (.inl x1), some (.inl x2), some (.inl x3), some (.inl (-3))] [.inl r54] Z53 (zri Q)
              exact z_reti (by rfl) (by rfl) v
        · have v := v2 h34; clear v1 v2
          show TZ (d + 1) 197 49 [some (.inr 100), some (.inl x1), some (.inl x2), some (.inl x3), some (.inl r10)] [] Z9 (zri Q)
          refine z0 (op := 1) (a := 0) (b := (-6)) (by rfl) (by rfl) (?_ : TZ (d + 1) 197 51 [some (.inr 100), some (.inl x1), some (.inl x2), some (.inl x3), some (.inl r10)] [.inl (-6)] Z9 (zri Q))
          refine z0 (op := 8) (a := 4) (b := 0) (by rfl) (by rfl) (?_ : TZ (d + 1) 197 53 [some (.inr 100), some (.inl x1), some (.inl x2), some (.inl x3), some (.inl (-6))] [] Z9 (zri Q))
          refine z0 (op := 4) (a := 4) (b := 0) (by rfl) (by rfl) (?_ : TZ (d + 1) 197 55 [some (.inr 100), some (.inl x1), some (.inl x2), some (.inl x3), some (.inl (-6))] [.inl (-6)] Z9 (zri Q))
          refine z_if0 (a := 1) (t := 70) (by rfl) (by rfl) (by decide) (fun _ => ?_) (fun h => absurd (show ((-6) : Int) ≠ (0 : Int) by decide) h)
          show TZ (d + 1) 197 70 [some (.inr 100), some (.inl x1), some (.inl x2), some (.inl x3), some (.inl (-6))] [] Z9 (zri Q)
          refine z0 (op := 4) (a := 4) (b := 0) (by rfl) (by rfl) (?_ : TZ (d + 1) 197 72 [some (.inr 100), some (.inl x1), some (.inl x2), some (.inl x3), some (.inl (-6))] [.inl (-6)] Z9 (zri Q))
          refine z_if0 (a := 0) (t := 82) (by rfl) (by rfl) (by decide) (fun h => absurd (show ((-6) : Int) = (0 : Int) from h) (by decide)) (fun _ => ?_)
          show TZ (d + 1) 197 75 [some (.inr 100), some (.inl x1), some (.inl x2), some (.inl x3), some (.inl (-6))] [] Z9 (zri Q)
          refine z0 (op := 5) (a := 0) (b := 0) (by rfl) (by rfl) (?_ : TZ (d + 1) 197 76 [some (.inr 100), some (.inl x1), some (.inl x2), some (.inl x3), some (.inl (-6))] [.inr 100] Z9 (zri Q))
          refine z0 (op := 4) (a := 4) (b := 0) (by rfl) (by rfl) (?_ : TZ (d + 1) 197 78 [some (.inr 100), some (.inl x1), some (.inl x2), some (.inl x3), some (.inl (-6))] [.inl (-6), .inr 100] Z9 (zri Q))
          refine z_vi (by rfl) (by rfl) cl_100 (TI.mono v fun r56 Z55 v => ?_)
          show TZ (d + 1) 197 81 [some (.inr 100), some (.inl x1), some (.inl x2), some (.inl x3), some (.inl (-6))] [.inl r56] Z55 (zri Q)
          exact z_reti (by rfl) (by rfl) v
    · have v := v2 h8; clear v1 v2
      show TZ (d + 1) 197 21 [some (.inr 100), some (.inl x1), some (.inl x2), some (.inl x3), none] [] Z5 (zri Q)
      refine z0 (op := 1) (a := 0) (b := (-2)) (by rfl) (by rfl) (?_ : TZ (d + 1) 197 23 [some (.inr 100), some (.inl x1), some (.inl x2), some (.inl x3), none] [.inl (-2)] Z5 (zri Q))
      refine z_goto (t := 33) (by rfl) (by rfl) (?_ : TZ (d + 1) 197 33 [some (.inr 100), some (.inl x1), some (.inl x2), some (.inl x3), none] [.inl (-2)] Z5 (zri Q))
      refine z0 (op := 8) (a := 4) (b := 0) (by rfl) (by rfl) (?_ : TZ (d + 1) 197 35 [some (.inr 100), some (.inl x1), some (.inl x2), some (.inl x3), some (.inl (-2))] [] Z5 (zri Q))
      refine z0 (op := 4) (a := 4) (b := 0) (by rfl) (by rfl) (?_ : TZ (d + 1) 197 37 [some (.inr 100), some (.inl x1), some (.inl x2), some (.inl x3), some (.inl (-2))] [.inl (-2)] Z5 (zri Q))
      refine z_if0 (a := 1) (t := 53) (by rfl) (by rfl) (by decide) (fun _ => ?_) (fun h => absurd (show ((-2) : Int) ≠ (0 : Int) by decide) h)
      show TZ (d + 1) 197 53 [some (.inr 100), some (.inl x1), some (.inl x2), some (.inl x3), some (.inl (-2))] [] Z5 (zri Q)
      refine z0 (op := 4) (a := 4) (b := 0) (by rfl) (by rfl) (?_ : TZ (d + 1) 197 55 [some (.inr 100), some (.inl x1), some (.inl x2), some (.inl x3), some (.inl (-2))] [.inl (-2)] Z5 (zri Q))
      refine z_if0 (a := 1) (t := 70) (by rfl) (by rfl) (by decide) (fun _ => ?_) (fun h => absurd (show ((-2) : Int) ≠ (0 : Int) by decide) h)
      show TZ (d + 1) 197 70 [some (.inr 100), some (.inl x1), some (.inl x2), some (.inl x3), some (.inl (-2))] [] Z5 (zri Q)
      refine z0 (op := 4) (a := 4) (b := 0) (by rfl) (by rfl) (?_ : TZ (d + 1) 197 72 [some (.inr 100), some (.inl x1), some (.inl x2), some (.inl x3), some (.inl (-2))] [.inl (-2)] Z5 (zri Q))
      refine z_if0 (a := 0) (t := 82) (by rfl) (by rfl) (by decide) (fun h => absurd (show ((-2) : Int) = (0 : Int) from h) (by decide)) (fun _ => ?_)
      show TZ (d + 1) 197 75 [some (.inr 100), some (.inl x1), some (.inl x2), some (.inl x3), some (.inl (-2))] [] Z5 (zri Q)
      refine z0 (op := 5) (a := 0) (b := 0) (by rfl) (by rfl) (?_ : TZ (d + 1) 197 76 [some (.inr 100), some (.inl x1), some (.inl x2), some (.inl x3), some (.inl (-2))] [.inr 100] Z5 (zri Q))
      refine z0 (op := 4) (a := 4) (b := 0) (by rfl) (by rfl) (?_ : TZ (d + 1) 197 78 [some (.inr 100), some (.inl x1), some (.inl x2), some (.inl x3), some (.inl (-2))] [.inl (-2), .inr 100] Z5 (zri Q))
      refine z_vi (by rfl) (by rfl) cl_100 (TI.mono v fun r58 Z57 v => ?_)
      show TZ (d + 1) 197 81 [some (.inr 100), some (.inl x1), some (.inl x2), some (.inl x3), some (.inl (-2))] [.inl r58] Z57 (zri Q)
      exact z_reti (by rfl) (by rfl) v
  · have v := v2 h4; clear v1 v2
    show TZ (d + 1) 197 8 [some (.inr 100), some (.inl x1), some (.inl x2), some (.inl x3), none] [] Z1 (zri Q)
    refine z0 (op := 0) (a := 0) (b := (-1)) (by rfl) (by rfl) (?_ : TZ (d + 1) 197 9 [some (.inr 100), some (.inl x1), some (.inl x2), some (.inl x3), none] [.inl (-1)] Z1 (zri Q))
    refine z_goto (t := 33) (by rfl) (by rfl) (?_ : TZ (d + 1) 197 33 [some (.inr 100), some (.inl x1), some (.inl x2), some (.inl x3), none] [.inl (-1)] Z1 (zri Q))
    refine z0 (op := 8) (a := 4) (b := 0) (by rfl) (by rfl) (?_ : TZ (d + 1) 197 35 [some (.inr 100), some (.inl x1), some (.inl x2), some (.inl x3), some (.inl (-1))] [] Z1 (zri Q))
    refine z0 (op := 4) (a := 4) (b := 0) (by rfl) (by rfl) (?_ : TZ (d + 1) 197 37 [some (.inr 100), some (.inl x1), some (.inl x2), some (.inl x3), some (.inl (-1))] [.inl (-1)] Z1 (zri Q))
    refine z_if0 (a := 1) (t := 53) (by rfl) (by rfl) (by decide) (fun _ => ?_) (fun h => absurd (show ((-1) : Int) ≠ (0 : Int) by decide) h)
    show TZ (d + 1) 197 53 [some (.inr 100), some (.inl x1), some (.inl x2), some (.inl x3), some (.inl (-1))] [] Z1 (zri Q)
    refine z0 (op := 4) (a := 4) (b := 0) (by rfl) (by rfl) (?_ : TZ (d + 1) 197 55 [some (.inr 100), some (.inl x1), some (.inl x2), some (.inl x3), some (.inl (-1))] [.inl (-1)] Z1 (zri Q))
    refine z_if0 (a := 1) (t := 70) (by rfl) (by rfl) (by decide) (fun _ => ?_) (fun h => absurd (show ((-1) : Int) ≠ (0 : Int) by decide) h)
    show TZ (d + 1) 197 70 [some (.inr 100), some (.inl x1), some (.inl x2), some (.inl x3), some (.inl (-1))] [] Z1 (zri Q)
    refine z0 (op := 4) (a := 4) (b := 0) (by rfl) (by rfl) (?_ : TZ (d + 1) 197 72 [some (.inr 100), some (.inl x1), some (.inl x2), some (.inl x3), some (.inl (-1))] [.inl (-1)] Z1 (zri Q))
    refine z_if0 (a := 0) (t := 82) (by rfl) (by rfl) (by decide) (fun h => absurd (show ((-1) : Int) = (0 : Int) from h) (by decide)) (fun _ => ?_)
    show TZ (d + 1) 197 75 [some (.inr 100), some (.inl x1), some (.inl x2), some (.inl x3), some (.inl (-1))] [] Z1 (zri Q)
    refine z0 (op := 5) (a := 0) (b := 0) (by rfl) (by rfl) (?_ : TZ (d + 1) 197 76 [some (.inr 100), some (.inl x1), some (.inl x2), some (.inl x3), some (.inl (-1))] [.inr 100] Z1 (zri Q))
    refine z0 (op := 4) (a := 4) (b := 0) (by rfl) (by rfl) (?_ : TZ (d + 1) 197 78 [some (.inr 100), some (.inl x1), some (.inl x2), some (.inl x3), some (.inl (-1))] [.inl (-1), .inr 100] Z1 (zri Q))
    refine z_vi (by rfl) (by rfl) cl_100 (TI.mono v fun r60 Z59 v => ?_)
    show TZ (d + 1) 197 81 [some (.inr 100), some (.inl x1), some (.inl x2), some (.inl x3), some (.inl (-1))] [.inl r60] Z59 (zri Q)
    exact z_reti (by rfl) (by rfl) v
theorem w198_0 {d : Nat} {x1 x2 : Int} {Z : zM} {Q : Int → zM → Prop}
    (v : TI d 157 [.inr 100, .inl x1] Z (fun r2 Z1 =>
      zR r2 ∧
        (r2 ≠ 0 → (zR x2 ∧
            (x2 ≠ 0 → (zR x2 ∧
                (x2 ≠ 1 → TI d 154 [.inr 100, .inl (-2)] Z1 (fun r10 Z9 =>
                    Q r10 Z9)) ∧
                (¬ x2 ≠ 1 → TI d 159 [.inr 100, .inl x1] Z1 (fun r12 Z11 =>
                    Q r12 Z11)))) ∧
            (¬ x2 ≠ 0 → ((0 ≤ x1 ∧ x1 < 6) ∧ Q (Z1 102 x1) Z1)))) ∧
        (¬ r2 ≠ 0 → TI d 154 [.inr 100, .inl (-1)] Z1 (fun r15 Z14 =>
            Q r15 Z14)))) :
    TZ (d + 1) 198 0 [some (.inr 100), some (.inl x1), some (.inl x2)] [] Z (zri Q) := by
  refine z0 (op := 5) (a := 0) (b := 0) (by rfl) (by rfl) (?_ : TZ (d + 1) 198 1 [some (.inr 100), some (.inl x1), some (.inl x2)] [.inr 100] Z (zri Q))
  refine z0 (op := 3) (a := 1) (b := 0) (by rfl) (by rfl) (?_ : TZ (d + 1) 198 2 [some (.inr 100), some (.inl x1), some (.inl x2)] [.inl x1, .inr 100] Z (zri Q))
  refine z_vi (by rfl) (by rfl) cl_100 (TI.mono v fun r2 Z1 v => ?_)
  show TZ (d + 1) 198 5 [some (.inr 100), some (.inl x1), some (.inl x2)] [.inl r2] Z1 (zri Q)
  obtain ⟨c3, v1, v2⟩ := v
  refine z_if0 (a := 1) (t := 14) (by rfl) (by rfl) c3 (fun h4 => ?_) (fun h4 => ?_)
  · have v := v1 h4; clear v1 v2
    show TZ (d + 1) 198 14 [some (.inr 100), some (.inl x1), some (.inl x2)] [] Z1 (zri Q)
    refine z0 (op := 3) (a := 2) (b := 0) (by rfl) (by rfl) (?_ : TZ (d + 1) 198 15 [some (.inr 100), some (.inl x1), some (.inl x2)] [.inl x2] Z1 (zri Q))
    obtain ⟨c5, v1, v2⟩ := v
    refine z_if0 (a := 1) (t := 27) (by rfl) (by rfl) c5 (fun h6 => ?_) (fun h6 => ?_)
    · have v := v1 h6; clear v1 v2
      show TZ (d + 1) 198 27 [some (.inr 100), some (.inl x1), some (.inl x2)] [] Z1 (zri Q)
      refine z0 (op := 3) (a := 2) (b := 0) (by rfl) (by rfl) (?_ : TZ (d + 1) 198 28 [some (.inr 100), some (.inl x1), some (.inl x2)] [.inl x2] Z1 (zri Q))
      refine z0 (op := 0) (a := 0) (b := 1) (by rfl) (by rfl) (?_ : TZ (d + 1) 198 29 [some (.inr 100), some (.inl x1), some (.inl x2)] [.inl 1, .inl x2] Z1 (zri Q))
      obtain ⟨c7, v1, v2⟩ := v
      refine z_if2 (a := 1) (t := 40) (by rfl) (by rfl) c7 (by decide) (fun h8 => ?_) (fun h8 => ?_)
      · have v := v1 h8; clear v1 v2
        show TZ (d + 1) 198 40 [some (.inr 100), some (.inl x1), some (.inl x2)] [] Z1 (zri Q)
        refine z0 (op := 5) (a := 0) (b := 0) (by rfl) (by rfl) (?_ : TZ (d + 1) 198 41 [some (.inr 100), some (.inl x1), some (.inl x2)] [.inr 100] Z1 (zri Q))
        refine z0 (op := 1) (a := 0) (b := (-2)) (by rfl) (by rfl) (?_ : TZ (d + 1) 198 43 [some (.inr 100), some (.inl x1), some (.inl x2)] [.inl (-2), .inr 100] Z1 (zri Q))
        refine z_vi (by rfl) (by rfl) cl_100 (TI.mono v fun r10 Z9 v => ?_)
        show TZ (d + 1) 198 46 [some (.inr 100), some (.inl x1), some (.inl x2)] [.inl r10] Z9 (zri Q)
        exact z_reti (by rfl) (by rfl) v
      · have v := v2 h8; clear v1 v2
        show TZ (d + 1) 198 32 [some (.inr 100), some (.inl x1), some (.inl x2)] [] Z1 (zri Q)
        refine z0 (op := 5) (a := 0) (b := 0) (by rfl) (by rfl) (?_ : TZ (d + 1) 198 33 [some (.inr 100), some (.inl x1), some (.inl x2)] [.inr 100] Z1 (zri Q))
        refine z0 (op := 3) (a := 1) (b := 0) (by rfl) (by rfl) (?_ : TZ (d + 1) 198 34 [some (.inr 100), some (.inl x1), some (.inl x2)] [.inl x1, .inr 100] Z1 (zri Q))
        refine z_vi (by rfl) (by rfl) cl_100 (TI.mono v fun r12 Z11 v => ?_)
        show TZ (d + 1) 198 37 [some (.inr 100), some (.inl x1), some (.inl x2)] [.inl r12] Z11 (zri Q)
        refine z_goto (t := 46) (by rfl) (by rfl) (?_ : TZ (d + 1) 198 46 [some (.inr 100), some (.inl x1), some (.inl x2)] [.inl r12] Z11 (zri Q))
        exact z_reti (by rfl) (by rfl) v
    · have v := v2 h6; clear v1 v2
      show TZ (d + 1) 198 18 [some (.inr 100), some (.inl x1), some (.inl x2)] [] Z1 (zri Q)
      refine z0 (op := 5) (a := 0) (b := 0) (by rfl) (by rfl) (?_ : TZ (d + 1) 198 19 [some (.inr 100), some (.inl x1), some (.inl x2)] [.inr 100] Z1 (zri Q))
      refine z_fr (by rfl) fr89_100 (?_ : TZ (d + 1) 198 22 [some (.inr 100), some (.inl x1), some (.inl x2)] [.inr 102] Z1 (zri Q))
      refine z0 (op := 3) (a := 1) (b := 0) (by rfl) (by rfl) (?_ : TZ (d + 1) 198 23 [some (.inr 100), some (.inl x1), some (.inl x2)] [.inl x1, .inr 102] Z1 (zri Q))
      obtain ⟨c13, v⟩ := v
      refine z_al (by rfl) ln_102 c13 (?_ : TZ (d + 1) 198 24 [some (.inr 100), some (.inl x1), some (.inl x2)] [.inl (Z1 102 x1)] Z1 (zri Q))
      refine z_goto (t := 46) (by rfl) (by rfl) (?_ : TZ (d + 1) 198 46 [some (.inr 100), some (.inl x1), some (.inl x2)] [.inl (Z1 102 x1)] Z1 (zri Q))
      exact z_reti (by rfl) (by rfl) v
  · have v := v2 h4; clear v1 v2
    show TZ (d + 1) 198 8 [some (.inr 100), some (.inl x1), some (.inl x2)] [] Z1 (zri Q)
    refine z0 (op := 5) (a := 0) (b := 0) (by rfl) (by rfl) (?_ : TZ (d + 1) 198 9 [some (.inr 100), some (.inl x1), some (.inl x2)] [.inr 100] Z1 (zri Q))
    refine z0 (op := 0) (a := 0) (b := (-1)) (by rfl) (by rfl) (?_ : TZ (d + 1) 198 10 [some (.inr 100), some (.inl x1), some (.inl x2)] [.inl (-1), .inr 100] Z1 (zri Q))
    refine z_vi (by rfl) (by rfl) cl_100 (TI.mono v fun r15 Z14 v => ?_)
    show TZ (d + 1) 198 13 [some (.inr 100), some (.inl x1), some (.inl x2)] [.inl r15] Z14 (zri Q)
    exact z_reti (by rfl) (by rfl) v
theorem w199_0 {d : Nat} {x1 x2 : Int} {Z : zM} {Q : Int → zM → Prop}
    (v : TI d 157 [.inr 100, .inl x1] Z (fun r2 Z1 =>
      zR r2 ∧
        (r2 ≠ 0 → TI d 156 [.inl x2, .inl 0, .inl 11] Z1 (fun r6 Z5 =>
            zR r6 ∧
              (r6 = 0 → ∀ Z9, Z9 = zup Z5 100 19 0 →
                  (0 ≤ x1 ∧ x1 < 6) ∧
                  (0 ≤ x1 ∧ x1 < 6) ∧
                  ∀ Z12, Z12 = zup Z9 102 x1 x2 →
                  Q (Z9 102 x1) Z12) ∧
              (¬ r6 = 0 → TI d 154 [.inr 100, .inl r6] Z5 (fun r14 Z13 =>
                  Q r14 Z13)))) ∧
        (¬ r2 ≠ 0 → TI d 154 [.inr 100, .inl (-1)] Z1 (fun r16 Z15 =>
            Q r16 Z15)))) :
    TZ (d + 1) 199 0 [some (.inr 100), some (.inl x1), some (.inl x2), none, none] [] Z (zri Q) := by
  refine z0 (op := 5) (a := 0) (b := 0) (by rfl) (by rfl) (?_ : TZ (d + 1) 199 1 [some (.inr 100), some (.inl x1), some (.inl x2), none, none] [.inr 100] Z (zri Q))
  refine z0 (op := 3) (a := 1) (b := 0) (by rfl) (by rfl) (?_ : TZ (d + 1) 199 2 [some (.inr 100), some (.inl x1), some (.inl x2), none, none] [.inl x1, .inr 100] Z (zri Q))
  refine z_vi (by rfl) (by rfl) cl_100 (TI.mono v fun r2 Z1 v => ?_)
  show TZ (d + 1) 199 5 [some (.inr 100), some (.inl x1), some (.inl x2), none, none] [.inl r2] Z1 (zri Q)
  obtain ⟨c3, v1, v2⟩ := v
  refine z_if0 (a := 1) (t := 12) (by rfl) (by rfl) c3 (fun h4 => ?_) (fun h4 => ?_)
  · have v := v1 h4; clear v1 v2
    show TZ (d + 1) 199 12 [some (.inr 100), some (.inl x1), some (.inl x2), none, none] [] Z1 (zri Q)
    refine z0 (op := 3) (a := 2) (b := 0) (by rfl) (by rfl) (?_ : TZ (d + 1) 199 13 [some (.inr 100), some (.inl x1), some (.inl x2), none, none] [.inl x2] Z1 (zri Q))
    refine z0 (op := 0) (a := 0) (b := 0) (by rfl) (by rfl) (?_ : TZ (d + 1) 199 14 [some (.inr 100), some (.inl x1), some (.inl x2), none, none] [.inl 0, .inl x2] Z1 (zri Q))
    refine z0 (op := 1) (a := 0) (b := 11) (by rfl) (by rfl) (?_ : TZ (d + 1) 199 16 [some (.inr 100), some (.inl x1), some (.inl x2), none, none] [.inl 11, .inl 0, .inl x2] Z1 (zri Q))
    refine z_si (by rfl) (by rfl) (TI.mono v fun r6 Z5 v => ?_)
    show TZ (d + 1) 199 19 [some (.inr 100), some (.inl x1), some (.inl x2), none, none] [.inl r6] Z5 (zri Q)
    refine z0 (op := 7) (a := 3) (b := 0) (by rfl) (by rfl) (?_ : TZ (d + 1) 199 20 [some (.inr 100), some (.inl x1), some (.inl x2), some (.inl r6), none] [] Z5 (zri Q))
    refine z0 (op := 3) (a := 3) (b := 0) (by rfl) (by rfl) (?_ : TZ (d + 1) 199 21 [some (.inr 100), some (.inl x1), some (.inl x2), some (.inl r6), none] [.inl r6] Z5 (zri Q))
    obtain ⟨c7, v1, v2⟩ := v
    refine z_if0 (a := 0) (t := 30) (by rfl) (by rfl) c7 (fun h8 => ?_) (fun h8 => ?_)
    · have v := v1 h8; clear v1 v2
      show TZ (d + 1) 199 30 [some (.inr 100), some (.inl x1), some (.inl x2), some (.inl r6), none] [] Z5 (zri Q)
      refine z0 (op := 5) (a := 0) (b := 0) (by rfl) (by rfl) (?_ : TZ (d + 1) 199 31 [some (.inr 100), some (.inl x1), some (.inl x2), some (.inl r6), none] [.inr 100] Z5 (zri Q))
      refine z0 (op := 0) (a := 0) (b := 0) (by rfl) (by rfl) (?_ : TZ (d + 1) 199 32 [some (.inr 100), some (.inl x1), some (.inl x2), some (.inl r6), none] [.inl 0, .inr 100] Z5 (zri Q))
      obtain ⟨Z9, eZ9⟩ : ∃ q, q = zup Z5 100 19 0 := ⟨_, rfl⟩
      have v := v Z9 eZ9
      refine z_pf (by rfl) pf116_100 (fun h => nomatch h) ?_
      show TZ (d + 1) 199 35 [some (.inr 100), some (.inl x1), some (.inl x2), some (.inl r6), none] [] (zup Z5 100 19 0) _
      rw [← eZ9]
      refine z0 (op := 5) (a := 0) (b := 0) (by rfl) (by rfl) (?_ : TZ (d + 1) 199 36 [some (.inr 100), some (.inl x1), some (.inl x2), some (.inl r6), none] [.inr 100] Z9 (zri Q))
      refine z_fr (by rfl) fr89_100 (?_ : TZ (d + 1) 199 39 [some (.inr 100), some (.inl x1), some (.inl x2), some (.inl r6), none] [.inr 102] Z9 (zri Q))
      refine z0 (op := 3) (a := 1) (b := 0) (by rfl) (by rfl) (?_ : TZ (d + 1) 199 40 [some (.inr 100), some (.inl x1), some (.inl x2), some (.inl r6), none] [.inl x1, .inr 102] Z9 (zri Q))
      obtain ⟨c10, v⟩ := v
      refine z_al (by rfl) ln_102 c10 (?_ : TZ (d + 1) 199 41 [some (.inr 100), some (.inl x1), some (.inl x2), some (.inl r6), none] [.inl (Z9 102 x1)] Z9 (zri Q))
      refine z0 (op := 8) (a := 4) (b := 0) (by rfl) (by rfl) (?_ : TZ (d + 1) 199 43 [some (.inr 100), some (.inl x1), some (.inl x2), some (.inl r6), some (.inl (Z9 102 x1))] [] Z9 (zri Q))
      refine z0 (op := 5) (a := 0) (b := 0) (by rfl) (by rfl) (?_ : TZ (d + 1) 199 44 [some (.inr 100), some (.inl x1), some (.inl x2), some (.inl r6), some (.inl (Z9 102 x1))] [.inr 100] Z9 (zri Q))
      refine z_fr (by rfl) fr89_100 (?_ : TZ (d + 1) 199 47 [some (.inr 100), some (.inl x1), some (.inl x2), some (.inl r6), some (.inl (Z9 102 x1))] [.inr 102] Z9 (zri Q))
      refine z0 (op := 3) (a := 1) (b := 0) (by rfl) (by rfl) (?_ : TZ (d + 1) 199 48 [some (.inr 100), some (.inl x1), some (.inl x2), some (.inl r6), some (.inl (Z9 102 x1))] [.inl x1, .inr 102] Z9 (zri Q))
      refine z0 (op := 3) (a := 2) (b := 0) (by rfl) (by rfl) (?_ : TZ (d + 1) 199 49 [some (.inr 100), some (.inl x1), some (.inl x2), some (.inl r6), some (.inl (Z9 102 x1))] [.inl x2, .inl x1, .inr 102] Z9 (zri Q))
      obtain ⟨c11, v⟩ := v
      obtain ⟨Z12, eZ12⟩ : ∃ q, q = zup Z9 102 x1 x2 := ⟨_, rfl⟩
      have v := v Z12 eZ12
      refine z_as (by rfl) ln_102 c11 ?_
      show TZ (d + 1) 199 50 [some (.inr 100), some (.inl x1), some (.inl x2), some (.inl r6), some (.inl (Z9 102 x1))] [] (zup Z9 102 x1 x2) _
      rw [← eZ12]
      refine z0 (op := 4) (a := 4) (b := 0) (by rfl) (by rfl) (?_ : TZ (d + 1) 199 52 [some (.inr 100), some (.inl x1), some (.inl x2), some (.inl r6), some (.inl (Z9 102 x1))] [.inl (Z9 102 x1)] Z12 (zri Q))
      exact z_reti (by rfl) (by rfl) v
    · have v := v2 h8; clear v1 v2
      show TZ (d + 1) 199 24 [some (.inr 100), some (.inl x1), some (.inl x2), some (.inl r6), none] [] Z5 (zri Q)
      refine z0 (op := 5) (a := 0) (b := 0) (by rfl) (by rfl) (?_ : TZ (d + 1) 199 25 [some (.inr 100), some (.inl x1), some (.inl x2), some (.inl r6), none] [.inr 100] Z5 (zri Q))
      refine z0 (op := 3) (a := 3) (b := 0) (by rfl) (by rfl) (?_ : TZ (d + 1) 199 26 [some (.inr 100), some (.inl x1), some (.inl x2), some (.inl r6), none] [.inl r6, .inr 100] Z5 (zri Q))
      refine z_vi (by rfl) (by rfl) cl_100 (TI.mono v fun r14 Z13 v => ?_)
      show TZ (d + 1) 199 29 [some (.inr 100), some (.inl x1), some (.inl x2), some (.inl r6), none] [.inl r14] Z13 (zri Q)
      exact z_reti (by rfl) (by rfl) v
  · have v := v2 h4; clear v1 v2
    show TZ (d + 1) 199 8 [some (.inr 100), some (.inl x1), some (.inl x2), none, none] [] Z1 (zri Q)
    refine z0 (op := 0) (a := 0) (b := (-1)) (by rfl) (by rfl) (?_ : TZ (d + 1) 199 9 [some (.inr 100), some (.inl x1), some (.inl x2), none, none] [.inl (-1)] Z1 (zri Q))
    refine z_goto (t := 19) (by rfl) (by rfl) (?_ : TZ (d + 1) 199 19 [some (.inr 100), some (.inl x1), some (.inl x2), none, none] [.inl (-1)] Z1 (zri Q))
    refine z0 (op := 7) (a := 3) (b := 0) (by rfl) (by rfl) (?_ : TZ (d + 1) 199 20 [some (.inr 100), some (.inl x1), some (.inl x2), some (.inl (-1)), none] [] Z1 (zri Q))
    refine z0 (op := 3) (a := 3) (b := 0) (by rfl) (by rfl) (?_ : TZ (d + 1) 199 21 [some (.inr 100), some (.inl x1), some (.inl x2), some (.inl (-1)), none] [.inl (-1)] Z1 (zri Q))
    refine z_if0 (a := 0) (t := 30) (by rfl) (by rfl) (by decide) (fun h => absurd (show ((-1) : Int) = (0 : Int) from h) (by decide)) (fun _ => ?_)
    show TZ (d + 1) 199 24 [some (.inr 100), some (.inl x1), some (.inl x2), some (.inl (-1)), none] [] Z1 (zri Q)
    refine z0 (op := 5) (a := 0) (b := 0) (by rfl) (by rfl) (?_ : TZ (d + 1) 199 25 [some (.inr 100), some (.inl x1), some (.inl x2), some (.inl (-1)), none] [.inr 100] Z1 (zri Q))
    refine z0 (op := 3) (a := 3) (b := 0) (by rfl) (by rfl) (?_ : TZ (d + 1) 199 26 [some (.inr 100), some (.inl x1), some (.inl x2), some (.inl (-1)), none] [.inl (-1), .inr 100] Z1 (zri Q))
    refine z_vi (by rfl) (by rfl) cl_100 (TI.mono v fun r16 Z15 v => ?_)
    show TZ (d + 1) 199 29 [some (.inr 100), some (.inl x1), some (.inl x2), some (.inl (-1)), none] [.inl r16] Z15 (zri Q)
    exact z_reti (by rfl) (by rfl) v
theorem w200_0 {d : Nat} {x1 : Int} {Z : zM} {Q : Int → zM → Prop}
    (v : TI d 155 [.inl x1, .inl 0, .inl 1] Z (fun r2 Z1 =>
      zR r2 ∧
        (r2 ≠ 0 → ∀ Z5, Z5 = zup Z1 100 19 0 →
            zR ((Z1 100 6) - 5) ∧
            zR x1 ∧
            (((Z1 100 6) - 5) = x1 → Q ((Z1 100 6) - 5) Z5) ∧
            (¬ ((Z1 100 6) - 5) = x1 → TV d 194 [.inr 100] Z5 (fun Z9 =>
                Q ((Z1 100 6) - 5) Z9))) ∧
        (¬ r2 ≠ 0 → TI d 154 [.inr 100, .inl (-2)] Z1 (fun r11 Z10 =>
            Q r11 Z10)))) :
    TZ (d + 1) 200 0 [some (.inr 100), some (.inl x1), none] [] Z (zri Q) := by
  refine z0 (op := 3) (a := 1) (b := 0) (by rfl) (by rfl) (?_ : TZ (d + 1) 200 1 [some (.inr 100), some (.inl x1), none] [.inl x1] Z (zri Q))
  refine z0 (op := 0) (a := 0) (b := 0) (by rfl) (by rfl) (?_ : TZ (d + 1) 200 2 [some (.inr 100), some (.inl x1), none] [.inl 0, .inl x1] Z (zri Q))
  refine z0 (op := 0) (a := 0) (b := 1) (by rfl) (by rfl) (?_ : TZ (d + 1) 200 3 [some (.inr 100), some (.inl x1), none] [.inl 1, .inl 0, .inl x1] Z (zri Q))
  refine z_si (by rfl) (by rfl) (TI.mono v fun r2 Z1 v => ?_)
  show TZ (d + 1) 200 6 [some (.inr 100), some (.inl x1), none] [.inl r2] Z1 (zri Q)
  obtain ⟨c3, v1, v2⟩ := v
  refine z_if0 (a := 1) (t := 16) (by rfl) (by rfl) c3 (fun h4 => ?_) (fun h4 => ?_)
  · have v := v1 h4; clear v1 v2
    show TZ (d + 1) 200 16 [some (.inr 100), some (.inl x1), none] [] Z1 (zri Q)
    refine z0 (op := 5) (a := 0) (b := 0) (by rfl) (by rfl) (?_ : TZ (d + 1) 200 17 [some (.inr 100), some (.inl x1), none] [.inr 100] Z1 (zri Q))
    refine z_fi (by rfl) fi110_100 (?_ : TZ (d + 1) 200 20 [some (.inr 100), some (.inl x1), none] [.inl (Z1 100 6)] Z1 (zri Q))
    refine z0 (op := 0) (a := 0) (b := 5) (by rfl) (by rfl) (?_ : TZ (d + 1) 200 21 [some (.inr 100), some (.inl x1), none] [.inl 5, .inl (Z1 100 6)] Z1 (zri Q))
    refine z0 (op := 12) (a := 1) (b := 0) (by rfl) (by rfl) (?_ : TZ (d + 1) 200 22 [some (.inr 100), some (.inl x1), none] [.inl ((Z1 100 6) - 5)] Z1 (zri Q))
    refine z0 (op := 7) (a := 2) (b := 0) (by rfl) (by rfl) (?_ : TZ (d + 1) 200 23 [some (.inr 100), some (.inl x1), some (.inl ((Z1 100 6) - 5))] [] Z1 (zri Q))
    refine z0 (op := 5) (a := 0) (b := 0) (by rfl) (by rfl) (?_ : TZ (d + 1) 200 24 [some (.inr 100), some (.inl x1), some (.inl ((Z1 100 6) - 5))] [.inr 100] Z1 (zri Q))
    refine z0 (op := 0) (a := 0) (b := 0) (by rfl) (by rfl) (?_ : TZ (d + 1) 200 25 [some (.inr 100), some (.inl x1), some (.inl ((Z1 100 6) - 5))] [.inl 0, .inr 100] Z1 (zri Q))
    obtain ⟨Z5, eZ5⟩ : ∃ q, q = zup Z1 100 19 0 := ⟨_, rfl⟩
    have v := v Z5 eZ5
    refine z_pf (by rfl) pf116_100 (fun h => nomatch h) ?_
    show TZ (d + 1) 200 28 [some (.inr 100), some (.inl x1), some (.inl ((Z1 100 6) - 5))] [] (zup Z1 100 19 0) _
    rw [← eZ5]
    refine z0 (op := 3) (a := 2) (b := 0) (by rfl) (by rfl) (?_ : TZ (d + 1) 200 29 [some (.inr 100), some (.inl x1), some (.inl ((Z1 100 6) - 5))] [.inl ((Z1 100 6) - 5)] Z5 (zri Q))
    refine z0 (op := 3) (a := 1) (b := 0) (by rfl) (by rfl) (?_ : TZ (d + 1) 200 30 [some (.inr 100), some (.inl x1), some (.inl ((Z1 100 6) - 5))] [.inl x1, .inl ((Z1 100 6) - 5)] Z5 (zri Q))
    obtain ⟨c6, c7, v1, v2⟩ := v
    refine z_if2 (a := 0) (t := 37) (by rfl) (by rfl) c6 c7 (fun h8 => ?_) (fun h8 => ?_)
    · have v := v1 h8; clear v1 v2
      show TZ (d + 1) 200 37 [some (.inr 100), some (.inl x1), some (.inl ((Z1 100 6) - 5))] [] Z5 (zri Q)
      refine z0 (op := 3) (a := 2) (b := 0) (by rfl) (by rfl) (?_ : TZ (d + 1) 200 38 [some (.inr 100), some (.inl x1), some (.inl ((Z1 100 6) - 5))] [.inl ((Z1 100 6) - 5)] Z5 (zri Q))
      exact z_reti (by rfl) (by rfl) v
    · have v := v2 h8; clear v1 v2
      show TZ (d + 1) 200 33 [some (.inr 100), some (.inl x1), some (.inl ((Z1 100 6) - 5))] [] Z5 (zri Q)
      refine z0 (op := 5) (a := 0) (b := 0) (by rfl) (by rfl) (?_ : TZ (d + 1) 200 34 [some (.inr 100), some (.inl x1), some (.inl ((Z1 100 6) - 5))] [.inr 100] Z5 (zri Q))
      refine z_vv (by rfl) (by rfl) cl_100 (TV.mono v fun Z9 v => ?_)
      show TZ (d + 1) 200 37 [some (.inr 100), some (.inl x1), some (.inl ((Z1 100 6) - 5))] [] Z9 (zri Q)
      refine z0 (op := 3) (a := 2) (b := 0) (by rfl) (by rfl) (?_ : TZ (d + 1) 200 38 [some (.inr 100), some (.inl x1), some (.inl ((Z1 100 6) - 5))] [.inl ((Z1 100 6) - 5)] Z9 (zri Q))
      exact z_reti (by rfl) (by rfl) v
  · have v := v2 h4; clear v1 v2
    show TZ (d + 1) 200 9 [some (.inr 100), some (.inl x1), none] [] Z1 (zri Q)
    refine z0 (op := 5) (a := 0) (b := 0) (by rfl) (by rfl) (?_ : TZ (d + 1) 200 10 [some (.inr 100), some (.inl x1), none] [.inr 100] Z1 (zri Q))
    refine z0 (op := 1) (a := 0) (b := (-2)) (by rfl) (by rfl) (?_ : TZ (d + 1) 200 12 [some (.inr 100), some (.inl x1), none] [.inl (-2), .inr 100] Z1 (zri Q))
    refine z_vi (by rfl) (by rfl) cl_100 (TI.mono v fun r11 Z10 v => ?_)
    show TZ (d + 1) 200 15 [some (.inr 100), some (.inl x1), none] [.inl r11] Z10 (zri Q)
    exact z_reti (by rfl) (by rfl) v
theorem w201_0 {d : Nat} {x1 : Int} {Z : zM} {Q : Int → zM → Prop}
    (v : zR x1 ∧
      (x1 = (-1) → (zR (Z 100 7) ∧
          ((Z 100 7) ≠ 999 → TV d 175 [.inr 100] Z (fun Z5 =>
              TI d 188 [.inr 100, .inl x1] Z5 (fun r7 Z6 =>
                TI d 161 [.inr 100] Z6 (fun r9 Z8 =>
                  Q r9 Z8)))) ∧
          (¬ (Z 100 7) ≠ 999 → TI d 154 [.inr 100, .inl (-6)] Z (fun r11 Z10 =>
              Q r11 Z10)))) ∧
      (¬ x1 = (-1) → TI d 157 [.inr 100, .inl x1] Z (fun r13 Z12 =>
          zR r13 ∧
            (r13 ≠ 0 → (zR (Z12 100 7) ∧
                ((Z12 100 7) ≠ 999 → TV d 175 [.inr 100] Z12 (fun Z18 =>
                    TI d 188 [.inr 100, .inl x1] Z18 (fun r20 Z19 =>
                      TI d 161 [.inr 100] Z19 (fun r22 Z21 =>
                        Q r22 Z21)))) ∧
                (¬ (Z12 100 7) ≠ 999 → TI d 154 [.inr 100, .inl (-6)] Z12 (fun r24 Z23 =>
                    Q r24 Z23)))) ∧
            (¬ r13 ≠ 0 → TI d 154 [.inr 100, .inl (-1)] Z12 (fun r26 Z25 =>
                Q r26 Z25))))) :
    TZ (d + 1) 201 0 [some (.inr 100), some (.inl x1), none] [] Z (zri Q) := by
  refine z0 (op := 3) (a := 1) (b := 0) (by rfl) (by rfl) (?_ : TZ (d + 1) 201 1 [some (.inr 100), some (.inl x1), none] [.inl x1] Z (zri Q))
  refine z0 (op := 0) (a := 0) (b := (-1)) (by rfl) (by rfl) (?_ : TZ (d + 1) 201 2 [some (.inr 100), some (.inl x1), none] [.inl (-1), .inl x1] Z (zri Q))
  obtain ⟨c1, v1, v2⟩ := v
  refine z_if2 (a := 0) (t := 17) (by rfl) (by rfl) c1 (by decide) (fun h2 => ?_) (fun h2 => ?_)
  · have v := v1 h2; clear v1 v2
    show TZ (d + 1) 201 17 [some (.inr 100), some (.inl x1), none] [] Z (zri Q)
    refine z0 (op := 5) (a := 0) (b := 0) (by rfl) (by rfl) (?_ : TZ (d + 1) 201 18 [some (.inr 100), some (.inl x1), none] [.inr 100] Z (zri Q))
    refine z_fi (by rfl) fi112_100 (?_ : TZ (d + 1) 201 21 [some (.inr 100), some (.inl x1), none] [.inl (Z 100 7)] Z (zri Q))
    refine z0 (op := 2) (a := 0) (b := 999) (by rfl) (by rfl) (?_ : TZ (d + 1) 201 24 [some (.inr 100), some (.inl x1), none] [.inl 999, .inl (Z 100 7)] Z (zri Q))
    obtain ⟨c3, v1, v2⟩ := v
    refine z_if2 (a := 1) (t := 32) (by rfl) (by rfl) c3 (by decide) (fun h4 => ?_) (fun h4 => ?_)
    · have v := v1 h4; clear v1 v2
      show TZ (d + 1) 201 32 [some (.inr 100), some (.inl x1), none] [] Z (zri Q)
      refine z0 (op := 0) (a := 0) (b := 0) (by rfl) (by rfl) (?_ : TZ (d + 1) 201 33 [some (.inr 100), some (.inl x1), none] [.inl 0] Z (zri Q))
      refine z0 (op := 7) (a := 2) (b := 0) (by rfl) (by rfl) (?_ : TZ (d + 1) 201 34 [some (.inr 100), some (.inl x1), some (.inl 0)] [] Z (zri Q))
      refine z0 (op := 3) (a := 2) (b := 0) (by rfl) (by rfl) (?_ : TZ (d + 1) 201 35 [some (.inr 100), some (.inl x1), some (.inl 0)] [.inl 0] Z (zri Q))
      refine z_if0 (a := 0) (t := 44) (by rfl) (by rfl) (by decide) (fun _ => ?_) (fun h => absurd (show (0 : Int) = (0 : Int) by decide) h)
      show TZ (d + 1) 201 44 [some (.inr 100), some (.inl x1), some (.inl 0)] [] Z (zri Q)
      refine z0 (op := 5) (a := 0) (b := 0) (by rfl) (by rfl) (?_ : TZ (d + 1) 201 45 [some (.inr 100), some (.inl x1), some (.inl 0)] [.inr 100] Z (zri Q))
      refine z_vv (by rfl) (by rfl) cl_100 (TV.mono v fun Z5 v => ?_)
      show TZ (d + 1) 201 48 [some (.inr 100), some (.inl x1), some (.inl 0)] [] Z5 (zri Q)
      refine z0 (op := 5) (a := 0) (b := 0) (by rfl) (by rfl) (?_ : TZ (d + 1) 201 49 [some (.inr 100), some (.inl x1), some (.inl 0)] [.inr 100] Z5 (zri Q))
      refine z0 (op := 3) (a := 1) (b := 0) (by rfl) (by rfl) (?_ : TZ (d + 1) 201 50 [some (.inr 100), some (.inl x1), some (.inl 0)] [.inl x1, .inr 100] Z5 (zri Q))
      refine z_vi (by rfl) (by rfl) cl_100 (TI.mono v fun r7 Z6 v => ?_)
      show TZ (d + 1) 201 53 [some (.inr 100), some (.inl x1), some (.inl 0)] [.inl r7] Z6 (zri Q)
      refine z0 (op := 14) (a := 0) (b := 0) (by rfl) (by rfl) (?_ : TZ (d + 1) 201 54 [some (.inr 100), some (.inl x1), some (.inl 0)] [] Z6 (zri Q))
      refine z0 (op := 5) (a := 0) (b := 0) (by rfl) (by rfl) (?_ : TZ (d + 1) 201 55 [some (.inr 100), some (.inl x1), some (.inl 0)] [.inr 100] Z6 (zri Q))
      refine z_vi (by rfl) (by rfl) cl_100 (TI.mono v fun r9 Z8 v => ?_)
      show TZ (d + 1) 201 58 [some (.inr 100), some (.inl x1), some (.inl 0)] [.inl r9] Z8 (zri Q)
      exact z_reti (by rfl) (by rfl) v
    · have v := v2 h4; clear v1 v2
      show TZ (d + 1) 201 27 [some (.inr 100), some (.inl x1), none] [] Z (zri Q)
      refine z0 (op := 1) (a := 0) (b := (-6)) (by rfl) (by rfl) (?_ : TZ (d + 1) 201 29 [some (.inr 100), some (.inl x1), none] [.inl (-6)] Z (zri Q))
      refine z_goto (t := 33) (by rfl) (by rfl) (?_ : TZ (d + 1) 201 33 [some (.inr 100), some (.inl x1), none] [.inl (-6)] Z (zri Q))
      refine z0 (op := 7) (a := 2) (b := 0) (by rfl) (by rfl) (?_ : TZ (d + 1) 201 34 [some (.inr 100), some (.inl x1), some (.inl (-6))] [] Z (zri Q))
      refine z0 (op := 3) (a := 2) (b := 0) (by rfl) (by rfl) (?_ : TZ (d + 1) 201 35 [some (.inr 100), some (.inl x1), some (.inl (-6))] [.inl (-6)] Z (zri Q))
      refine z_if0 (a := 0) (t := 44) (by rfl) (by rfl) (by decide) (fun h => absurd (show ((-6) : Int) = (0 : Int) from h) (by decide)) (fun _ => ?_)
      show TZ (d + 1) 201 38 [some (.inr 100), some (.inl x1), some (.inl (-6))] [] Z (zri Q)
      refine z0 (op := 5) (a := 0) (b := 0) (by rfl) (by rfl) (?_ : TZ (d + 1) 201 39 [some (.inr 100), some (.inl x1), some (.inl (-6))] [.inr 100] Z (zri Q))
      refine z0 (op := 3) (a := 2) (b := 0) (by rfl) (by rfl) (?_ : TZ (d + 1) 201 40 [some (.inr 100), some (.inl x1), some (.inl (-6))] [.inl (-6), .inr 100] Z (zri Q))
      refine z_vi (by rfl) (by rfl) cl_100 (TI.mono v fun r11 Z10 v => ?_)
      show TZ (d + 1) 201 43 [some (.inr 100), some (.inl x1), some (.inl (-6))] [.inl r11] Z10 (zri Q)
      exact z_reti (by rfl) (by rfl) v
  · have v := v2 h2; clear v1 v2
    show TZ (d + 1) 201 5 [some (.inr 100), some (.inl x1), none] [] Z (zri Q)
    refine z0 (op := 5) (a := 0) (b := 0) (by rfl) (by rfl) (?_ : TZ (d + 1) 201 6 [some (.inr 100), some (.inl x1), none] [.inr 100] Z (zri Q))
    refine z0 (op := 3) (a := 1) (b := 0) (by rfl) (by rfl) (?_ : TZ (d + 1) 201 7 [some (.inr 100), some (.inl x1), none] [.inl x1, .inr 100] Z (zri Q))
    refine z_vi (by rfl) (by rfl) cl_100 (TI.mono v fun r13 Z12 v => ?_)
    show TZ (d + 1) 201 10 [some (.inr 100), some (.inl x1), none] [.inl r13] Z12 (zri Q)
    obtain ⟨c14, v1, v2⟩ := v
    refine z_if0 (a := 1) (t := 17) (by rfl) (by rfl) c14 (fun h15 => ?_) (fun h15 => ?_)
    · have v := v1 h15; clear v1 v2
      show TZ (d + 1) 201 17 [some (.inr 100), some (.inl x1), none] [] Z12 (zri Q)
      refine z0 (op := 5) (a := 0) (b := 0) (by rfl) (by rfl) (?_ : TZ (d + 1) 201 18 [some (.inr 100), some (.inl x1), none] [.inr 100] Z12 (zri Q))
      refine z_fi (by rfl) fi112_100 (?_ : TZ (d + 1) 201 21 [some (.inr 100), some (.inl x1), none] [.inl (Z12 100 7)] Z12 (zri Q))
      refine z0 (op := 2) (a := 0) (b := 999) (by rfl) (by rfl) (?_ : TZ (d + 1) 201 24 [some (.inr 100), some (.inl x1), none] [.inl 999, .inl (Z12 100 7)] Z12 (zri Q))
      obtain ⟨c16, v1, v2⟩ := v
      refine z_if2 (a := 1) (t := 32) (by rfl) (by rfl) c16 (by decide) (fun h17 => ?_) (fun h17 => ?_)
      · have v := v1 h17; clear v1 v2
        show TZ (d + 1) 201 32 [some (.inr 100), some (.inl x1), none] [] Z12 (zri Q)
        refine z0 (op := 0) (a := 0) (b := 0) (by rfl) (by rfl) (?_ : TZ (d + 1) 201 33 [some (.inr 100), some (.inl x1), none] [.inl 0] Z12 (zri Q))
        refine z0 (op := 7) (a := 2) (b := 0) (by rfl) (by rfl) (?_ : TZ (d + 1) 201 34 [some (.inr 100), some (.inl x1), some (.inl 0)] [] Z12 (zri Q))
        refine z0 (op := 3) (a := 2) (b := 0) (by rfl) (by rfl) (?_ : TZ (d + 1) 201 35 [some (.inr 100), some (.inl x1), some (.inl 0)] [.inl 0] Z12 (zri Q))
        refine z_if0 (a := 0) (t := 44) (by rfl) (by rfl) (by decide) (fun _ => ?_) (fun h => absurd (show (0 : Int) = (0 : Int) by decide) h)
        show TZ (d + 1) 201 44 [some (.inr 100), some (.inl x1), some (.inl 0)] [] Z12 (zri Q)
        refine z0 (op := 5) (a := 0) (b := 0) (by rfl) (by rfl) (?_ : TZ (d + 1) 201 45 [some (.inr 100), some (.inl x1), some (.inl 0)] [.inr 100] Z12 (zri Q))
        refine z_vv (by rfl) (by rfl) cl_100 (TV.mono v fun Z18 v => ?_)
        show TZ (d + 1) 201 48 [some (.inr 100), some (.inl x1), some (.inl 0)] [] Z18 (zri Q)
        refine z0 (op := 5) (a := 0) (b := 0) (by rfl) (by rfl) (?_ : TZ (d + 1) 201 49 [some (.inr 100), some (.inl x1), some (.inl 0)] [.inr 100] Z18 (zri Q))
        refine z0 (op := 3) (a := 1) (b := 0) (by rfl) (by rfl) (?_ : TZ (d + 1) 201 50 [some (.inr 100), some (.inl x1), some (.inl 0)] [.inl x1, .inr 100] Z18 (zri Q))
        refine z_vi (by rfl) (by rfl) cl_100 (TI.mono v fun r20 Z19 v => ?_)
        show TZ (d + 1) 201 53 [some (.inr 100), some (.inl x1), some (.inl 0)] [.inl r20] Z19 (zri Q)
        refine z0 (op := 14) (a := 0) (b := 0) (by rfl) (by rfl) (?_ : TZ (d + 1) 201 54 [some (.inr 100), some (.inl x1), some (.inl 0)] [] Z19 (zri Q))
        refine z0 (op := 5) (a := 0) (b := 0) (by rfl) (by rfl) (?_ : TZ (d + 1) 201 55 [some (.inr 100), some (.inl x1), some (.inl 0)] [.inr 100] Z19 (zri Q))
        refine z_vi (by rfl) (by rfl) cl_100 (TI.mono v fun r22 Z21 v => ?_)
        show TZ (d + 1) 201 58 [some (.inr 100), some (.inl x1), some (.inl 0)] [.inl r22] Z21 (zri Q)
        exact z_reti (by rfl) (by rfl) v
      · have v := v2 h17; clear v1 v2
        show TZ (d + 1) 201 27 [some (.inr 100), some (.inl x1), none] [] Z12 (zri Q)
        refine z0 (op := 1) (a := 0) (b := (-6)) (by rfl) (by rfl) (?_ : TZ (d + 1) 201 29 [some (.inr 100), some (.inl x1), none] [.inl (-6)] Z12 (zri Q))
        refine z_goto (t := 33) (by rfl) (by rfl) (?_ : TZ (d + 1) 201 33 [some (.inr 100), some (.inl x1), none] [.inl (-6)] Z12 (zri Q))
        refine z0 (op := 7) (a := 2) (b := 0) (by rfl) (by rfl) (?_ : TZ (d + 1) 201 34 [some (.inr 100), some (.inl x1), some (.inl (-6))] [] Z12 (zri Q))
        refine z0 (op := 3) (a := 2) (b := 0) (by rfl) (by rfl) (?_ : TZ (d + 1) 201 35 [some (.inr 100), some (.inl x1), some (.inl (-6))] [.inl (-6)] Z12 (zri Q))
        refine z_if0 (a := 0) (t := 44) (by rfl) (by rfl) (by decide) (fun h => absurd (show ((-6) : Int) = (0 : Int) from h) (by decide)) (fun _ => ?_)
        show TZ (d + 1) 201 38 [some (.inr 100), some (.inl x1), some (.inl (-6))] [] Z12 (zri Q)
        refine z0 (op := 5) (a := 0) (b := 0) (by rfl) (by rfl) (?_ : TZ (d + 1) 201 39 [some (.inr 100), some (.inl x1), some (.inl (-6))] [.inr 100] Z12 (zri Q))
        refine z0 (op := 3) (a := 2) (b := 0) (by rfl) (by rfl) (?_ : TZ (d + 1) 201 40 [some (.inr 100), some (.inl x1), some (.inl (-6))] [.inl (-6), .inr 100] Z12 (zri Q))
        refine z_vi (by rfl) (by rfl) cl_100 (TI.mono v fun r24 Z23 v => ?_)
        show TZ (d + 1) 201 43 [some (.inr 100), some (.inl x1), some (.inl (-6))] [.inl r24] Z23 (zri Q)
        exact z_reti (by rfl) (by rfl) v
    · have v := v2 h15; clear v1 v2
      show TZ (d + 1) 201 13 [some (.inr 100), some (.inl x1), none] [] Z12 (zri Q)
      refine z0 (op := 0) (a := 0) (b := (-1)) (by rfl) (by rfl) (?_ : TZ (d + 1) 201 14 [some (.inr 100), some (.inl x1), none] [.inl (-1)] Z12 (zri Q))
      refine z_goto (t := 33) (by rfl) (by rfl) (?_ : TZ (d + 1) 201 33 [some (.inr 100), some (.inl x1), none] [.inl (-1)] Z12 (zri Q))
      refine z0 (op := 7) (a := 2) (b := 0) (by rfl) (by rfl) (?_ : TZ (d + 1) 201 34 [some (.inr 100), some (.inl x1), some (.inl (-1))] [] Z12 (zri Q))
      refine z0 (op := 3) (a := 2) (b := 0) (by rfl) (by rfl) (?_ : TZ (d + 1) 201 35 [some (.inr 100), some (.inl x1), some (.inl (-1))] [.inl (-1)] Z12 (zri Q))
      refine z_if0 (a := 0) (t := 44) (by rfl) (by rfl) (by decide) (fun h => absurd (show ((-1) : Int) = (0 : Int) from h) (by decide)) (fun _ => ?_)
      show TZ (d + 1) 201 38 [some (.inr 100), some (.inl x1), some (.inl (-1))] [] Z12 (zri Q)
      refine z0 (op := 5) (a := 0) (b := 0) (by rfl) (by rfl) (?_ : TZ (d + 1) 201 39 [some (.inr 100), some (.inl x1), some (.inl (-1))] [.inr 100] Z12 (zri Q))
      refine z0 (op := 3) (a := 2) (b := 0) (by rfl) (by rfl) (?_ : TZ (d + 1) 201 40 [some (.inr 100), some (.inl x1), some (.inl (-1))] [.inl (-1), .inr 100] Z12 (zri Q))
      refine z_vi (by rfl) (by rfl) cl_100 (TI.mono v fun r26 Z25 v => ?_)
      show TZ (d + 1) 201 43 [some (.inr 100), some (.inl x1), some (.inl (-1))] [.inl r26] Z25 (zri Q)
      exact z_reti (by rfl) (by rfl) v
theorem w202_0 {d : Nat} {x1 : Int} {Z : zM} {Q : Int → zM → Prop}
    (v : TI d 157 [.inr 100, .inl x1] Z (fun r2 Z1 =>
      zR r2 ∧
        (r2 ≠ 0 → TV d 175 [.inr 100] Z1 (fun Z5 =>
            TI d 191 [.inr 100, .inl x1] Z5 (fun r7 Z6 =>
              Q r7 Z6))) ∧
        (¬ r2 ≠ 0 → TI d 154 [.inr 100, .inl (-1)] Z1 (fun r9 Z8 =>
            Q r9 Z8)))) :
    TZ (d + 1) 202 0 [some (.inr 100), some (.inl x1)] [] Z (zri Q) := by
  refine z0 (op := 5) (a := 0) (b := 0) (by rfl) (by rfl) (?_ : TZ (d + 1) 202 1 [some (.inr 100), some (.inl x1)] [.inr 100] Z (zri Q))
  refine z0 (op := 3) (a := 1) (b := 0) (by rfl) (by rfl) (?_ : TZ (d + 1) 202 2 [some (.inr 100), some (.inl x1)] [.inl x1, .inr 100] Z (zri Q))
  refine z_vi (by rfl) (by rfl) cl_100 (TI.mono v fun r2 Z1 v => ?_)
  show TZ (d + 1) 202 5 [some (.inr 100), some (.inl x1)] [.inl r2] Z1 (zri Q)
  obtain ⟨c3, v1, v2⟩ := v
  refine z_if0 (a := 1) (t := 14) (by rfl) (by rfl) c3 (fun h4 => ?_) (fun h4 => ?_)
  · have v := v1 h4; clear v1 v2
    show TZ (d + 1) 202 14 [some (.inr 100), some (.inl x1)] [] Z1 (zri Q)
    refine z0 (op := 5) (a := 0) (b := 0) (by rfl) (by rfl) (?_ : TZ (d + 1) 202 15 [some (.inr 100), some (.inl x1)] [.inr 100] Z1 (zri Q))
    refine z_vv (by rfl) (by rfl) cl_100 (TV.mono v fun Z5 v => ?_)
    show TZ (d + 1) 202 18 [some (.inr 100), some (.inl x1)] [] Z5 (zri Q)
    refine z0 (op := 5) (a := 0) (b := 0) (by rfl) (by rfl) (?_ : TZ (d + 1) 202 19 [some (.inr 100), some (.inl x1)] [.inr 100] Z5 (zri Q))
    refine z0 (op := 3) (a := 1) (b := 0) (by rfl) (by rfl) (?_ : TZ (d + 1) 202 20 [some (.inr 100), some (.inl x1)] [.inl x1, .inr 100] Z5 (zri Q))
    refine z_vi (by rfl) (by rfl) cl_100 (TI.mono v fun r7 Z6 v => ?_)
    show TZ (d + 1) 202 23 [some (.inr 100), some (.inl x1)] [.inl r7] Z6 (zri Q)
    exact z_reti (by rfl) (by rfl) v
  · have v := v2 h4; clear v1 v2
    show TZ (d + 1) 202 8 [some (.inr 100), some (.inl x1)] [] Z1 (zri Q)
    refine z0 (op := 5) (a := 0) (b := 0) (by rfl) (by rfl) (?_ : TZ (d + 1) 202 9 [some (.inr 100), some (.inl x1)] [.inr 100] Z1 (zri Q))
    refine z0 (op := 0) (a := 0) (b := (-1)) (by rfl) (by rfl) (?_ : TZ (d + 1) 202 10 [some (.inr 100), some (.inl x1)] [.inl (-1), .inr 100] Z1 (zri Q))
    refine z_vi (by rfl) (by rfl) cl_100 (TI.mono v fun r9 Z8 v => ?_)
    show TZ (d + 1) 202 13 [some (.inr 100), some (.inl x1)] [.inl r9] Z8 (zri Q)
    exact z_reti (by rfl) (by rfl) v
theorem w203_0 {d : Nat} {Z : zM} {Q : Int → zM → Prop}
    (v : TV d 175 [.inr 100] Z (fun Z1 =>
      TI d 193 [.inr 100, .inl 1] Z1 (fun r3 Z2 =>
        Q r3 Z2))) :
    TZ (d + 1) 203 0 [some (.inr 100)] [] Z (zri Q) := by
  refine z0 (op := 5) (a := 0) (b := 0) (by rfl) (by rfl) (?_ : TZ (d + 1) 203 1 [some (.inr 100)] [.inr 100] Z (zri Q))
  refine z_vv (by rfl) (by rfl) cl_100 (TV.mono v fun Z1 v => ?_)
  show TZ (d + 1) 203 4 [some (.inr 100)] [] Z1 (zri Q)
  refine z0 (op := 5) (a := 0) (b := 0) (by rfl) (by rfl) (?_ : TZ (d + 1) 203 5 [some (.inr 100)] [.inr 100] Z1 (zri Q))
  refine z0 (op := 0) (a := 0) (b := 1) (by rfl) (by rfl) (?_ : TZ (d + 1) 203 6 [some (.inr 100)] [.inl 1, .inr 100] Z1 (zri Q))
  refine z_vi (by rfl) (by rfl) cl_100 (TI.mono v fun r3 Z2 v => ?_)
  show TZ (d + 1) 203 9 [some (.inr 100)] [.inl r3] Z2 (zri Q)
  exact z_reti (by rfl) (by rfl) v
theorem w204_0 {d : Nat} {Z : zM} {Q : Int → zM → Prop}
    (v : TV d 175 [.inr 100] Z (fun Z1 =>
      TI d 193 [.inr 100, .inl 0] Z1 (fun r3 Z2 =>
        Q r3 Z2))) :
    TZ (d + 1) 204 0 [some (.inr 100)] [] Z (zri Q) := by
  refine z0 (op := 5) (a := 0) (b := 0) (by rfl) (by rfl) (?_ : TZ (d + 1) 204 1 [some (.inr 100)] [.inr 100] Z (zri Q))
  refine z_vv (by rfl) (by rfl) cl_100 (TV.mono v fun Z1 v => ?_)
  show TZ (d + 1) 204 4 [some (.inr 100)] [] Z1 (zri Q)
  refine z0 (op := 5) (a := 0) (b := 0) (by rfl) (by rfl) (?_ : TZ (d + 1) 204 5 [some (.inr 100)] [.inr 100] Z1 (zri Q))
  refine z0 (op := 0) (a := 0) (b := 0) (by rfl) (by rfl) (?_ : TZ (d + 1) 204 6 [some (.inr 100)] [.inl 0, .inr 100] Z1 (zri Q))
  refine z_vi (by rfl) (by rfl) cl_100 (TI.mono v fun r3 Z2 v => ?_)
  show TZ (d + 1) 204 9 [some (.inr 100)] [.inl r3] Z2 (zri Q)
  exact z_reti (by rfl) (by rfl) v
theorem w205_0 {d : Nat} {x1 : Int} {Z : zM} {Q : zM → Prop}
    (v : TV d 179 [.inr 100] Z (fun Z1 =>
      TZ (d + 1) 205 6 [some (.inr 100), some (.inl x1), some (.inl 0)] [] Z1 (zrv Q))) :
    TZ (d + 1) 205 0 [some (.inr 100), some (.inl x1), none] [] Z (zrv Q) := by
  refine z0 (op := 5) (a := 0) (b := 0) (by rfl) (by rfl) (?_ : TZ (d + 1) 205 1 [some (.inr 100), some (.inl x1), none] [.inr 100] Z (zrv Q))
  refine z_vv (by rfl) (by rfl) cl_100 (TV.mono v fun Z1 v => ?_)
  show TZ (d + 1) 205 4 [some (.inr 100), some (.inl x1), none] [] Z1 (zrv Q)
  refine z0 (op := 0) (a := 0) (b := 0) (by rfl) (by rfl) (?_ : TZ (d + 1) 205 5 [some (.inr 100), some (.inl x1), none] [.inl 0] Z1 (zrv Q))
  refine z0 (op := 7) (a := 2) (b := 0) (by rfl) (by rfl) (?_ : TZ (d + 1) 205 6 [some (.inr 100), some (.inl x1), some (.inl 0)] [] Z1 (zrv Q))
  exact v
theorem w205_6 {d : Nat} {x1 x2 : Int} {Z : zM} {Q : zM → Prop}
    (v : zR x2 ∧
      zR x1 ∧
      (x1 < x2 → TV d 180 [.inr 100] Z (fun Z4 =>
          Q Z4)) ∧
      (¬ x1 < x2 → TI d 161 [.inr 100] Z (fun r6 Z5 =>
          (0 ≤ x2 ∧ x2 < 64) ∧
            ∀ Z8, Z8 = zup Z5 111 x2 r6 →
            TI d 162 [.inr 100] Z8 (fun r10 Z9 =>
            (0 ≤ x2 ∧ x2 < 64) ∧
              ∀ Z12, Z12 = zup Z9 112 x2 r10 →
              TI d 188 [.inr 100, .inl (-1)] Z12 (fun r14 Z13 =>
              (0 ≤ x2 ∧ x2 < 64) ∧
                ∀ Z16, Z16 = zup Z13 113 x2 r14 →
                TZ (d + 1) 205 6 [some (.inr 100), some (.inl x1), some (.inl (x2 + 1))] [] Z16 (zrv Q)))))) :
    TZ (d + 1) 205 6 [some (.inr 100), some (.inl x1), some (.inl x2)] [] Z (zrv Q) := by
  refine z0 (op := 3) (a := 2) (b := 0) (by rfl) (by rfl) (?_ : TZ (d + 1) 205 7 [some (.inr 100), some (.inl x1), some (.inl x2)] [.inl x2] Z (zrv Q))
  refine z0 (op := 3) (a := 1) (b := 0) (by rfl) (by rfl) (?_ : TZ (d + 1) 205 8 [some (.inr 100), some (.inl x1), some (.inl x2)] [.inl x1, .inl x2] Z (zrv Q))
  obtain ⟨c1, c2, v1, v2⟩ := v
  refine z_if2 (a := 4) (t := 48) (by rfl) (by rfl) c1 c2 (fun h3 => ?_) (fun h3 => ?_)
  · have v := v1 h3; clear v1 v2
    show TZ (d + 1) 205 48 [some (.inr 100), some (.inl x1), some (.inl x2)] [] Z (zrv Q)
    refine z0 (op := 5) (a := 0) (b := 0) (by rfl) (by rfl) (?_ : TZ (d + 1) 205 49 [some (.inr 100), some (.inl x1), some (.inl x2)] [.inr 100] Z (zrv Q))
    refine z_vv (by rfl) (by rfl) cl_100 (TV.mono v fun Z4 v => ?_)
    show TZ (d + 1) 205 52 [some (.inr 100), some (.inl x1), some (.inl x2)] [] Z4 (zrv Q)
    exact z_retv (by rfl) (by rfl) v
  · have v := v2 h3; clear v1 v2
    show TZ (d + 1) 205 11 [some (.inr 100), some (.inl x1), some (.inl x2)] [] Z (zrv Q)
    refine z0 (op := 5) (a := 0) (b := 0) (by rfl) (by rfl) (?_ : TZ (d + 1) 205 12 [some (.inr 100), some (.inl x1), some (.inl x2)] [.inr 100] Z (zrv Q))
    refine z_fr (by rfl) fr98_100 (?_ : TZ (d + 1) 205 15 [some (.inr 100), some (.inl x1), some (.inl x2)] [.inr 111] Z (zrv Q))
    refine z0 (op := 3) (a := 2) (b := 0) (by rfl) (by rfl) (?_ : TZ (d + 1) 205 16 [some (.inr 100), some (.inl x1), some (.inl x2)] [.inl x2, .inr 111] Z (zrv Q))
    refine z0 (op := 5) (a := 0) (b := 0) (by rfl) (by rfl) (?_ : TZ (d + 1) 205 17 [some (.inr 100), some (.inl x1), some (.inl x2)] [.inr 100, .inl x2, .inr 111] Z (zrv Q))
    refine z_vi (by rfl) (by rfl) cl_100 (TI.mono v fun r6 Z5 v => ?_)
    show TZ (d + 1) 205 20 [some (.inr 100), some (.inl x1), some (.inl x2)] [.inl r6, .inl x2, .inr 111] Z5 (zrv Q)
    obtain ⟨c7, v⟩ := v
    obtain ⟨Z8, eZ8⟩ : ∃ q, q = zup Z5 111 x2 r6 := ⟨_, rfl⟩
    have v := v Z8 eZ8
    refine z_as (by rfl) ln_111 c7 ?_
    show TZ (d + 1) 205 21 [some (.inr 100), some (.inl x1), some (.inl x2)] [] (zup Z5 111 x2 r6) _
    rw [← eZ8]
    refine z0 (op := 5) (a := 0) (b := 0) (by rfl) (by rfl) (?_ : TZ (d + 1) 205 22 [some (.inr 100), some (.inl x1), some (.inl x2)] [.inr 100] Z8 (zrv Q))
    refine z_fr (by rfl) fr99_100 (?_ : TZ (d + 1) 205 25 [some (.inr 100), some (.inl x1), some (.inl x2)] [.inr 112] Z8 (zrv Q))
    refine z0 (op := 3) (a := 2) (b := 0) (by rfl) (by rfl) (?_ : TZ (d + 1) 205 26 [some (.inr 100), some (.inl x1), some (.inl x2)] [.inl x2, .inr 112] Z8 (zrv Q))
    refine z0 (op := 5) (a := 0) (b := 0) (by rfl) (by rfl) (?_ : TZ (d + 1) 205 27 [some (.inr 100), some (.inl x1), some (.inl x2)] [.inr 100, .inl x2, .inr 112] Z8 (zrv Q))
    refine z_vi (by rfl) (by rfl) cl_100 (TI.mono v fun r10 Z9 v => ?_)
    show TZ (d + 1) 205 30 [some (.inr 100), some (.inl x1), some (.inl x2)] [.inl r10, .inl x2, .inr 112] Z9 (zrv Q)
    obtain ⟨c11, v⟩ := v
    obtain ⟨Z12, eZ12⟩ : ∃ q, q = zup Z9 112 x2 r10 := ⟨_, rfl⟩
    have v := v Z12 eZ12
    refine z_as (by rfl) ln_112 c11 ?_
    show TZ (d + 1) 205 31 [some (.inr 100), some (.inl x1), some (.inl x2)] [] (zup Z9 112 x2 r10) _
    rw [← eZ12]
    refine z0 (op := 5) (a := 0) (b := 0) (by rfl) (by rfl) (?_ : TZ (d + 1) 205 32 [some (.inr 100), some (.inl x1), some (.inl x2)] [.inr 100] Z12 (zrv Q))
    refine z_fr (by rfl) fr100_100 (?_ : TZ (d + 1) 205 35 [some (.inr 100), some (.inl x1), some (.inl x2)] [.inr 113] Z12 (zrv Q))
    refine z0 (op := 3) (a := 2) (b := 0) (by rfl) (by rfl) (?_ : TZ (d + 1) 205 36 [some (.inr 100), some (.inl x1), some (.inl x2)] [.inl x2, .inr 113] Z12 (zrv Q))
    refine z0 (op := 5) (a := 0) (b := 0) (by rfl) (by rfl) (?_ : TZ (d + 1) 205 37 [some (.inr 100), some (.inl x1), some (.inl x2)] [.inr 100, .inl x2, .inr 113] Z12 (zrv Q))
    refine z0 (op := 0) (a := 0) (b := (-1)) (by rfl) (by rfl) (?_ : TZ (d + 1) 205 38 [some (.inr 100), some (.inl x1), some (.inl x2)] [.inl (-1), .inr 100, .inl x2, .inr 113] Z12 (zrv Q))
    refine z_vi (by rfl) (by rfl) cl_100 (TI.mono v fun r14 Z13 v => ?_)
    show TZ (d + 1) 205 41 [some (.inr 100), some (.inl x1), some (.inl x2)] [.inl r14, .inl x2, .inr 113] Z13 (zrv Q)
    obtain ⟨c15, v⟩ := v
    obtain ⟨Z16, eZ16⟩ : ∃ q, q = zup Z13 113 x2 r14 := ⟨_, rfl⟩
    have v := v Z16 eZ16
    refine z_as (by rfl) ln_113 c15 ?_
    show TZ (d + 1) 205 42 [some (.inr 100), some (.inl x1), some (.inl x2)] [] (zup Z13 113 x2 r14) _
    rw [← eZ16]
    refine z0 (op := 11) (a := 2) (b := 1) (by rfl) (by rfl) (?_ : TZ (d + 1) 205 45 [some (.inr 100), some (.inl x1), some (.inl (x2 + 1))] [] Z16 (zrv Q))
    refine z_goto (t := 6) (by rfl) (by rfl) (?_ : TZ (d + 1) 205 6 [some (.inr 100), some (.inl x1), some (.inl (x2 + 1))] [] Z16 (zrv Q))
    exact v
theorem w206_0 {d : Nat} {x0 : Int} {Z : zM} {Q : Int → zM → Prop}
    (v : TI d 156 [.inl x0, .inl 0, .inl 20] Z (fun r2 Z1 =>
      Q r2 Z1)) :
    TZ (d + 1) 206 0 [some (.inl x0)] [] Z (zri Q) := by
  refine z0 (op := 3) (a := 0) (b := 0) (by rfl) (by rfl) (?_ : TZ (d + 1) 206 1 [some (.inl x0)] [.inl x0] Z (zri Q))
  refine z0 (op := 0) (a := 0) (b := 0) (by rfl) (by rfl) (?_ : TZ (d + 1) 206 2 [some (.inl x0)] [.inl 0, .inl x0] Z (zri Q))
  refine z0 (op := 1) (a := 0) (b := 20) (by rfl) (by rfl) (?_ : TZ (d + 1) 206 4 [some (.inl x0)] [.inl 20, .inl 0, .inl x0] Z (zri Q))
  refine z_si (by rfl) (by rfl) (TI.mono v fun r2 Z1 v => ?_)
  show TZ (d + 1) 206 7 [some (.inl x0)] [.inl r2] Z1 (zri Q)
  exact z_reti (by rfl) (by rfl) v
theorem w172_0_102 {d : Nat} {Z : zM} {Q : zM → Prop}
    (v : TZ d 172 2 [some (.inr 100), some (.inr 102), some (.inl 0)] [] Z (zrv Q)) :
    TZ d 172 0 [some (.inr 100), some (.inr 102), none] [] Z (zrv Q) := by
  refine z0 (op := 0) (a := 0) (b := 0) (by rfl) (by rfl) (?_ : TZ d 172 1 [some (.inr 100), some (.inr 102), none] [.inl 0] Z (zrv Q))
  refine z0 (op := 7) (a := 2) (b := 0) (by rfl) (by rfl) (?_ : TZ d 172 2 [some (.inr 100), some (.inr 102), some (.inl 0)] [] Z (zrv Q))
  exact v
theorem w172_2_102 {d : Nat} {x2 : Int} {Z : zM} {Q : zM → Prop}
    (v : zR x2 ∧
      (6 ≤ x2 → Q Z) ∧
      (¬ 6 ≤ x2 → (zR (Z 100 17) ∧
          ((Z 100 17) = 0 → ((0 ≤ (Z 100 18) ∧ (Z 100 18) < 400) ∧
              (0 ≤ x2 ∧ x2 < 6) ∧
              ∀ Z7, Z7 = zup Z 102 x2 (Z 110 (Z 100 18)) →
              ∀ Z8, Z8 = zup Z7 100 18 ((Z7 100 18) + 1) →
              TZ d 172 2 [some (.inr 100), some (.inr 102), some (.inl (x2 + 1))] [] Z8 (zrv Q))) ∧
          (¬ (Z 100 17) = 0 → ((0 ≤ x2 ∧ x2 < 6) ∧
              (0 ≤ (Z 100 18) ∧ (Z 100 18) < 400) ∧
              ∀ Z11, Z11 = zup Z 110 (Z 100 18) (Z 102 x2) →
              ∀ Z12, Z12 = zup Z11 100 18 ((Z11 100 18) + 1) →
              TZ d 172 2 [some (.inr 100), some (.inr 102), some (.inl (x2 + 1))] [] Z12 (zrv Q)))))) :
    TZ d 172 2 [some (.inr 100), some (.inr 102), some (.inl x2)] [] Z (zrv Q) := by
  refine z0 (op := 3) (a := 2) (b := 0) (by rfl) (by rfl) (?_ : TZ d 172 3 [some (.inr 100), some (.inr 102), some (.inl x2)] [.inl x2] Z (zrv Q))
  refine z0 (op := 5) (a := 1) (b := 0) (by rfl) (by rfl) (?_ : TZ d 172 4 [some (.inr 100), some (.inr 102), some (.inl x2)] [.inr 102, .inl x2] Z (zrv Q))
  refine z_len (by rfl) le_102 (?_ : TZ d 172 5 [some (.inr 100), some (.inr 102), some (.inl x2)] [.inl 6, .inl x2] Z (zrv Q))
  obtain ⟨c1, v1, v2⟩ := v
  refine z_if2 (a := 3) (t := 58) (by rfl) (by rfl) c1 (by decide) (fun h2 => ?_) (fun h2 => ?_)
  · have v := v1 h2; clear v1 v2
    show TZ d 172 58 [some (.inr 100), some (.inr 102), some (.inl x2)] [] Z (zrv Q)
    exact z_retv (by rfl) (by rfl) v
  · have v := v2 h2; clear v1 v2
    show TZ d 172 8 [some (.inr 100), some (.inr 102), some (.inl x2)] [] Z (zrv Q)
    refine z0 (op := 5) (a := 0) (b := 0) (by rfl) (by rfl) (?_ : TZ d 172 9 [some (.inr 100), some (.inr 102), some (.inl x2)] [.inr 100] Z (zrv Q))
    refine z_fi (by rfl) fi117_100 (?_ : TZ d 172 12 [some (.inr 100), some (.inr 102), some (.inl x2)] [.inl (Z 100 17)] Z (zrv Q))
    obtain ⟨c3, v1, v2⟩ := v
    refine z_if0 (a := 0) (t := 30) (by rfl) (by rfl) c3 (fun h4 => ?_) (fun h4 => ?_)
    · have v := v1 h4; clear v1 v2
      show TZ d 172 30 [some (.inr 100), some (.inr 102), some (.inl x2)] [] Z (zrv Q)
      refine z0 (op := 5) (a := 1) (b := 0) (by rfl) (by rfl) (?_ : TZ d 172 31 [some (.inr 100), some (.inr 102), some (.inl x2)] [.inr 102] Z (zrv Q))
      refine z0 (op := 3) (a := 2) (b := 0) (by rfl) (by rfl) (?_ : TZ d 172 32 [some (.inr 100), some (.inr 102), some (.inl x2)] [.inl x2, .inr 102] Z (zrv Q))
      refine z0 (op := 5) (a := 0) (b := 0) (by rfl) (by rfl) (?_ : TZ d 172 33 [some (.inr 100), some (.inr 102), some (.inl x2)] [.inr 100, .inl x2, .inr 102] Z (zrv Q))
      refine z_fr (by rfl) fr97_100 (?_ : TZ d 172 36 [some (.inr 100), some (.inr 102), some (.inl x2)] [.inr 110, .inl x2, .inr 102] Z (zrv Q))
      refine z0 (op := 5) (a := 0) (b := 0) (by rfl) (by rfl) (?_ : TZ d 172 37 [some (.inr 100), some (.inr 102), some (.inl x2)] [.inr 100, .inr 110, .inl x2, .inr 102] Z (zrv Q))
      refine z_fi (by rfl) fi118_100 (?_ : TZ d 172 40 [some (.inr 100), some (.inr 102), some (.inl x2)] [.inl (Z 100 18), .inr 110, .inl x2, .inr 102] Z (zrv Q))
      obtain ⟨c5, v⟩ := v
      refine z_al (by rfl) ln_110 c5 (?_ : TZ d 172 41 [some (.inr 100), some (.inr 102), some (.inl x2)] [.inl (Z 110 (Z 100 18)), .inl x2, .inr 102] Z (zrv Q))
      obtain ⟨c6, v⟩ := v
      obtain ⟨Z7, eZ7⟩ : ∃ q, q = zup Z 102 x2 (Z 110 (Z 100 18)) := ⟨_, rfl⟩
      have v := v Z7 eZ7
      refine z_as (by rfl) ln_102 c6 ?_
      show TZ d 172 42 [some (.inr 100), some (.inr 102), some (.inl x2)] [] (zup Z 102 x2 (Z 110 (Z 100 18))) _
      rw [← eZ7]
      refine z0 (op := 5) (a := 0) (b := 0) (by rfl) (by rfl) (?_ : TZ d 172 43 [some (.inr 100), some (.inr 102), some (.inl x2)] [.inr 100] Z7 (zrv Q))
      refine z0 (op := 15) (a := 0) (b := 0) (by rfl) (by rfl) (?_ : TZ d 172 44 [some (.inr 100), some (.inr 102), some (.inl x2)] [.inr 100, .inr 100] Z7 (zrv Q))
      refine z_fi (by rfl) fi118_100 (?_ : TZ d 172 47 [some (.inr 100), some (.inr 102), some (.inl x2)] [.inl (Z7 100 18), .inr 100] Z7 (zrv Q))
      refine z0 (op := 0) (a := 0) (b := 1) (by rfl) (by rfl) (?_ : TZ d 172 48 [some (.inr 100), some (.inr 102), some (.inl x2)] [.inl 1, .inl (Z7 100 18), .inr 100] Z7 (zrv Q))
      refine z0 (op := 12) (a := 0) (b := 0) (by rfl) (by rfl) (?_ : TZ d 172 49 [some (.inr 100), some (.inr 102), some (.inl x2)] [.inl ((Z7 100 18) + 1), .inr 100] Z7 (zrv Q))
      obtain ⟨Z8, eZ8⟩ : ∃ q, q = zup Z7 100 18 ((Z7 100 18) + 1) := ⟨_, rfl⟩
      have v := v Z8 eZ8
      refine z_pf (by rfl) pf118_100 (fun h => nomatch h) ?_
      show TZ d 172 52 [some (.inr 100), some (.inr 102), some (.inl x2)] [] (zup Z7 100 18 ((Z7 100 18) + 1)) _
      rw [← eZ8]
      refine z0 (op := 11) (a := 2) (b := 1) (by rfl) (by rfl) (?_ : TZ d 172 55 [some (.inr 100), some (.inr 102), some (.inl (x2 + 1))] [] Z8 (zrv Q))
      refine z_goto (t := 2) (by rfl) (by rfl) (?_ : TZ d 172 2 [some (.inr 100), some (.inr 102), some (.inl (x2 + 1))] [] Z8 (zrv Q))
      exact v
    · have v := v2 h4; clear v1 v2
      show TZ d 172 15 [some (.inr 100), some (.inr 102), some (.inl x2)] [] Z (zrv Q)
      refine z0 (op := 5) (a := 0) (b := 0) (by rfl) (by rfl) (?_ : TZ d 172 16 [some (.inr 100), some (.inr 102), some (.inl x2)] [.inr 100] Z (zrv Q))
      refine z_fr (by rfl) fr97_100 (?_ : TZ d 172 19 [some (.inr 100), some (.inr 102), some (.inl x2)] [.inr 110] Z (zrv Q))
      refine z0 (op := 5) (a := 0) (b := 0) (by rfl) (by rfl) (?_ : TZ d 172 20 [some (.inr 100), some (.inr 102), some (.inl x2)] [.inr 100, .inr 110] Z (zrv Q))
      refine z_fi (by rfl) fi118_100 (?_ : TZ d 172 23 [some (.inr 100), some (.inr 102), some (.inl x2)] [.inl (Z 100 18), .inr 110] Z (zrv Q))
      refine z0 (op := 5) (a := 1) (b := 0) (by rfl) (by rfl) (?_ : TZ d 172 24 [some (.inr 100), some (.inr 102), some (.inl x2)] [.inr 102, .inl (Z 100 18), .inr 110] Z (zrv Q))
      refine z0 (op := 3) (a := 2) (b := 0) (by rfl) (by rfl) (?_ : TZ d 172 25 [some (.inr 100), some (.inr 102), some (.inl x2)] [.inl x2, .inr 102, .inl (Z 100 18), .inr 110] Z (zrv Q))
      obtain ⟨c9, v⟩ := v
      refine z_al (by rfl) ln_102 c9 (?_ : TZ d 172 26 [some (.inr 100), some (.inr 102), some (.inl x2)] [.inl (Z 102 x2), .inl (Z 100 18), .inr 110] Z (zrv Q))
      obtain ⟨c10, v⟩ := v
      obtain ⟨Z11, eZ11⟩ : ∃ q, q = zup Z 110 (Z 100 18) (Z 102 x2) := ⟨_, rfl⟩
      have v := v Z11 eZ11
      refine z_as (by rfl) ln_110 c10 ?_
      show TZ d 172 27 [some (.inr 100), some (.inr 102), some (.inl x2)] [] (zup Z 110 (Z 100 18) (Z 102 x2)) _
      rw [← eZ11]
      refine z_goto (t := 42) (by rfl) (by rfl) (?_ : TZ d 172 42 [some (.inr 100), some (.inr 102), some (.inl x2)] [] Z11 (zrv Q))
      refine z0 (op := 5) (a := 0) (b := 0) (by rfl) (by rfl) (?_ : TZ d 172 43 [some (.inr 100), some (.inr 102), some (.inl x2)] [.inr 100] Z11 (zrv Q))
      refine z0 (op := 15) (a := 0) (b := 0) (by rfl) (by rfl) (?_ : TZ d 172 44 [some (.inr 100), some (.inr 102), some (.inl x2)] [.inr 100, .inr 100] Z11 (zrv Q))
      refine z_fi (by rfl) fi118_100 (?_ : TZ d 172 47 [some (.inr 100), some (.inr 102), some (.inl x2)] [.inl (Z11 100 18), .inr 100] Z11 (zrv Q))
      refine z0 (op := 0) (a := 0) (b := 1) (by rfl) (by rfl) (?_ : TZ d 172 48 [some (.inr 100), some (.inr 102), some (.inl x2)] [.inl 1, .inl (Z11 100 18), .inr 100] Z11 (zrv Q))
      refine z0 (op := 12) (a := 0) (b := 0) (by rfl) (by rfl) (?_ : TZ d 172 49 [some (.inr 100), some (.inr 102), some (.inl x2)] [.inl ((Z11 100 18) + 1), .inr 100] Z11 (zrv Q))
      obtain ⟨Z12, eZ12⟩ : ∃ q, q = zup Z11 100 18 ((Z11 100 18) + 1) := ⟨_, rfl⟩
      have v := v Z12 eZ12
      refine z_pf (by rfl) pf118_100 (fun h => nomatch h) ?_
      show TZ d 172 52 [some (.inr 100), some (.inr 102), some (.inl x2)] [] (zup Z11 100 18 ((Z11 100 18) + 1)) _
      rw [← eZ12]
      refine z0 (op := 11) (a := 2) (b := 1) (by rfl) (by rfl) (?_ : TZ d 172 55 [some (.inr 100), some (.inr 102), some (.inl (x2 + 1))] [] Z12 (zrv Q))
      refine z_goto (t := 2) (by rfl) (by rfl) (?_ : TZ d 172 2 [some (.inr 100), some (.inr 102), some (.inl (x2 + 1))] [] Z12 (zrv Q))
      exact v
theorem w172_0_103 {d : Nat} {Z : zM} {Q : zM → Prop}
    (v : TZ d 172 2 [some (.inr 100), some (.inr 103), some (.inl 0)] [] Z (zrv Q)) :
    TZ d 172 0 [some (.inr 100), some (.inr 103), none] [] Z (zrv Q) := by
  refine z0 (op := 0) (a := 0) (b := 0) (by rfl) (by rfl) (?_ : TZ d 172 1 [some (.inr 100), some (.inr 103), none] [.inl 0] Z (zrv Q))
  refine z0 (op := 7) (a := 2) (b := 0) (by rfl) (by rfl) (?_ : TZ d 172 2 [some (.inr 100), some (.inr 103), some (.inl 0)] [] Z (zrv Q))
  exact v
theorem w172_2_103 {d : Nat} {x2 : Int} {Z : zM} {Q : zM → Prop}
    (v : zR x2 ∧
      (8 ≤ x2 → Q Z) ∧
      (¬ 8 ≤ x2 → (zR (Z 100 17) ∧
          ((Z 100 17) = 0 → ((0 ≤ (Z 100 18) ∧ (Z 100 18) < 400) ∧
              (0 ≤ x2 ∧ x2 < 8) ∧
              ∀ Z7, Z7 = zup Z 103 x2 (Z 110 (Z 100 18)) →
              ∀ Z8, Z8 = zup Z7 100 18 ((Z7 100 18) + 1) →
              TZ d 172 2 [some (.inr 100), some (.inr 103), some (.inl (x2 + 1))] [] Z8 (zrv Q))) ∧
          (¬ (Z 100 17) = 0 → ((0 ≤ x2 ∧ x2 < 8) ∧
              (0 ≤ (Z 100 18) ∧ (Z 100 18) < 400) ∧
              ∀ Z11, Z11 = zup Z 110 (Z 100 18) (Z 103 x2) →
              ∀ Z12, Z12 = zup Z11 100 18 ((Z11 100 18) + 1) →
              TZ d 172 2 [some (.inr 100), some (.inr 103), some (.inl (x2 + 1))] [] Z12 (zrv Q)))))) :
    TZ d 172 2 [some (.inr 100), some (.inr 103), some (.inl x2)] [] Z (zrv Q) := by
  refine z0 (op := 3) (a := 2) (b := 0) (by rfl) (by rfl) (?_ : TZ d 172 3 [some (.inr 100), some (.inr 103), some (.inl x2)] [.inl x2] Z (zrv Q))
  refine z0 (op := 5) (a := 1) (b := 0) (by rfl) (by rfl) (?_ : TZ d 172 4 [some (.inr 100), some (.inr 103), some (.inl x2)] [.inr 103, .inl x2] Z (zrv Q))
  refine z_len (by rfl) le_103 (?_ : TZ d 172 5 [some (.inr 100), some (.inr 103), some (.inl x2)] [.inl 8, .inl x2] Z (zrv Q))
  obtain ⟨c1, v1, v2⟩ := v
  refine z_if2 (a := 3) (t := 58) (by rfl) (by rfl) c1 (by decide) (fun h2 => ?_) (fun h2 => ?_)
  · have v := v1 h2; clear v1 v2
    show TZ d 172 58 [some (.inr 100), some (.inr 103), some (.inl x2)] [] Z (zrv Q)
    exact z_retv (by rfl) (by rfl) v
  · have v := v2 h2; clear v1 v2
    show TZ d 172 8 [some (.inr 100), some (.inr 103), some (.inl x2)] [] Z (zrv Q)
    refine z0 (op := 5) (a := 0) (b := 0) (by rfl) (by rfl) (?_ : TZ d 172 9 [some (.inr 100), some (.inr 103), some (.inl x2)] [.inr 100] Z (zrv Q))
    refine z_fi (by rfl) fi117_100 (?_ : TZ d 172 12 [some (.inr 100), some (.inr 103), some (.inl x2)] [.inl (Z 100 17)] Z (zrv Q))
    obtain ⟨c3, v1, v2⟩ := v
    refine z_if0 (a := 0) (t := 30) (by rfl) (by rfl) c3 (fun h4 => ?_) (fun h4 => ?_)
    · have v := v1 h4; clear v1 v2
      show TZ d 172 30 [some (.inr 100), some (.inr 103), some (.inl x2)] [] Z (zrv Q)
      refine z0 (op := 5) (a := 1) (b := 0) (by rfl) (by rfl) (?_ : TZ d 172 31 [some (.inr 100), some (.inr 103), some (.inl x2)] [.inr 103] Z (zrv Q))
      refine z0 (op := 3) (a := 2) (b := 0) (by rfl) (by rfl) (?_ : TZ d 172 32 [some (.inr 100), some (.inr 103), some (.inl x2)] [.inl x2, .inr 103] Z (zrv Q))
      refine z0 (op := 5) (a := 0) (b := 0) (by rfl) (by rfl) (?_ : TZ d 172 33 [some (.inr 100), some (.inr 103), some (.inl x2)] [.inr 100, .inl x2, .inr 103] Z (zrv Q))
      refine z_fr (by rfl) fr97_100 (?_ : TZ d 172 36 [some (.inr 100), some (.inr 103), some (.inl x2)] [.inr 110, .inl x2, .inr 103] Z (zrv Q))
      refine z0 (op := 5) (a := 0) (b := 0) (by rfl) (by rfl) (?_ : TZ d 172 37 [some (.inr 100), some (.inr 103), some (.inl x2)] [.inr 100, .inr 110, .inl x2, .inr 103] Z (zrv Q))
      refine z_fi (by rfl) fi118_100 (?_ : TZ d 172 40 [some (.inr 100), some (.inr 103), some (.inl x2)] [.inl (Z 100 18), .inr 110, .inl x2, .inr 103] Z (zrv Q))
      obtain ⟨c5, v⟩ := v
      refine z_al (by rfl) ln_110 c5 (?_ : TZ d 172 41 [some (.inr 100), some (.inr 103), some (.inl x2)] [.inl (Z 110 (Z 100 18)), .inl x2, .inr 103] Z (zrv Q))
      obtain ⟨c6, v⟩ := v
      obtain ⟨Z7, eZ7⟩ : ∃ q, q = zup Z 103 x2 (Z 110 (Z 100 18)) := ⟨_, rfl⟩
      have v := v Z7 eZ7
      refine z_as (by rfl) ln_103 c6 ?_
      show TZ d 172 42 [some (.inr 100), some (.inr 103), some (.inl x2)] [] (zup Z 103 x2 (Z 110 (Z 100 18))) _
      rw [← eZ7]
      refine z0 (op := 5) (a := 0) (b := 0) (by rfl) (by rfl) (?_ : TZ d 172 43 [some (.inr 100), some (.inr 103), some (.inl x2)] [.inr 100] Z7 (zrv Q))
      refine z0 (op := 15) (a := 0) (b := 0) (by rfl) (by rfl) (?_ : TZ d 172 44 [some (.inr 100), some (.inr 103), some (.inl x2)] [.inr 100, .inr 100] Z7 (zrv Q))
      refine z_fi (by rfl) fi118_100 (?_ : TZ d 172 47 [some (.inr 100), some (.inr 103), some (.inl x2)] [.inl (Z7 100 18), .inr 100] Z7 (zrv Q))
      refine z0 (op := 0) (a := 0) (b := 1) (by rfl) (by rfl) (?_ : TZ d 172 48 [some (.inr 100), some (.inr 103), some (.inl x2)] [.inl 1, .inl (Z7 100 18), .inr 100] Z7 (zrv Q))
      refine z0 (op := 12) (a := 0) (b := 0) (by rfl) (by rfl) (?_ : TZ d 172 49 [some (.inr 100), some (.inr 103), some (.inl x2)] [.inl ((Z7 100 18) + 1), .inr 100] Z7 (zrv Q))
      obtain ⟨Z8, eZ8⟩ : ∃ q, q = zup Z7 100 18 ((Z7 100 18) + 1) := ⟨_, rfl⟩
      have v := v Z8 eZ8
      refine z_pf (by rfl) pf118_100 (fun h => nomatch h) ?_
      show TZ d 172 52 [some (.inr 100), some (.inr 103), some (.inl x2)] [] (zup Z7 100 18 ((Z7 100 18) + 1)) _
      rw [← eZ8]
      refine z0 (op := 11) (a := 2) (b := 1) (by rfl) (by rfl) (?_ : TZ d 172 55 [some (.inr 100), some (.inr 103), some (.inl (x2 + 1))] [] Z8 (zrv Q))
      refine z_goto (t := 2) (by rfl) (by rfl) (?_ : TZ d 172 2 [some (.inr 100), some (.inr 103), some (.inl (x2 + 1))] [] Z8 (zrv Q))
      exact v
    · have v := v2 h4; clear v1 v2
      show TZ d 172 15 [some (.inr 100), some (.inr 103), some (.inl x2)] [] Z (zrv Q)
      refine z0 (op := 5) (a := 0) (b := 0) (by rfl) (by rfl) (?_ : TZ d 172 16 [some (.inr 100), some (.inr 103), some (.inl x2)] [.inr 100] Z (zrv Q))
      refine z_fr (by rfl) fr97_100 (?_ : TZ d 172 19 [some (.inr 100), some (.inr 103), some (.inl x2)] [.inr 110] Z (zrv Q))
      refine z0 (op := 5) (a := 0) (b := 0) (by rfl) (by rfl) (?_ : TZ d 172 20 [some (.inr 100), some (.inr 103), some (.inl x2)] [.inr 100, .inr 110] Z (zrv Q))
      refine z_fi (by rfl) fi118_100 (?_ : TZ d 172 23 [some (.inr 100), some (.inr 103), some (.inl x2)] [.inl (Z 100 18), .inr 110] Z (zrv Q))
      refine z0 (op := 5) (a := 1) (b := 0) (by rfl) (by rfl) (?_ : TZ d 172 24 [some (.inr 100), some (.inr 103), some (.inl x2)] [.inr 103, .inl (Z 100 18), .inr 110] Z (zrv Q))
      refine z0 (op := 3) (a := 2) (b := 0) (by rfl) (by rfl) (?_ : TZ d 172 25 [some (.inr 100), some (.inr 103), some (.inl x2)] [.inl x2, .inr 103, .inl (Z 100 18), .inr 110] Z (zrv Q))
      obtain ⟨c9, v⟩ := v
      refine z_al (by rfl) ln_103 c9 (?_ : TZ d 172 26 [some (.inr 100), some (.inr 103), some (.inl x2)] [.inl (Z 103 x2), .inl (Z 100 18), .inr 110] Z (zrv Q))
      obtain ⟨c10, v⟩ := v
      obtain ⟨Z11, eZ11⟩ : ∃ q, q = zup Z 110 (Z 100 18) (Z 103 x2) := ⟨_, rfl⟩
      have v := v Z11 eZ11
      refine z_as (by rfl) ln_110 c10 ?_
      show TZ d 172 27 [some (.inr 100), some (.inr 103), some (.inl x2)] [] (zup Z 110 (Z 100 18) (Z 103 x2)) _
      rw [← eZ11]
      refine z_goto (t := 42) (by rfl) (by rfl) (?_ : TZ d 172 42 [some (.inr 100), some (.inr 103), some (.inl x2)] [] Z11 (zrv Q))
      refine z0 (op := 5) (a := 0) (b := 0) (by rfl) (by rfl) (?_ : TZ d 172 43 [some (.inr 100), some (.inr 103), some (.inl x2)] [.inr 100] Z11 (zrv Q))
      refine z0 (op := 15) (a := 0) (b := 0) (by rfl) (by rfl) (?_ : TZ d 172 44 [some (.inr 100), some (.inr 103), some (.inl x2)] [.inr 100, .inr 100] Z11 (zrv Q))
      refine z_fi (by rfl) fi118_100 (?_ : TZ d 172 47 [some (.inr 100), some (.inr 103), some (.inl x2)] [.inl (Z11 100 18), .inr 100] Z11 (zrv Q))
      refine z0 (op := 0) (a := 0) (b := 1) (by rfl) (by rfl) (?_ : TZ d 172 48 [some (.inr 100), some (.inr 103), some (.inl x2)] [.inl 1, .inl (Z11 100 18), .inr 100] Z11 (zrv Q))
      refine z0 (op := 12) (a := 0) (b := 0) (by rfl) (by rfl) (?_ : TZ d 172 49 [some (.inr 100), some (.inr 103), some (.inl x2)] [.inl ((Z11 100 18) + 1), .inr 100] Z11 (zrv Q))
      obtain ⟨Z12, eZ12⟩ : ∃ q, q = zup Z11 100 18 ((Z11 100 18) + 1) := ⟨_, rfl⟩
      have v := v Z12 eZ12
      refine z_pf (by rfl) pf118_100 (fun h => nomatch h) ?_
      show TZ d 172 52 [some (.inr 100), some (.inr 103), some (.inl x2)] [] (zup Z11 100 18 ((Z11 100 18) + 1)) _
      rw [← eZ12]
      refine z0 (op := 11) (a := 2) (b := 1) (by rfl) (by rfl) (?_ : TZ d 172 55 [some (.inr 100), some (.inr 103), some (.inl (x2 + 1))] [] Z12 (zrv Q))
      refine z_goto (t := 2) (by rfl) (by rfl) (?_ : TZ d 172 2 [some (.inr 100), some (.inr 103), some (.inl (x2 + 1))] [] Z12 (zrv Q))
      exact v
theorem w172_0_104 {d : Nat} {Z : zM} {Q : zM → Prop}
    (v : TZ d 172 2 [some (.inr 100), some (.inr 104), some (.inl 0)] [] Z (zrv Q)) :
    TZ d 172 0 [some (.inr 100), some (.inr 104), none] [] Z (zrv Q) := by
  refine z0 (op := 0) (a := 0) (b := 0) (by rfl) (by rfl) (?_ : TZ d 172 1 [some (.inr 100), some (.inr 104), none] [.inl 0] Z (zrv Q))
  refine z0 (op := 7) (a := 2) (b := 0) (by rfl) (by rfl) (?_ : TZ d 172 2 [some (.inr 100), some (.inr 104), some (.inl 0)] [] Z (zrv Q))
  exact v
theorem w172_2_104 {d : Nat} {x2 : Int} {Z : zM} {Q : zM → Prop}
    (v : zR x2 ∧
      (8 ≤ x2 → Q Z) ∧
      (¬ 8 ≤ x2 → (zR (Z 100 17) ∧
          ((Z 100 17) = 0 → ((0 ≤ (Z 100 18) ∧ (Z 100 18) < 400) ∧
              (0 ≤ x2 ∧ x2 < 8) ∧
              ∀ Z7, Z7 = zup Z 104 x2 (Z 110 (Z 100 18)) →
              ∀ Z8, Z8 = zup Z7 100 18 ((Z7 100 18) + 1) →
              TZ d 172 2 [some (.inr 100), some (.inr 104), some (.inl (x2 + 1))] [] Z8 (zrv Q))) ∧
          (¬ (Z 100 17) = 0 → ((0 ≤ x2 ∧ x2 < 8) ∧
              (0 ≤ (Z 100 18) ∧ (Z 100 18) < 400) ∧
              ∀ Z11, Z11 = zup Z 110 (Z 100 18) (Z 104 x2) →
              ∀ Z12, Z12 = zup Z11 100 18 ((Z11 100 18) + 1) →
              TZ d 172 2 [some (.inr 100), some (.inr 104), some (.inl (x2 + 1))] [] Z12 (zrv Q)))))) :
    TZ d 172 2 [some (.inr 100), some (.inr 104), some (.inl x2)] [] Z (zrv Q) := by
  refine z0 (op := 3) (a := 2) (b := 0) (by rfl) (by rfl) (?_ : TZ d 172 3 [some (.inr 100), some (.inr 104), some (.inl x2)] [.inl x2] Z (zrv Q))
  refine z0 (op := 5) (a := 1) (b := 0) (by rfl) (by rfl) (?_ : TZ d 172 4 [some (.inr 100), some (.inr 104), some (.inl x2)] [.inr 104, .inl x2] Z (zrv Q))
  refine z_len (by rfl) le_104 (?_ : TZ d 172 5 [some (.inr 100), some (.inr 104), some (.inl x2)] [.inl 8, .inl x2] Z (zrv Q))
  obtain ⟨c1, v1, v2⟩ := v
  refine z_if2 (a := 3) (t := 58) (by rfl) (by rfl) c1 (by decide) (fun h2 => ?_) (fun h2 => ?_)
  · have v := v1 h2; clear v1 v2
    show TZ d 172 58 [some (.inr 100), some (.inr 104), some (.inl x2)] [] Z (zrv Q)
    exact z_retv (by rfl) (by rfl) v
  · have v := v2 h2; clear v1 v2
    show TZ d 172 8 [some (.inr 100), some (.inr 104), some (.inl x2)] [] Z (zrv Q)
    refine z0 (op := 5) (a := 0) (b := 0) (by rfl) (by rfl) (?_ : TZ d 172 9 [some (.inr 100), some (.inr 104), some (.inl x2)] [.inr 100] Z (zrv Q))
    refine z_fi (by rfl) fi117_100 (?_ : TZ d 172 12 [some (.inr 100), some (.inr 104), some (.inl x2)] [.inl (Z 100 17)] Z (zrv Q))
    obtain ⟨c3, v1, v2⟩ := v
    refine z_if0 (a := 0) (t := 30) (by rfl) (by rfl) c3 (fun h4 => ?_) (fun h4 => ?_)
    · have v := v1 h4; clear v1 v2
      show TZ d 172 30 [some (.inr 100), some (.inr 104), some (.inl x2)] [] Z (zrv Q)
      refine z0 (op := 5) (a := 1) (b := 0) (by rfl) (by rfl) (?_ : TZ d 172 31 [some (.inr 100), some (.inr 104), some (.inl x2)] [.inr 104] Z (zrv Q))
      refine z0 (op := 3) (a := 2) (b := 0) (by rfl) (by rfl) (?_ : TZ d 172 32 [some (.inr 100), some (.inr 104), some (.inl x2)] [.inl x2, .inr 104] Z (zrv Q))
      refine z0 (op := 5) (a := 0) (b := 0) (by rfl) (by rfl) (?_ : TZ d 172 33 [some (.inr 100), some (.inr 104), some (.inl x2)] [.inr 100, .inl x2, .inr 104] Z (zrv Q))
      refine z_fr (by rfl) fr97_100 (?_ : TZ d 172 36 [some (.inr 100), some (.inr 104), some (.inl x2)] [.inr 110, .inl x2, .inr 104] Z (zrv Q))
      refine z0 (op := 5) (a := 0) (b := 0) (by rfl) (by rfl) (?_ : TZ d 172 37 [some (.inr 100), some (.inr 104), some (.inl x2)] [.inr 100, .inr 110, .inl x2, .inr 104] Z (zrv Q))
      refine z_fi (by rfl) fi118_100 (?_ : TZ d 172 40 [some (.inr 100), some (.inr 104), some (.inl x2)] [.inl (Z 100 18), .inr 110, .inl x2, .inr 104] Z (zrv Q))
      obtain ⟨c5, v⟩ := v
      refine z_al (by rfl) ln_110 c5 (?_ : TZ d 172 41 [some (.inr 100), some (.inr 104), some (.inl x2)] [.inl (Z 110 (Z 100 18)), .inl x2, .inr 104] Z (zrv Q))
      obtain ⟨c6, v⟩ := v
      obtain ⟨Z7, eZ7⟩ : ∃ q, q = zup Z 104 x2 (Z 110 (Z 100 18)) := ⟨_, rfl⟩
      have v := v Z7 eZ7
      refine z_as (by rfl) ln_104 c6 ?_
      show TZ d 172 42 [some (.inr 100), some (.inr 104), some (.inl x2)] [] (zup Z 104 x2 (Z 110 (Z 100 18))) _
      rw [← eZ7]
      refine z0 (op := 5) (a := 0) (b := 0) (by rfl) (by rfl) (?_ : TZ d 172 43 [some (.inr 100), some (.inr 104), some (.inl x2)] [.inr 100] Z7 (zrv Q))
      refine z0 (op := 15) (a := 0) (b := 0) (by rfl) (by rfl) (?_ : TZ d 172 44 [some (.inr 100), some (.inr 104), some (.inl x2)] [.inr 100, .inr 100] Z7 (zrv Q))
      refine z_fi (by rfl) fi118_100 (?_ : TZ d 172 47 [some (.inr 100), some (.inr 104), some (.inl x2)] [.inl (Z7 100 18), .inr 100] Z7 (zrv Q))
      refine z0 (op := 0) (a := 0) (b := 1) (by rfl) (by rfl) (?_ : TZ d 172 48 [some (.inr 100), some (.inr 104), some (.inl x2)] [.inl 1, .inl (Z7 100 18), .inr 100] Z7 (zrv Q))
      refine z0 (op := 12) (a := 0) (b := 0) (by rfl) (by rfl) (?_ : TZ d 172 49 [some (.inr 100), some (.inr 104), some (.inl x2)] [.inl ((Z7 100 18) + 1), .inr 100] Z7 (zrv Q))
      obtain ⟨Z8, eZ8⟩ : ∃ q, q = zup Z7 100 18 ((Z7 100 18) + 1) := ⟨_, rfl⟩
      have v := v Z8 eZ8
      refine z_pf (by rfl) pf118_100 (fun h => nomatch h) ?_
      show TZ d 172 52 [some (.inr 100), some (.inr 104), some (.inl x2)] [] (zup Z7 100 18 ((Z7 100 18) + 1)) _
      rw [← eZ8]
      refine z0 (op := 11) (a := 2) (b := 1) (by rfl) (by rfl) (?_ : TZ d 172 55 [some (.inr 100), some (.inr 104), some (.inl (x2 + 1))] [] Z8 (zrv Q))
      refine z_goto (t := 2) (by rfl) (by rfl) (?_ : TZ d 172 2 [some (.inr 100), some (.inr 104), some (.inl (x2 + 1))] [] Z8 (zrv Q))
      exact v
    · have v := v2 h4; clear v1 v2
      show TZ d 172 15 [some (.inr 100), some (.inr 104), some (.inl x2)] [] Z (zrv Q)
      refine z0 (op := 5) (a := 0) (b := 0) (by rfl) (by rfl) (?_ : TZ d 172 16 [some (.inr 100), some (.inr 104), some (.inl x2)] [.inr 100] Z (zrv Q))
      refine z_fr (by rfl) fr97_100 (?_ : TZ d 172 19 [some (.inr 100), some (.inr 104), some (.inl x2)] [.inr 110] Z (zrv Q))
      refine z0 (op := 5) (a := 0) (b := 0) (by rfl) (by rfl) (?_ : TZ d 172 20 [some (.inr 100), some (.inr 104), some (.inl x2)] [.inr 100, .inr 110] Z (zrv Q))
      refine z_fi (by rfl) fi118_100 (?_ : TZ d 172 23 [some (.inr 100), some (.inr 104), some (.inl x2)] [.inl (Z 100 18), .inr 110] Z (zrv Q))
      refine z0 (op := 5) (a := 1) (b := 0) (by rfl) (by rfl) (?_ : TZ d 172 24 [some (.inr 100), some (.inr 104), some (.inl x2)] [.inr 104, .inl (Z 100 18), .inr 110] Z (zrv Q))
      refine z0 (op := 3) (a := 2) (b := 0) (by rfl) (by rfl) (?_ : TZ d 172 25 [some (.inr 100), some (.inr 104), some (.inl x2)] [.inl x2, .inr 104, .inl (Z 100 18), .inr 110] Z (zrv Q))
      obtain ⟨c9, v⟩ := v
      refine z_al (by rfl) ln_104 c9 (?_ : TZ d 172 26 [some (.inr 100), some (.inr 104), some (.inl x2)] [.inl (Z 104 x2), .inl (Z 100 18), .inr 110] Z (zrv Q))
      obtain ⟨c10, v⟩ := v
      obtain ⟨Z11, eZ11⟩ : ∃ q, q = zup Z 110 (Z 100 18) (Z 104 x2) := ⟨_, rfl⟩
      have v := v Z11 eZ11
      refine z_as (by rfl) ln_110 c10 ?_
      show TZ d 172 27 [some (.inr 100), some (.inr 104), some (.inl x2)] [] (zup Z 110 (Z 100 18) (Z 104 x2)) _
      rw [← eZ11]
      refine z_goto (t := 42) (by rfl) (by rfl) (?_ : TZ d 172 42 [some (.inr 100), some (.inr 104), some (.inl x2)] [] Z11 (zrv Q))
      refine z0 (op := 5) (a := 0) (b := 0) (by rfl) (by rfl) (?_ : TZ d 172 43 [some (.inr 100), some (.inr 104), some (.inl x2)] [.inr 100] Z11 (zrv Q))
      refine z0 (op := 15) (a := 0) (b := 0) (by rfl) (by rfl) (?_ : TZ d 172 44 [some (.inr 100), some (.inr 104), some (.inl x2)] [.inr 100, .inr 100] Z11 (zrv Q))
      refine z_fi (by rfl) fi118_100 (?_ : TZ d 172 47 [some (.inr 100), some (.inr 104), some (.inl x2)] [.inl (Z11 100 18), .inr 100] Z11 (zrv Q))
      refine z0 (op := 0) (a := 0) (b := 1) (by rfl) (by rfl) (?_ : TZ d 172 48 [some (.inr 100), some (.inr 104), some (.inl x2)] [.inl 1, .inl (Z11 100 18), .inr 100] Z11 (zrv Q))
      refine z0 (op := 12) (a := 0) (b := 0) (by rfl) (by rfl) (?_ : TZ d 172 49 [some (.inr 100), some (.inr 104), some (.inl x2)] [.inl ((Z11 100 18) + 1), .inr 100] Z11 (zrv Q))
      obtain ⟨Z12, eZ12⟩ : ∃ q, q = zup Z11 100 18 ((Z11 100 18) + 1) := ⟨_, rfl⟩
      have v := v Z12 eZ12
      refine z_pf (by rfl) pf118_100 (fun h => nomatch h) ?_
      show TZ d 172 52 [some (.inr 100), some (.inr 104), some (.inl x2)] [] (zup Z11 100 18 ((Z11 100 18) + 1)) _
      rw [← eZ12]
      refine z0 (op := 11) (a := 2) (b := 1) (by rfl) (by rfl) (?_ : TZ d 172 55 [some (.inr 100), some (.inr 104), some (.inl (x2 + 1))] [] Z12 (zrv Q))
      refine z_goto (t := 2) (by rfl) (by rfl) (?_ : TZ d 172 2 [some (.inr 100), some (.inr 104), some (.inl (x2 + 1))] [] Z12 (zrv Q))
      exact v
theorem w172_0_105 {d : Nat} {Z : zM} {Q : zM → Prop}
    (v : TZ d 172 2 [some (.inr 100), some (.inr 105), some (.inl 0)] [] Z (zrv Q)) :
    TZ d 172 0 [some (.inr 100), some (.inr 105), none] [] Z (zrv Q) := by
  refine z0 (op := 0) (a := 0) (b := 0) (by rfl) (by rfl) (?_ : TZ d 172 1 [some (.inr 100), some (.inr 105), none] [.inl 0] Z (zrv Q))
  refine z0 (op := 7) (a := 2) (b := 0) (by rfl) (by rfl) (?_ : TZ d 172 2 [some (.inr 100), some (.inr 105), some (.inl 0)] [] Z (zrv Q))
  exact v
theorem w172_2_105 {d : Nat} {x2 : Int} {Z : zM} {Q : zM → Prop}
    (v : zR x2 ∧
      (8 ≤ x2 → Q Z) ∧
      (¬ 8 ≤ x2 → (zR (Z 100 17) ∧
          ((Z 100 17) = 0 → ((0 ≤ (Z 100 18) ∧ (Z 100 18) < 400) ∧
              (0 ≤ x2 ∧ x2 < 8) ∧
              ∀ Z7, Z7 = zup Z 105 x2 (Z 110 (Z 100 18)) →
              ∀ Z8, Z8 = zup Z7 100 18 ((Z7 100 18) + 1) →
              TZ d 172 2 [some (.inr 100), some (.inr 105), some (.inl (x2 + 1))] [] Z8 (zrv Q))) ∧
          (¬ (Z 100 17) = 0 → ((0 ≤ x2 ∧ x2 < 8) ∧
              (0 ≤ (Z 100 18) ∧ (Z 100 18) < 400) ∧
              ∀ Z11, Z11 = zup Z 110 (Z 100 18) (Z 105 x2) →
              ∀ Z12, Z12 = zup Z11 100 18 ((Z11 100 18) + 1) →
              TZ d 172 2 [some (.inr 100), some (.inr 105), some (.inl (x2 + 1))] [] Z12 (zrv Q)))))) :
    TZ d 172 2 [some (.inr 100), some (.inr 105), some (.inl x2)] [] Z (zrv Q) := by
  refine z0 (op := 3) (a := 2) (b := 0) (by rfl) (by rfl) (?_ : TZ d 172 3 [some (.inr 100), some (.inr 105), some (.inl x2)] [.inl x2] Z (zrv Q))
  refine z0 (op := 5) (a := 1) (b := 0) (by rfl) (by rfl) (?_ : TZ d 172 4 [some (.inr 100), some (.inr 105), some (.inl x2)] [.inr 105, .inl x2] Z (zrv Q))
  refine z_len (by rfl) le_105 (?_ : TZ d 172 5 [some (.inr 100), some (.inr 105), some (.inl x2)] [.inl 8, .inl x2] Z (zrv Q))
  obtain ⟨c1, v1, v2⟩ := v
  refine z_if2 (a := 3) (t := 58) (by rfl) (by rfl) c1 (by decide) (fun h2 => ?_) (fun h2 => ?_)
  · have v := v1 h2; clear v1 v2
    show TZ d 172 58 [some (.inr 100), some (.inr 105), some (.inl x2)] [] Z (zrv Q)
    exact z_retv (by rfl) (by rfl) v
  · have v := v2 h2; clear v1 v2
    show TZ d 172 8 [some (.inr 100), some (.inr 105), some (.inl x2)] [] Z (zrv Q)
    refine z0 (op := 5) (a := 0) (b := 0) (by rfl) (by rfl) (?_ : TZ d 172 9 [some (.inr 100), some (.inr 105), some (.inl x2)] [.inr 100] Z (zrv Q))
    refine z_fi (by rfl) fi117_100 (?_ : TZ d 172 12 [some (.inr 100), some (.inr 105), some (.inl x2)] [.inl (Z 100 17)] Z (zrv Q))
    obtain ⟨c3, v1, v2⟩ := v
    refine z_if0 (a := 0) (t := 30) (by rfl) (by rfl) c3 (fun h4 => ?_) (fun h4 => ?_)
    · have v := v1 h4; clear v1 v2
      show TZ d 172 30 [some (.inr 100), some (.inr 105), some (.inl x2)] [] Z (zrv Q)
      refine z0 (op := 5) (a := 1) (b := 0) (by rfl) (by rfl) (?_ : TZ d 172 31 [some (.inr 100), some (.inr 105), some (.inl x2)] [.inr 105] Z (zrv Q))
      refine z0 (op := 3) (a := 2) (b := 0) (by rfl) (by rfl) (?_ : TZ d 172 32 [some (.inr 100), some (.inr 105), some (.inl x2)] [.inl x2, .inr 105] Z (zrv Q))
      refine z0 (op := 5) (a := 0) (b := 0) (by rfl) (by rfl) (?_ : TZ d 172 33 [some (.inr 100), some (.inr 105), some (.inl x2)] [.inr 100, .inl x2, .inr 105] Z (zrv Q))
      refine z_fr (by rfl) fr97_100 (?_ : TZ d 172 36 [some (.inr 100), some (.inr 105), some (.inl x2)] [.inr 110, .inl x2, .inr 105] Z (zrv Q))
      refine z0 (op := 5) (a := 0) (b := 0) (by rfl) (by rfl) (?_ : TZ d 172 37 [some (.inr 100), some (.inr 105), some (.inl x2)] [.inr 100, .inr 110, .inl x2, .inr 105] Z (zrv Q))
      refine z_fi (by rfl) fi118_100 (?_ : TZ d 172 40 [some (.inr 100), some (.inr 105), some (.inl x2)] [.inl (Z 100 18), .inr 110, .inl x2, .inr 105] Z (zrv Q))
      obtain ⟨c5, v⟩ := v
      refine z_al (by rfl) ln_110 c5 (?_ : TZ d 172 41 [some (.inr 100), some (.inr 105), some (.inl x2)] [.inl (Z 110 (Z 100 18)), .inl x2, .inr 105] Z (zrv Q))
      obtain ⟨c6, v⟩ := v
      obtain ⟨Z7, eZ7⟩ : ∃ q, q = zup Z 105 x2 (Z 110 (Z 100 18)) := ⟨_, rfl⟩
      have v := v Z7 eZ7
      refine z_as (by rfl) ln_105 c6 ?_
      show TZ d 172 42 [some (.inr 100), some (.inr 105), some (.inl x2)] [] (zup Z 105 x2 (Z 110 (Z 100 18))) _
      rw [← eZ7]
      refine z0 (op := 5) (a := 0) (b := 0) (by rfl) (by rfl) (?_ : TZ d 172 43 [some (.inr 100), some (.inr 105), some (.inl x2)] [.inr 100] Z7 (zrv Q))
      refine z0 (op := 15) (a := 0) (b := 0) (by rfl) (by rfl) (?_ : TZ d 172 44 [some (.inr 100), some (.inr 105), some (.inl x2)] [.inr 100, .inr 100] Z7 (zrv Q))
      refine z_fi (by rfl) fi118_100 (?_ : TZ d 172 47 [some (.inr 100), some (.inr 105), some (.inl x2)] [.inl (Z7 100 18), .inr 100] Z7 (zrv Q))
      refine z0 (op := 0) (a := 0) (b := 1) (by rfl) (by rfl) (?_ : TZ d 172 48 [some (.inr 100), some (.inr 105), some (.inl x2)] [.inl 1, .inl (Z7 100 18), .inr 100] Z7 (zrv Q))
      refine z0 (op := 12) (a := 0) (b := 0) (by rfl) (by rfl) (?_ : TZ d 172 49 [some (.inr 100), some (.inr 105), some (.inl x2)] [.inl ((Z7 100 18) + 1), .inr 100] Z7 (zrv Q))
      obtain ⟨Z8, eZ8⟩ : ∃ q, q = zup Z7 100 18 ((Z7 100 18) + 1) := ⟨_, rfl⟩
      have v := v Z8 eZ8
      refine z_pf (by rfl) pf118_100 (fun h => nomatch h) ?_
      show TZ d 172 52 [some (.inr 100), some (.inr 105), some (.inl x2)] [] (zup Z7 100 18 ((Z7 100 18) + 1)) _
      rw [← eZ8]
      refine z0 (op := 11) (a := 2) (b := 1) (by rfl) (by rfl) (?_ : TZ d 172 55 [some (.inr 100), some (.inr 105), some (.inl (x2 + 1))] [] Z8 (zrv Q))
      refine z_goto (t := 2) (by rfl) (by rfl) (?_ : TZ d 172 2 [some (.inr 100), some (.inr 105), some (.inl (x2 + 1))] [] Z8 (zrv Q))
      exact v
    · have v := v2 h4; clear v1 v2
      show TZ d 172 15 [some (.inr 100), some (.inr 105), some (.inl x2)] [] Z (zrv Q)
      refine z0 (op := 5) (a := 0) (b := 0) (by rfl) (by rfl) (?_ : TZ d 172 16 [some (.inr 100), some (.inr 105), some (.inl x2)] [.inr 100] Z (zrv Q))
      refine z_fr (by rfl) fr97_100 (?_ : TZ d 172 19 [some (.inr 100), some (.inr 105), some (.inl x2)] [.inr 110] Z (zrv Q))
      refine z0 (op := 5) (a := 0) (b := 0) (by rfl) (by rfl) (?_ : TZ d 172 20 [some (.inr 100), some (.inr 105), some (.inl x2)] [.inr 100, .inr 110] Z (zrv Q))
      refine z_fi (by rfl) fi118_100 (?_ : TZ d 172 23 [some (.inr 100), some (.inr 105), some (.inl x2)] [.inl (Z 100 18), .inr 110] Z (zrv Q))
      refine z0 (op := 5) (a := 1) (b := 0) (by rfl) (by rfl) (?_ : TZ d 172 24 [some (.inr 100), some (.inr 105), some (.inl x2)] [.inr 105, .inl (Z 100 18), .inr 110] Z (zrv Q))
      refine z0 (op := 3) (a := 2) (b := 0) (by rfl) (by rfl) (?_ : TZ d 172 25 [some (.inr 100), some (.inr 105), some (.inl x2)] [.inl x2, .inr 105, .inl (Z 100 18), .inr 110] Z (zrv Q))
      obtain ⟨c9, v⟩ := v
      refine z_al (by rfl) ln_105 c9 (?_ : TZ d 172 26 [some (.inr 100), some (.inr 105), some (.inl x2)] [.inl (Z 105 x2), .inl (Z 100 18), .inr 110] Z (zrv Q))
      obtain ⟨c10, v⟩ := v
      obtain ⟨Z11, eZ11⟩ : ∃ q, q = zup Z 110 (Z 100 18) (Z 105 x2) := ⟨_, rfl⟩
      have v := v Z11 eZ11
      refine z_as (by rfl) ln_110 c10 ?_
      show TZ d 172 27 [some (.inr 100), some (.inr 105), some (.inl x2)] [] (zup Z 110 (Z 100 18) (Z 105 x2)) _
      rw [← eZ11]
      refine z_goto (t := 42) (by rfl) (by rfl) (?_ : TZ d 172 42 [some (.inr 100), some (.inr 105), some (.inl x2)] [] Z11 (zrv Q))
      refine z0 (op := 5) (a := 0) (b := 0) (by rfl) (by rfl) (?_ : TZ d 172 43 [some (.inr 100), some (.inr 105), some (.inl x2)] [.inr 100] Z11 (zrv Q))
      refine z0 (op := 15) (a := 0) (b := 0) (by rfl) (by rfl) (?_ : TZ d 172 44 [some (.inr 100), some (.inr 105), some (.inl x2)] [.inr 100, .inr 100] Z11 (zrv Q))
      refine z_fi (by rfl) fi118_100 (?_ : TZ d 172 47 [some (.inr 100), some (.inr 105), some (.inl x2)] [.inl (Z11 100 18), .inr 100] Z11 (zrv Q))
      refine z0 (op := 0) (a := 0) (b := 1) (by rfl) (by rfl) (?_ : TZ d 172 48 [some (.inr 100), some (.inr 105), some (.inl x2)] [.inl 1, .inl (Z11 100 18), .inr 100] Z11 (zrv Q))
      refine z0 (op := 12) (a := 0) (b := 0) (by rfl) (by rfl) (?_ : TZ d 172 49 [some (.inr 100), some (.inr 105), some (.inl x2)] [.inl ((Z11 100 18) + 1), .inr 100] Z11 (zrv Q))
      obtain ⟨Z12, eZ12⟩ : ∃ q, q = zup Z11 100 18 ((Z11 100 18) + 1) := ⟨_, rfl⟩
      have v := v Z12 eZ12
      refine z_pf (by rfl) pf118_100 (fun h => nomatch h) ?_
      show TZ d 172 52 [some (.inr 100), some (.inr 105), some (.inl x2)] [] (zup Z11 100 18 ((Z11 100 18) + 1)) _
      rw [← eZ12]
      refine z0 (op := 11) (a := 2) (b := 1) (by rfl) (by rfl) (?_ : TZ d 172 55 [some (.inr 100), some (.inr 105), some (.inl (x2 + 1))] [] Z12 (zrv Q))
      refine z_goto (t := 2) (by rfl) (by rfl) (?_ : TZ d 172 2 [some (.inr 100), some (.inr 105), some (.inl (x2 + 1))] [] Z12 (zrv Q))
      exact v
