/-! what stretches of code need of integers -/
theorem w251_71 {d : Nat} {x1 x2 x3 : Int} {Z : zM} {Q : Int → zM → Prop}
    (v : zR x3 ∧
      (20 ≤ x3 → TZ (d + 1) 251 99 [some (.inr 100), some (.inl x1), some (.inl x2), some (.inl x3), some (.inl 0), some (.inl 0), some (.inl 0)] [] Z (zri Q)) ∧
      (¬ 20 ≤ x3 → TI d 250 [.inr 100] Z (fun r4 Z3 =>
          zR r4 ∧
            (r4 = 0 → TZ (d + 1) 251 99 [some (.inr 100), some (.inl x1), some (.inl x2), some (.inl x3), some (.inl 0), some (.inl 0), some (.inl 0)] [] Z3 (zri Q)) ∧
            (¬ r4 = 0 → TZ (d + 1) 251 71 [some (.inr 100), some (.inl x1), some (.inl x2), some (.inl (x3 + 1)), none, none, none] [] Z3 (zri Q))))) :
    TZ (d + 1) 251 71 [some (.inr 100), some (.inl x1), some (.inl x2), some (.inl x3), none, none, none] [] Z (zri Q) := by
  refine z0 (op := 3) (a := 3) (b := 0) (by rfl) (by rfl) (?_ : TZ (d + 1) 251 72 [some (.inr 100), some (.inl x1), some (.inl x2), some (.inl x3), none, none, none] [.inl x3] Z (zri Q))
  refine z0 (op := 1) (a := 0) (b := 20) (by rfl) (by rfl) (?_ : TZ (d + 1) 251 74 [some (.inr 100), some (.inl x1), some (.inl x2), some (.inl x3), none, none, none] [.inl 20, .inl x3] Z (zri Q))
  obtain ⟨c1, v1, v2⟩ := v
  refine z_if2 (a := 3) (t := 90) (by rfl) (by rfl) c1 (by decide) (fun h2 => ?_) (fun h2 => ?_)
  · have v := v1 h2; clear v1 v2
    show TZ (d + 1) 251 90 [some (.inr 100), some (.inl x1), some (.inl x2), some (.inl x3), none, none, none] [] Z (zri Q)
    refine z0 (op := 0) (a := 0) (b := 0) (by rfl) (by rfl) (?_ : TZ (d + 1) 251 91 [some (.inr 100), some (.inl x1), some (.inl x2), some (.inl x3), none, none, none] [.inl 0] Z (zri Q))
    refine z0 (op := 8) (a := 4) (b := 0) (by rfl) (by rfl) (?_ : TZ (d + 1) 251 93 [some (.inr 100), some (.inl x1), some (.inl x2), some (.inl x3), some (.inl 0), none, none] [] Z (zri Q))
    refine z0 (op := 0) (a := 0) (b := 0) (by rfl) (by rfl) (?_ : TZ (d + 1) 251 94 [some (.inr 100), some (.inl x1), some (.inl x2), some (.inl x3), some (.inl 0), none, none] [.inl 0] Z (zri Q))
    refine z0 (op := 8) (a := 5) (b := 0) (by rfl) (by rfl) (?_ : TZ (d + 1) 251 96 [some (.inr 100), some (.inl x1), some (.inl x2), some (.inl x3), some (.inl 0), some (.inl 0), none] [] Z (zri Q))
    refine z0 (op := 0) (a := 0) (b := 0) (by rfl) (by rfl) (?_ : TZ (d + 1) 251 97 [some (.inr 100), some (.inl x1), some (.inl x2), some (.inl x3), some (.inl 0), some (.inl 0), none] [.inl 0] Z (zri Q))
    refine z0 (op := 8) (a := 6) (b := 0) (by rfl) (by rfl) (?_ : TZ (d + 1) 251 99 [some (.inr 100), some (.inl x1), some (.inl x2), some (.inl x3), some (.inl 0), some (.inl 0), some (.inl 0)] [] Z (zri Q))
    exact v
  · have v := v2 h2; clear v1 v2
    show TZ (d + 1) 251 77 [some (.inr 100), some (.inl x1), some (.inl x2), some (.inl x3), none, none, none] [] Z (zri Q)
    refine z0 (op := 5) (a := 0) (b := 0) (by rfl) (by rfl) (?_ : TZ (d + 1) 251 78 [some (.inr 100), some (.inl x1), some (.inl x2), some (.inl x3), none, none, none] [.inr 100] Z (zri Q))
    refine z_vi (by rfl) (by rfl) cl_100 (TI.mono v fun r4 Z3 v => ?_)
    show TZ (d + 1) 251 81 [some (.inr 100), some (.inl x1), some (.inl x2), some (.inl x3), none, none, none] [.inl r4] Z3 (zri Q)
    obtain ⟨c5, v1, v2⟩ := v
    refine z_if0 (a := 0) (t := 90) (by rfl) (by rfl) c5 (fun h6 => ?_) (fun h6 => ?_)
    · have v := v1 h6; clear v1 v2
      show TZ (d + 1) 251 90 [some (.inr 100), some (.inl x1), some (.inl x2), some (.inl x3), none, none, none] [] Z3 (zri Q)
      refine z0 (op := 0) (a := 0) (b := 0) (by rfl) (by rfl) (?_ : TZ (d + 1) 251 91 [some (.inr 100), some (.inl x1), some (.inl x2), some (.inl x3), none, none, none] [.inl 0] Z3 (zri Q))
      refine z0 (op := 8) (a := 4) (b := 0) (by rfl) (by rfl) (?_ : TZ (d + 1) 251 93 [some (.inr 100), some (.inl x1), some (.inl x2), some (.inl x3), some (.inl 0), none, none] [] Z3 (zri Q))
      refine z0 (op := 0) (a := 0) (b := 0) (by rfl) (by rfl) (?_ : TZ (d + 1) 251 94 [some (.inr 100), some (.inl x1), some (.inl x2), some (.inl x3), some (.inl 0), none, none] [.inl 0] Z3 (zri Q))
      refine z0 (op := 8) (a := 5) (b := 0) (by rfl) (by rfl) (?_ : TZ (d + 1) 251 96 [some (.inr 100), some (.inl x1), some (.inl x2), some (.inl x3), some (.inl 0), some (.inl 0), none] [] Z3 (zri Q))
      refine z0 (op := 0) (a := 0) (b := 0) (by rfl) (by rfl) (?_ : TZ (d + 1) 251 97 [some (.inr 100), some (.inl x1), some (.inl x2), some (.inl x3), some (.inl 0), some (.inl 0), none] [.inl 0] Z3 (zri Q))
      refine z0 (op := 8) (a := 6) (b := 0) (by rfl) (by rfl) (?_ : TZ (d + 1) 251 99 [some (.inr 100), some (.inl x1), some (.inl x2), some (.inl x3), some (.inl 0), some (.inl 0), some (.inl 0)] [] Z3 (zri Q))
      exact v
    · have v := v2 h6; clear v1 v2
      show TZ (d + 1) 251 84 [some (.inr 100), some (.inl x1), some (.inl x2), some (.inl x3), none, none, none] [] Z3 (zri Q)
      refine z0 (op := 11) (a := 3) (b := 1) (by rfl) (by rfl) (?_ : TZ (d + 1) 251 87 [some (.inr 100), some (.inl x1), some (.inl x2), some (.inl (x3 + 1)), none, none, none] [] Z3 (zri Q))
      refine z_goto (t := 71) (by rfl) (by rfl) (?_ : TZ (d + 1) 251 71 [some (.inr 100), some (.inl x1), some (.inl x2), some (.inl (x3 + 1)), none, none, none] [] Z3 (zri Q))
      exact v
theorem w251_99 {d : Nat} {x1 x2 x3 x4 x5 x6 : Int} {Z : zM} {Q : Int → zM → Prop}
    (v : zR x6 ∧
      zR (Z 100 26) ∧
      ((Z 100 26) ≤ x6 → TZ d 251 131 [some (.inr 100), some (.inl x1), some (.inl x2), some (.inl x3), some (.inl x4), some (.inl x5), some (.inl 0)] [] Z (zri Q)) ∧
      (¬ (Z 100 26) ≤ x6 → ((0 ≤ x6 ∧ x6 < 12) ∧ TZ d 251 99 [some (.inr 100), some (.inl x1), some (.inl x2), some (.inl x3), some (.inl (zbit 4 x4 (zbit 6 1 (Z 120 x6)))), some (.inl x5), some (.inl (x6 + 1))] [] Z (zri Q)))) :
    TZ d 251 99 [some (.inr 100), some (.inl x1), some (.inl x2), some (.inl x3), some (.inl x4), some (.inl x5), some (.inl x6)] [] Z (zri Q) := by
  refine z0 (op := 4) (a := 6) (b := 0) (by rfl) (by rfl) (?_ : TZ d 251 101 [some (.inr 100), some (.inl x1), some (.inl x2), some (.inl x3), some (.inl x4), some (.inl x5), some (.inl x6)] [.inl x6] Z (zri Q))
  refine z0 (op := 5) (a := 0) (b := 0) (by rfl) (by rfl) (?_ : TZ d 251 102 [some (.inr 100), some (.inl x1), some (.inl x2), some (.inl x3), some (.inl x4), some (.inl x5), some (.inl x6)] [.inr 100, .inl x6] Z (zri Q))
  refine z_fi (by rfl) fi120_100 (?_ : TZ d 251 105 [some (.inr 100), some (.inl x1), some (.inl x2), some (.inl x3), some (.inl x4), some (.inl x5), some (.inl x6)] [.inl (Z 100 26), .inl x6] Z (zri Q))
  obtain ⟨c1, c2, v1, v2⟩ := v
  refine z_if2 (a := 3) (t := 128) (by rfl) (by rfl) c1 c2 (fun h3 => ?_) (fun h3 => ?_)
  · have v := v1 h3; clear v1 v2
    show TZ d 251 128 [some (.inr 100), some (.inl x1), some (.inl x2), some (.inl x3), some (.inl x4), some (.inl x5), some (.inl x6)] [] Z (zri Q)
    refine z0 (op := 0) (a := 0) (b := 0) (by rfl) (by rfl) (?_ : TZ d 251 129 [some (.inr 100), some (.inl x1), some (.inl x2), some (.inl x3), some (.inl x4), some (.inl x5), some (.inl x6)] [.inl 0] Z (zri Q))
    refine z0 (op := 8) (a := 6) (b := 0) (by rfl) (by rfl) (?_ : TZ d 251 131 [some (.inr 100), some (.inl x1), some (.inl x2), some (.inl x3), some (.inl x4), some (.inl x5), some (.inl 0)] [] Z (zri Q))
    exact v
  · have v := v2 h3; clear v1 v2
    show TZ d 251 108 [some (.inr 100), some (.inl x1), some (.inl x2), some (.inl x3), some (.inl x4), some (.inl x5), some (.inl x6)] [] Z (zri Q)
    refine z0 (op := 4) (a := 4) (b := 0) (by rfl) (by rfl) (?_ : TZ d 251 110 [some (.inr 100), some (.inl x1), some (.inl x2), some (.inl x3), some (.inl x4), some (.inl x5), some (.inl x6)] [.inl x4] Z (zri Q))
    refine z0 (op := 0) (a := 0) (b := 1) (by rfl) (by rfl) (?_ : TZ d 251 111 [some (.inr 100), some (.inl x1), some (.inl x2), some (.inl x3), some (.inl x4), some (.inl x5), some (.inl x6)] [.inl 1, .inl x4] Z (zri Q))
    refine z0 (op := 5) (a := 0) (b := 0) (by rfl) (by rfl) (?_ : TZ d 251 112 [some (.inr 100), some (.inl x1), some (.inl x2), some (.inl x3), some (.inl x4), some (.inl x5), some (.inl x6)] [.inr 100, .inl 1, .inl x4] Z (zri Q))
    refine z_fr (by rfl) fr107_100 (?_ : TZ d 251 115 [some (.inr 100), some (.inl x1), some (.inl x2), some (.inl x3), some (.inl x4), some (.inl x5), some (.inl x6)] [.inr 120, .inl 1, .inl x4] Z (zri Q))
    refine z0 (op := 4) (a := 6) (b := 0) (by rfl) (by rfl) (?_ : TZ d 251 117 [some (.inr 100), some (.inl x1), some (.inl x2), some (.inl x3), some (.inl x4), some (.inl x5), some (.inl x6)] [.inl x6, .inr 120, .inl 1, .inl x4] Z (zri Q))
    obtain ⟨c4, v⟩ := v
    refine z_al (by rfl) ln_120 c4 (?_ : TZ d 251 118 [some (.inr 100), some (.inl x1), some (.inl x2), some (.inl x3), some (.inl x4), some (.inl x5), some (.inl x6)] [.inl (Z 120 x6), .inl 1, .inl x4] Z (zri Q))
    refine z0 (op := 12) (a := 6) (b := 0) (by rfl) (by rfl) (?_ : TZ d 251 119 [some (.inr 100), some (.inl x1), some (.inl x2), some (.inl x3), some (.inl x4), some (.inl x5), some (.inl x6)] [.inl (zbit 6 1 (Z 120 x6)), .inl x4] Z (zri Q))
    refine z0 (op := 12) (a := 4) (b := 0) (by rfl) (by rfl) (?_ : TZ d 251 120 [some (.inr 100), some (.inl x1), some (.inl x2), some (.inl x3), some (.inl x4), some (.inl x5), some (.inl x6)] [.inl (zbit 4 x4 (zbit 6 1 (Z 120 x6)))] Z (zri Q))
    refine z0 (op := 8) (a := 4) (b := 0) (by rfl) (by rfl) (?_ : TZ d 251 122 [some (.inr 100), some (.inl x1), some (.inl x2), some (.inl x3), some (.inl (zbit 4 x4 (zbit 6 1 (Z 120 x6)))), some (.inl x5), some (.inl x6)] [] Z (zri Q))
    refine z0 (op := 11) (a := 6) (b := 1) (by rfl) (by rfl) (?_ : TZ d 251 125 [some (.inr 100), some (.inl x1), some (.inl x2), some (.inl x3), some (.inl (zbit 4 x4 (zbit 6 1 (Z 120 x6)))), some (.inl x5), some (.inl (x6 + 1))] [] Z (zri Q))
    refine z_goto (t := 99) (by rfl) (by rfl) (?_ : TZ d 251 99 [some (.inr 100), some (.inl x1), some (.inl x2), some (.inl x3), some (.inl (zbit 4 x4 (zbit 6 1 (Z 120 x6)))), some (.inl x5), some (.inl (x6 + 1))] [] Z (zri Q))
    exact v
theorem w251_131 {d : Nat} {x1 x2 x3 x4 x5 x6 : Int} {Z : zM} {Q : Int → zM → Prop}
    (v : zR x6 ∧
      (12 ≤ x6 → (zR x1 ∧
          (x1 ≠ 1 → (zR x3 ∧
              (x3 ≠ 20 → Q x3 Z) ∧
              (¬ x3 ≠ 20 → TI d 250 [.inr 100] Z (fun r8 Z7 =>
                  zR r8 ∧
                    (r8 = 0 → Q x3 Z7) ∧
                    (¬ r8 = 0 → Q (-9) Z7))))) ∧
          (¬ x1 ≠ 1 → Q x5 Z))) ∧
      (¬ 12 ≤ x6 → TZ (d + 1) 251 131 [some (.inr 100), some (.inl x1), some (.inl x2), some (.inl x3), some (.inl x4), some (.inl (x5 + (zbit 3 (zbit 7 x4 x6) 1))), some (.inl (x6 + 1))] [] Z (zri Q))) :
    TZ (d + 1) 251 131 [some (.inr 100), some (.inl x1), some (.inl x2), some (.inl x3), some (.inl x4), some (.inl x5), some (.inl x6)] [] Z (zri Q) := by
  refine z0 (op := 4) (a := 6) (b := 0) (by rfl) (by rfl) (?_ : TZ (d + 1) 251 133 [some (.inr 100), some (.inl x1), some (.inl x2), some (.inl x3), some (.inl x4), some (.inl x5), some (.inl x6)] [.inl x6] Z (zri Q))
  refine z0 (op := 1) (a := 0) (b := 12) (by rfl) (by rfl) (?_ : TZ (d + 1) 251 135 [some (.inr 100), some (.inl x1), some (.inl x2), some (.inl x3), some (.inl x4), some (.inl x5), some (.inl x6)] [.inl 12, .inl x6] Z (zri Q))
  obtain ⟨c1, v1, v2⟩ := v
  refine z_if2 (a := 3) (t := 156) (by rfl) (by rfl) c1 (by decide) (fun h2 => ?_) (fun h2 => ?_)
  · have v := v1 h2; clear v1 v2
    show TZ (d + 1) 251 156 [some (.inr 100), some (.inl x1), some (.inl x2), some (.inl x3), some (.inl x4), some (.inl x5), some (.inl x6)] [] Z (zri Q)
    refine z0 (op := 3) (a := 1) (b := 0) (by rfl) (by rfl) (?_ : TZ (d + 1) 251 157 [some (.inr 100), some (.inl x1), some (.inl x2), some (.inl x3), some (.inl x4), some (.inl x5), some (.inl x6)] [.inl x1] Z (zri Q))
    refine z0 (op := 0) (a := 0) (b := 1) (by rfl) (by rfl) (?_ : TZ (d + 1) 251 158 [some (.inr 100), some (.inl x1), some (.inl x2), some (.inl x3), some (.inl x4), some (.inl x5), some (.inl x6)] [.inl 1, .inl x1] Z (zri Q))
    obtain ⟨c3, v1, v2⟩ := v
    refine z_if2 (a := 1) (t := 164) (by rfl) (by rfl) c3 (by decide) (fun h4 => ?_) (fun h4 => ?_)
    · have v := v1 h4; clear v1 v2
      show TZ (d + 1) 251 164 [some (.inr 100), some (.inl x1), some (.inl x2), some (.inl x3), some (.inl x4), some (.inl x5), some (.inl x6)] [] Z (zri Q)
      refine z0 (op := 3) (a := 3) (b := 0) (by rfl) (by rfl) (?_ : TZ (d + 1) 251 165 [some (.inr 100), some (.inl x1), some (.inl x2), some (.inl x3), some (.inl x4), some (.inl x5), some (.inl x6)] [.inl x3] Z (zri Q))
      refine z0 (op := 1) (a := 0) (b := 20) (by rfl) (by rfl) (?_ : TZ (d + 1) 251 167 [some (.inr 100), some (.inl x1), some (.inl x2), some (.inl x3), some (.inl x4), some (.inl x5), some (.inl x6)] [.inl 20, .inl x3] Z (zri Q))
      obtain ⟨c5, v1, v2⟩ := v
      refine z_if2 (a := 1) (t := 182) (by rfl) (by rfl) c5 (by decide) (fun h6 => ?_) (fun h6 => ?_)
      · have v := v1 h6; clear v1 v2
        show TZ (d + 1) 251 182 [some (.inr 100), some (.inl x1), some (.inl x2), some (.inl x3), some (.inl x4), some (.inl x5), some (.inl x6)] [] Z (zri Q)
        refine z0 (op := 3) (a := 3) (b := 0) (by rfl) (by rfl) (?_ : TZ (d + 1) 251 183 [some (.inr 100), some (.inl x1), some (.inl x2), some (.inl x3), some (.inl x4), some (.inl x5), some (.inl x6)] [.inl x3] Z (zri Q))
        exact z_reti (by rfl) (by rfl) v
      · have v := v2 h6; clear v1 v2
        show TZ (d + 1) 251 170 [some (.inr 100), some (.inl x1), some (.inl x2), some (.inl x3), some (.inl x4), some (.inl x5), some (.inl x6)] [] Z (zri Q)
        refine z0 (op := 5) (a := 0) (b := 0) (by rfl) (by rfl) (?_ : TZ (d + 1) 251 171 [some (.inr 100), some (.inl x1), some (.inl x2), some (.inl x3), some (.inl x4), some (.inl x5), some (.inl x6)] [.inr 100] Z (zri Q))
        refine z_vi (by rfl) (by rfl) cl_100 (TI.mono v fun r8 Z7 v => ?_)
        show TZ (d + 1) 251 174 [some (.inr 100), some (.inl x1), some (.inl x2), some (.inl x3), some (.inl x4), some (.inl x5), some (.inl x6)] [.inl r8] Z7 (zri Q)
        obtain ⟨c9, v1, v2⟩ := v
        refine z_if0 (a := 0) (t := 182) (by rfl) (by rfl) c9 (fun h10 => ?_) (fun h10 => ?_)
        · have v := v1 h10; clear v1 v2
          show TZ (d + 1) 251 182 [some (.inr 100), some (.inl x1), some (.inl x2), some (.inl x3), some (.inl x4), some (.inl x5), some (.inl x6)] [] Z7 (zri Q)
          refine z0 (op := 3) (a := 3) (b := 0) (by rfl) (by rfl) (?_ : TZ (d + 1) 251 183 [some (.inr 100), some (.inl x1), some (.inl x2), some (.inl x3), some (.inl x4), some (.inl x5), some (.inl x6)] [.inl x3] Z7 (zri Q))
          exact z_reti (by rfl) (by rfl) v
        · have v := v2 h10; clear v1 v2
          show TZ (d + 1) 251 177 [some (.inr 100), some (.inl x1), some (.inl x2), some (.inl x3), some (.inl x4), some (.inl x5), some (.inl x6)] [] Z7 (zri Q)
          refine z0 (op := 1) (a := 0) (b := (-9)) (by rfl) (by rfl) (?_ : TZ (d + 1) 251 179 [some (.inr 100), some (.inl x1), some (.inl x2), some (.inl x3), some (.inl x4), some (.inl x5), some (.inl x6)] [.inl (-9)] Z7 (zri Q))
          refine z_goto (t := 183) (by rfl) (by rfl) (?_ : TZ (d + 1) 251 183 [some (.inr 100), some (.inl x1), some (.inl x2), some (.inl x3), some (.inl x4), some (.inl x5), some (.inl x6)] [.inl (-9)] Z7 (zri Q))
          exact z_reti (by rfl) (by rfl) v
    · have v := v2 h4; clear v1 v2
      show TZ (d + 1) 251 161 [some (.inr 100), some (.inl x1), some (.inl x2), some (.inl x3), some (.inl x4), some (.inl x5), some (.inl x6)] [] Z (zri Q)
      refine z0 (op := 4) (a := 5) (b := 0) (by rfl) (by rfl) (?_ : TZ (d + 1) 251 163 [some (.inr 100), some (.inl x1), some (.inl x2), some (.inl x3), some (.inl x4), some (.inl x5), some (.inl x6)] [.inl x5] Z (zri Q))
      exact z_reti (by rfl) (by rfl) v
  · have v := v2 h2; clear v1 v2
    show TZ (d + 1) 251 138 [some (.inr 100), some (.inl x1), some (.inl x2), some (.inl x3), some (.inl x4), some (.inl x5), some (.inl x6)] [] Z (zri Q)
    refine z0 (op := 4) (a := 5) (b := 0) (by rfl) (by rfl) (?_ : TZ (d + 1) 251 140 [some (.inr 100), some (.inl x1), some (.inl x2), some (.inl x3), some (.inl x4), some (.inl x5), some (.inl x6)] [.inl x5] Z (zri Q))
    refine z0 (op := 4) (a := 4) (b := 0) (by rfl) (by rfl) (?_ : TZ (d + 1) 251 142 [some (.inr 100), some (.inl x1), some (.inl x2), some (.inl x3), some (.inl x4), some (.inl x5), some (.inl x6)] [.inl x4, .inl x5] Z (zri Q))
    refine z0 (op := 4) (a := 6) (b := 0) (by rfl) (by rfl) (?_ : TZ (d + 1) 251 144 [some (.inr 100), some (.inl x1), some (.inl x2), some (.inl x3), some (.inl x4), some (.inl x5), some (.inl x6)] [.inl x6, .inl x4, .inl x5] Z (zri Q))
    refine z0 (op := 12) (a := 7) (b := 0) (by rfl) (by rfl) (?_ : TZ (d + 1) 251 145 [some (.inr 100), some (.inl x1), some (.inl x2), some (.inl x3), some (.inl x4), some (.inl x5), some (.inl x6)] [.inl (zbit 7 x4 x6), .inl x5] Z (zri Q))
    refine z0 (op := 0) (a := 0) (b := 1) (by rfl) (by rfl) (?_ : TZ (d + 1) 251 146 [some (.inr 100), some (.inl x1), some (.inl x2), some (.inl x3), some (.inl x4), some (.inl x5), some (.inl x6)] [.inl 1, .inl (zbit 7 x4 x6), .inl x5] Z (zri Q))
    refine z0 (op := 12) (a := 3) (b := 0) (by rfl) (by rfl) (?_ : TZ (d + 1) 251 147 [some (.inr 100), some (.inl x1), some (.inl x2), some (.inl x3), some (.inl x4), some (.inl x5), some (.inl x6)] [.inl (zbit 3 (zbit 7 x4 x6) 1), .inl x5] Z (zri Q))
    refine z0 (op := 12) (a := 0) (b := 0) (by rfl) (by rfl) (?_ : TZ (d + 1) 251 148 [some (.inr 100), some (.inl x1), some (.inl x2), some (.inl x3), some (.inl x4), some (.inl x5), some (.inl x6)] [.inl (x5 + (zbit 3 (zbit 7 x4 x6) 1))] Z (zri Q))
    refine z0 (op := 8) (a := 5) (b := 0) (by rfl) (by rfl) (?_ : TZ (d + 1) 251 150 [some (.inr 100), some (.inl x1), some (.inl x2), some (.inl x3), some (.inl x4), some (.inl (x5 + (zbit 3 (zbit 7 x4 x6) 1))), some (.inl x6)] [] Z (zri Q))
    refine z0 (op := 11) (a := 6) (b := 1) (by rfl) (by rfl) (?_ : TZ (d + 1) 251 153 [some (.inr 100), some (.inl x1), some (.inl x2), some (.inl x3), some (.inl x4), some (.inl (x5 + (zbit 3 (zbit 7 x4 x6) 1))), some (.inl (x6 + 1))] [] Z (zri Q))
    refine z_goto (t := 131) (by rfl) (by rfl) (?_ : TZ (d + 1) 251 131 [some (.inr 100), some (.inl x1), some (.inl x2), some (.inl x3), some (.inl x4), some (.inl (x5 + (zbit 3 (zbit 7 x4 x6) 1))), some (.inl (x6 + 1))] [] Z (zri Q))
    exact v
theorem w252_0 {d : Nat} {Z : zM} {Q : Int → zM → Prop}
    (v : TV d 205 [.inr 100, .inl 43] Z (fun Z1 =>
      TZ (d + 1) 252 8 [some (.inr 100), some (.inl 0)] [] Z1 (zri Q))) :
    TZ (d + 1) 252 0 [some (.inr 100), none] [] Z (zri Q) := by
  refine z0 (op := 5) (a := 0) (b := 0) (by rfl) (by rfl) (?_ : TZ (d + 1) 252 1 [some (.inr 100), none] [.inr 100] Z (zri Q))
  refine z0 (op := 1) (a := 0) (b := 43) (by rfl) (by rfl) (?_ : TZ (d + 1) 252 3 [some (.inr 100), none] [.inl 43, .inr 100] Z (zri Q))
  refine z_vv (by rfl) (by rfl) cl_100 (TV.mono v fun Z1 v => ?_)
  show TZ (d + 1) 252 6 [some (.inr 100), none] [] Z1 (zri Q)
  refine z0 (op := 0) (a := 0) (b := 0) (by rfl) (by rfl) (?_ : TZ (d + 1) 252 7 [some (.inr 100), none] [.inl 0] Z1 (zri Q))
  refine z0 (op := 7) (a := 1) (b := 0) (by rfl) (by rfl) (?_ : TZ (d + 1) 252 8 [some (.inr 100), some (.inl 0)] [] Z1 (zri Q))
  exact v
theorem w252_8 {d : Nat} {x1 : Int} {Z : zM} {Q : Int → zM → Prop}
    (v : zR x1 ∧
      (41 ≤ x1 → Q (-9) Z) ∧
      (¬ 41 ≤ x1 → ((0 ≤ x1 ∧ x1 < 64) ∧
          (0 ≤ (x1 + 1) ∧ (x1 + 1) < 64) ∧
          (0 ≤ (x1 + 2) ∧ (x1 + 2) < 64) ∧
          zR (zbit 4 (zbit 4 (Z 113 x1) (Z 113 (x1 + 1))) (Z 113 (x1 + 2))) ∧
          ((zbit 4 (zbit 4 (Z 113 x1) (Z 113 (x1 + 1))) (Z 113 (x1 + 2))) ≠ 0 → TZ d 252 8 [some (.inr 100), some (.inl (x1 + 1))] [] Z (zri Q)) ∧
          (¬ (zbit 4 (zbit 4 (Z 113 x1) (Z 113 (x1 + 1))) (Z 113 (x1 + 2))) ≠ 0 → Q x1 Z)))) :
    TZ d 252 8 [some (.inr 100), some (.inl x1)] [] Z (zri Q) := by
  refine z0 (op := 3) (a := 1) (b := 0) (by rfl) (by rfl) (?_ : TZ d 252 9 [some (.inr 100), some (.inl x1)] [.inl x1] Z (zri Q))
  refine z0 (op := 1) (a := 0) (b := 41) (by rfl) (by rfl) (?_ : TZ d 252 11 [some (.inr 100), some (.inl x1)] [.inl 41, .inl x1] Z (zri Q))
  obtain ⟨c1, v1, v2⟩ := v
  refine z_if2 (a := 3) (t := 49) (by rfl) (by rfl) c1 (by decide) (fun h2 => ?_) (fun h2 => ?_)
  · have v := v1 h2; clear v1 v2
    show TZ d 252 49 [some (.inr 100), some (.inl x1)] [] Z (zri Q)
    refine z0 (op := 1) (a := 0) (b := (-9)) (by rfl) (by rfl) (?_ : TZ d 252 51 [some (.inr 100), some (.inl x1)] [.inl (-9)] Z (zri Q))
    exact z_reti (by rfl) (by rfl) v
  · have v := v2 h2; clear v1 v2
    show TZ d 252 14 [some (.inr 100), some (.inl x1)] [] Z (zri Q)
    refine z0 (op := 5) (a := 0) (b := 0) (by rfl) (by rfl) (?_ : TZ d 252 15 [some (.inr 100), some (.inl x1)] [.inr 100] Z (zri Q))
    refine z_fr (by rfl) fr100_100 (?_ : TZ d 252 18 [some (.inr 100), some (.inl x1)] [.inr 113] Z (zri Q))
    refine z0 (op := 3) (a := 1) (b := 0) (by rfl) (by rfl) (?_ : TZ d 252 19 [some (.inr 100), some (.inl x1)] [.inl x1, .inr 113] Z (zri Q))
    obtain ⟨c3, v⟩ := v
    refine z_al (by rfl) ln_113 c3 (?_ : TZ d 252 20 [some (.inr 100), some (.inl x1)] [.inl (Z 113 x1)] Z (zri Q))
    refine z0 (op := 5) (a := 0) (b := 0) (by rfl) (by rfl) (?_ : TZ d 252 21 [some (.inr 100), some (.inl x1)] [.inr 100, .inl (Z 113 x1)] Z (zri Q))
    refine z_fr (by rfl) fr100_100 (?_ : TZ d 252 24 [some (.inr 100), some (.inl x1)] [.inr 113, .inl (Z 113 x1)] Z (zri Q))
    refine z0 (op := 3) (a := 1) (b := 0) (by rfl) (by rfl) (?_ : TZ d 252 25 [some (.inr 100), some (.inl x1)] [.inl x1, .inr 113, .inl (Z 113 x1)] Z (zri Q))
    refine z0 (op := 0) (a := 0) (b := 1) (by rfl) (by rfl) (?_ : TZ d 252 26 [some (.inr 100), some (.inl x1)] [.inl 1, .inl x1, .inr 113, .inl (Z 113 x1)] Z (zri Q))
    refine z0 (op := 12) (a := 0) (b := 0) (by rfl) (by rfl) (?_ : TZ d 252 27 [some (.inr 100), some (.inl x1)] [.inl (x1 + 1), .inr 113, .inl (Z 113 x1)] Z (zri Q))
    obtain ⟨c4, v⟩ := v
    refine z_al (by rfl) ln_113 c4 (?_ : TZ d 252 28 [some (.inr 100), some (.inl x1)] [.inl (Z 113 (x1 + 1)), .inl (Z 113 x1)] Z (zri Q))
    refine z0 (op := 12) (a := 4) (b := 0) (by rfl) (by rfl) (?_ : TZ d 252 29 [some (.inr 100), some (.inl x1)] [.inl (zbit 4 (Z 113 x1) (Z 113 (x1 + 1)))] Z (zri Q))
    refine z0 (op := 5) (a := 0) (b := 0) (by rfl) (by rfl) (?_ : TZ d 252 30 [some (.inr 100), some (.inl x1)] [.inr 100, .inl (zbit 4 (Z 113 x1) (Z 113 (x1 + 1)))] Z (zri Q))
    refine z_fr (by rfl) fr100_100 (?_ : TZ d 252 33 [some (.inr 100), some (.inl x1)] [.inr 113, .inl (zbit 4 (Z 113 x1) (Z 113 (x1 + 1)))] Z (zri Q))
    refine z0 (op := 3) (a := 1) (b := 0) (by rfl) (by rfl) (?_ : TZ d 252 34 [some (.inr 100), some (.inl x1)] [.inl x1, .inr 113, .inl (zbit 4 (Z 113 x1) (Z 113 (x1 + 1)))] Z (zri Q))
    refine z0 (op := 0) (a := 0) (b := 2) (by rfl) (by rfl) (?_ : TZ d 252 35 [some (.inr 100), some (.inl x1)] [.inl 2, .inl x1, .inr 113, .inl (zbit 4 (Z 113 x1) (Z 113 (x1 + 1)))] Z (zri Q))
    refine z0 (op := 12) (a := 0) (b := 0) (by rfl) (by rfl) (?_ : TZ d 252 36 [some (.inr 100), some (.inl x1)] [.inl (x1 + 2), .inr 113, .inl (zbit 4 (Z 113 x1) (Z 113 (x1 + 1)))] Z (zri Q))
    obtain ⟨c5, v⟩ := v
    refine z_al (by rfl) ln_113 c5 (?_ : TZ d 252 37 [some (.inr 100), some (.inl x1)] [.inl (Z 113 (x1 + 2)), .inl (zbit 4 (Z 113 x1) (Z 113 (x1 + 1)))] Z (zri Q))
    refine z0 (op := 12) (a := 4) (b := 0) (by rfl) (by rfl) (?_ : TZ d 252 38 [some (.inr 100), some (.inl x1)] [.inl (zbit 4 (zbit 4 (Z 113 x1) (Z 113 (x1 + 1))) (Z 113 (x1 + 2)))] Z (zri Q))
    obtain ⟨c6, v1, v2⟩ := v
    refine z_if0 (a := 1) (t := 43) (by rfl) (by rfl) c6 (fun h7 => ?_) (fun h7 => ?_)
    · have v := v1 h7; clear v1 v2
      show TZ d 252 43 [some (.inr 100), some (.inl x1)] [] Z (zri Q)
      refine z0 (op := 11) (a := 1) (b := 1) (by rfl) (by rfl) (?_ : TZ d 252 46 [some (.inr 100), some (.inl (x1 + 1))] [] Z (zri Q))
      refine z_goto (t := 8) (by rfl) (by rfl) (?_ : TZ d 252 8 [some (.inr 100), some (.inl (x1 + 1))] [] Z (zri Q))
      exact v
    · have v := v2 h7; clear v1 v2
      show TZ d 252 41 [some (.inr 100), some (.inl x1)] [] Z (zri Q)
      refine z0 (op := 3) (a := 1) (b := 0) (by rfl) (by rfl) (?_ : TZ d 252 42 [some (.inr 100), some (.inl x1)] [.inl x1] Z (zri Q))
      exact z_reti (by rfl) (by rfl) v
theorem w253_0 {d : Nat} {Z : zM} {Q : Int → zM → Prop}
    (v : TZ d 253 2 [some (.inr 100), some (.inl 0)] [] Z (zri Q)) :
    TZ d 253 0 [some (.inr 100), none] [] Z (zri Q) := by
  refine z0 (op := 0) (a := 0) (b := 0) (by rfl) (by rfl) (?_ : TZ d 253 1 [some (.inr 100), none] [.inl 0] Z (zri Q))
  refine z0 (op := 7) (a := 1) (b := 0) (by rfl) (by rfl) (?_ : TZ d 253 2 [some (.inr 100), some (.inl 0)] [] Z (zri Q))
  exact v
theorem w253_2 {d : Nat} {x1 : Int} {Z : zM} {Q : Int → zM → Prop}
    (v : zR x1 ∧
      zR (Z 100 5) ∧
      ((Z 100 5) ≤ x1 → Q 1 Z) ∧
      (¬ (Z 100 5) ≤ x1 → ((0 ≤ x1 ∧ x1 < 8) ∧
          (0 ≤ x1 ∧ x1 < 8) ∧
          zR (Z 105 x1) ∧
          zR (Z 122 x1) ∧
          ((Z 105 x1) = (Z 122 x1) → TZ d 253 2 [some (.inr 100), some (.inl (x1 + 1))] [] Z (zri Q)) ∧
          (¬ (Z 105 x1) = (Z 122 x1) → Q 0 Z)))) :
    TZ d 253 2 [some (.inr 100), some (.inl x1)] [] Z (zri Q) := by
  refine z0 (op := 3) (a := 1) (b := 0) (by rfl) (by rfl) (?_ : TZ d 253 3 [some (.inr 100), some (.inl x1)] [.inl x1] Z (zri Q))
  refine z0 (op := 5) (a := 0) (b := 0) (by rfl) (by rfl) (?_ : TZ d 253 4 [some (.inr 100), some (.inl x1)] [.inr 100, .inl x1] Z (zri Q))
  refine z_fi (by rfl) fi111_100 (?_ : TZ d 253 7 [some (.inr 100), some (.inl x1)] [.inl (Z 100 5), .inl x1] Z (zri Q))
  obtain ⟨c1, c2, v1, v2⟩ := v
  refine z_if2 (a := 3) (t := 33) (by rfl) (by rfl) c1 c2 (fun h3 => ?_) (fun h3 => ?_)
  · have v := v1 h3; clear v1 v2
    show TZ d 253 33 [some (.inr 100), some (.inl x1)] [] Z (zri Q)
    refine z0 (op := 0) (a := 0) (b := 1) (by rfl) (by rfl) (?_ : TZ d 253 34 [some (.inr 100), some (.inl x1)] [.inl 1] Z (zri Q))
    exact z_retb (by rfl) (by rfl) (by decide) v
  · have v := v2 h3; clear v1 v2
    show TZ d 253 10 [some (.inr 100), some (.inl x1)] [] Z (zri Q)
    refine z0 (op := 5) (a := 0) (b := 0) (by rfl) (by rfl) (?_ : TZ d 253 11 [some (.inr 100), some (.inl x1)] [.inr 100] Z (zri Q))
    refine z_fr (by rfl) fr92_100 (?_ : TZ d 253 14 [some (.inr 100), some (.inl x1)] [.inr 105] Z (zri Q))
    refine z0 (op := 3) (a := 1) (b := 0) (by rfl) (by rfl) (?_ : TZ d 253 15 [some (.inr 100), some (.inl x1)] [.inl x1, .inr 105] Z (zri Q))
    obtain ⟨c4, v⟩ := v
    refine z_al (by rfl) ln_105 c4 (?_ : TZ d 253 16 [some (.inr 100), some (.inl x1)] [.inl (Z 105 x1)] Z (zri Q))
    refine z0 (op := 5) (a := 0) (b := 0) (by rfl) (by rfl) (?_ : TZ d 253 17 [some (.inr 100), some (.inl x1)] [.inr 100, .inl (Z 105 x1)] Z (zri Q))
    refine z_fr (by rfl) fr109_100 (?_ : TZ d 253 20 [some (.inr 100), some (.inl x1)] [.inr 122, .inl (Z 105 x1)] Z (zri Q))
    refine z0 (op := 3) (a := 1) (b := 0) (by rfl) (by rfl) (?_ : TZ d 253 21 [some (.inr 100), some (.inl x1)] [.inl x1, .inr 122, .inl (Z 105 x1)] Z (zri Q))
    obtain ⟨c5, v⟩ := v
    refine z_al (by rfl) ln_122 c5 (?_ : TZ d 253 22 [some (.inr 100), some (.inl x1)] [.inl (Z 122 x1), .inl (Z 105 x1)] Z (zri Q))
    obtain ⟨c6, c7, v1, v2⟩ := v
    refine z_if2 (a := 0) (t := 27) (by rfl) (by rfl) c6 c7 (fun h8 => ?_) (fun h8 => ?_)
    · have v := v1 h8; clear v1 v2
      show TZ d 253 27 [some (.inr 100), some (.inl x1)] [] Z (zri Q)
      refine z0 (op := 11) (a := 1) (b := 1) (by rfl) (by rfl) (?_ : TZ d 253 30 [some (.inr 100), some (.inl (x1 + 1))] [] Z (zri Q))
      refine z_goto (t := 2) (by rfl) (by rfl) (?_ : TZ d 253 2 [some (.inr 100), some (.inl (x1 + 1))] [] Z (zri Q))
      exact v
    · have v := v2 h8; clear v1 v2
      show TZ d 253 25 [some (.inr 100), some (.inl x1)] [] Z (zri Q)
      refine z0 (op := 0) (a := 0) (b := 0) (by rfl) (by rfl) (?_ : TZ d 253 26 [some (.inr 100), some (.inl x1)] [.inl 0] Z (zri Q))
      exact z_retb (by rfl) (by rfl) (by decide) v
theorem w254_0 {d : Nat} {Z : zM} {Q : Int → zM → Prop}
    (v : TZ d 254 2 [some (.inr 100), some (.inl 0), none] [] Z (zri Q)) :
    TZ d 254 0 [some (.inr 100), none, none] [] Z (zri Q) := by
  refine z0 (op := 0) (a := 0) (b := 0) (by rfl) (by rfl) (?_ : TZ d 254 1 [some (.inr 100), none, none] [.inl 0] Z (zri Q))
  refine z0 (op := 7) (a := 1) (b := 0) (by rfl) (by rfl) (?_ : TZ d 254 2 [some (.inr 100), some (.inl 0), none] [] Z (zri Q))
  exact v
theorem w254_2 {d : Nat} {x1 : Int} {Z : zM} {Q : Int → zM → Prop}
    (v : zR x1 ∧
      zR (Z 100 5) ∧
      ((Z 100 5) ≤ x1 → TV d 179 [.inr 100] Z (fun Z4 =>
          TZ (d + 1) 254 37 [some (.inr 100), some (.inl (-9)), some (.inl 1)] [] Z4 (zri Q))) ∧
      (¬ (Z 100 5) ≤ x1 → ((0 ≤ x1 ∧ x1 < 8) ∧
          (0 ≤ x1 ∧ x1 < 8) ∧
          ∀ Z7, Z7 = zup Z 122 x1 (Z 105 x1) →
          TZ (d + 1) 254 2 [some (.inr 100), some (.inl (x1 + 1)), none] [] Z7 (zri Q)))) :
    TZ (d + 1) 254 2 [some (.inr 100), some (.inl x1), none] [] Z (zri Q) := by
  refine z0 (op := 3) (a := 1) (b := 0) (by rfl) (by rfl) (?_ : TZ (d + 1) 254 3 [some (.inr 100), some (.inl x1), none] [.inl x1] Z (zri Q))
  refine z0 (op := 5) (a := 0) (b := 0) (by rfl) (by rfl) (?_ : TZ (d + 1) 254 4 [some (.inr 100), some (.inl x1), none] [.inr 100, .inl x1] Z (zri Q))
  refine z_fi (by rfl) fi111_100 (?_ : TZ (d + 1) 254 7 [some (.inr 100), some (.inl x1), none] [.inl (Z 100 5), .inl x1] Z (zri Q))
  obtain ⟨c1, c2, v1, v2⟩ := v
  refine z_if2 (a := 3) (t := 28) (by rfl) (by rfl) c1 c2 (fun h3 => ?_) (fun h3 => ?_)
  · have v := v1 h3; clear v1 v2
    show TZ (d + 1) 254 28 [some (.inr 100), some (.inl x1), none] [] Z (zri Q)
    refine z0 (op := 5) (a := 0) (b := 0) (by rfl) (by rfl) (?_ : TZ (d + 1) 254 29 [some (.inr 100), some (.inl x1), none] [.inr 100] Z (zri Q))
    refine z_vv (by rfl) (by rfl) cl_100 (TV.mono v fun Z4 v => ?_)
    show TZ (d + 1) 254 32 [some (.inr 100), some (.inl x1), none] [] Z4 (zri Q)
    refine z0 (op := 1) (a := 0) (b := (-9)) (by rfl) (by rfl) (?_ : TZ (d + 1) 254 34 [some (.inr 100), some (.inl x1), none] [.inl (-9)] Z4 (zri Q))
    refine z0 (op := 7) (a := 1) (b := 0) (by rfl) (by rfl) (?_ : TZ (d + 1) 254 35 [some (.inr 100), some (.inl (-9)), none] [] Z4 (zri Q))
    refine z0 (op := 0) (a := 0) (b := 1) (by rfl) (by rfl) (?_ : TZ (d + 1) 254 36 [some (.inr 100), some (.inl (-9)), none] [.inl 1] Z4 (zri Q))
    refine z0 (op := 7) (a := 2) (b := 0) (by rfl) (by rfl) (?_ : TZ (d + 1) 254 37 [some (.inr 100), some (.inl (-9)), some (.inl 1)] [] Z4 (zri Q))
    exact v
  · have v := v2 h3; clear v1 v2
    show TZ (d + 1) 254 10 [some (.inr 100), some (.inl x1), none] [] Z (zri Q)
    refine z0 (op := 5) (a := 0) (b := 0) (by rfl) (by rfl) (?_ : TZ (d + 1) 254 11 [some (.inr 100), some (.inl x1), none] [.inr 100] Z (zri Q))
    refine z_fr (by rfl) fr109_100 (?_ : TZ (d + 1) 254 14 [some (.inr 100), some (.inl x1), none] [.inr 122] Z (zri Q))
    refine z0 (op := 3) (a := 1) (b := 0) (by rfl) (by rfl) (?_ : TZ (d + 1) 254 15 [some (.inr 100), some (.inl x1), none] [.inl x1, .inr 122] Z (zri Q))
    refine z0 (op := 5) (a := 0) (b := 0) (by rfl) (by rfl) (?_ : TZ (d + 1) 254 16 [some (.inr 100), some (.inl x1), none] [.inr 100, .inl x1, .inr 122] Z (zri Q))
    refine z_fr (by rfl) fr92_100 (?_ : TZ (d + 1) 254 19 [some (.inr 100), some (.inl x1), none] [.inr 105, .inl x1, .inr 122] Z (zri Q))
    refine z0 (op := 3) (a := 1) (b := 0) (by rfl) (by rfl) (?_ : TZ (d + 1) 254 20 [some (.inr 100), some (.inl x1), none] [.inl x1, .inr 105, .inl x1, .inr 122] Z (zri Q))
    obtain ⟨c5, v⟩ := v
    refine z_al (by rfl) ln_105 c5 (?_ : TZ (d + 1) 254 21 [some (.inr 100), some (.inl x1), none] [.inl (Z 105 x1), .inl x1, .inr 122] Z (zri Q))
    obtain ⟨c6, v⟩ := v
    obtain ⟨Z7, eZ7⟩ : ∃ zz, zz = zup Z 122 x1 (Z 105 x1) := ⟨_, rfl⟩
    have v := v Z7 eZ7
    refine z_as (by rfl) ln_122 c6 ?_
    show TZ (d + 1) 254 22 [some (.inr 100), some (.inl x1), none] [] (zup Z 122 x1 (Z 105 x1)) _
    rw [← eZ7]
    refine z0 (op := 11) (a := 1) (b := 1) (by rfl) (by rfl) (?_ : TZ (d + 1) 254 25 [some (.inr 100), some (.inl (x1 + 1)), none] [] Z7 (zri Q))
    refine z_goto (t := 2) (by rfl) (by rfl) (?_ : TZ (d + 1) 254 2 [some (.inr 100), some (.inl (x1 + 1)), none] [] Z7 (zri Q))
    exact v
theorem w254_37 {d : Nat} {x1 x2 : Int} {Z : zM} {Q : Int → zM → Prop}
    (v : zR x2 ∧
      (61 ≤ x2 → TV d 180 [.inr 100] Z (fun Z3 =>
          Q x1 Z3)) ∧
      (¬ 61 ≤ x2 → (zR x1 ∧
          (0 ≤ x1 → TV d 180 [.inr 100] Z (fun Z6 =>
              Q x1 Z6)) ∧
          (¬ 0 ≤ x1 → TI d 188 [.inr 100, .inl (-1)] Z (fun r8 Z7 =>
              zR x2 ∧
                zR (Int.tmod x2 3) ∧
                ((Int.tmod x2 3) ≠ 0 → TZ (d + 1) 254 37 [some (.inr 100), some (.inl (-9)), some (.inl (x2 + 1))] [] Z7 (zri Q)) ∧
                (¬ (Int.tmod x2 3) ≠ 0 → TI d 253 [.inr 100] Z7 (fun r13 Z12 =>
                    zR r13 ∧
                      (r13 = 0 → TZ (d + 1) 254 37 [some (.inr 100), some (.inl (-9)), some (.inl (x2 + 1))] [] Z12 (zri Q)) ∧
                      (¬ r13 = 0 → TZ (d + 1) 254 37 [some (.inr 100), some (.inl x2), some (.inl (x2 + 1))] [] Z12 (zri Q))))))))) :
    TZ (d + 1) 254 37 [some (.inr 100), some (.inl x1), some (.inl x2)] [] Z (zri Q) := by
  refine z0 (op := 3) (a := 2) (b := 0) (by rfl) (by rfl) (?_ : TZ (d + 1) 254 38 [some (.inr 100), some (.inl x1), some (.inl x2)] [.inl x2] Z (zri Q))
  refine z0 (op := 1) (a := 0) (b := 61) (by rfl) (by rfl) (?_ : TZ (d + 1) 254 40 [some (.inr 100), some (.inl x1), some (.inl x2)] [.inl 61, .inl x2] Z (zri Q))
  obtain ⟨c1, v1, v2⟩ := v
  refine z_if2 (a := 3) (t := 79) (by rfl) (by rfl) c1 (by decide) (fun h2 => ?_) (fun h2 => ?_)
  · have v := v1 h2; clear v1 v2
    show TZ (d + 1) 254 79 [some (.inr 100), some (.inl x1), some (.inl x2)] [] Z (zri Q)
    refine z0 (op := 5) (a := 0) (b := 0) (by rfl) (by rfl) (?_ : TZ (d + 1) 254 80 [some (.inr 100), some (.inl x1), some (.inl x2)] [.inr 100] Z (zri Q))
    refine z_vv (by rfl) (by rfl) cl_100 (TV.mono v fun Z3 v => ?_)
    show TZ (d + 1) 254 83 [some (.inr 100), some (.inl x1), some (.inl x2)] [] Z3 (zri Q)
    refine z0 (op := 3) (a := 1) (b := 0) (by rfl) (by rfl) (?_ : TZ (d + 1) 254 84 [some (.inr 100), some (.inl x1), some (.inl x2)] [.inl x1] Z3 (zri Q))
    exact z_reti (by rfl) (by rfl) v
  · have v := v2 h2; clear v1 v2
    show TZ (d + 1) 254 43 [some (.inr 100), some (.inl x1), some (.inl x2)] [] Z (zri Q)
    refine z0 (op := 3) (a := 1) (b := 0) (by rfl) (by rfl) (?_ : TZ (d + 1) 254 44 [some (.inr 100), some (.inl x1), some (.inl x2)] [.inl x1] Z (zri Q))
    obtain ⟨c4, v1, v2⟩ := v
    refine z_if0 (a := 3) (t := 79) (by rfl) (by rfl) c4 (fun h5 => ?_) (fun h5 => ?_)
    · have v := v1 h5; clear v1 v2
      show TZ (d + 1) 254 79 [some (.inr 100), some (.inl x1), some (.inl x2)] [] Z (zri Q)
      refine z0 (op := 5) (a := 0) (b := 0) (by rfl) (by rfl) (?_ : TZ (d + 1) 254 80 [some (.inr 100), some (.inl x1), some (.inl x2)] [.inr 100] Z (zri Q))
      refine z_vv (by rfl) (by rfl) cl_100 (TV.mono v fun Z6 v => ?_)
      show TZ (d + 1) 254 83 [some (.inr 100), some (.inl x1), some (.inl x2)] [] Z6 (zri Q)
      refine z0 (op := 3) (a := 1) (b := 0) (by rfl) (by rfl) (?_ : TZ (d + 1) 254 84 [some (.inr 100), some (.inl x1), some (.inl x2)] [.inl x1] Z6 (zri Q))
      exact z_reti (by rfl) (by rfl) v
    · have v := v2 h5; clear v1 v2
      show TZ (d + 1) 254 47 [some (.inr 100), some (.inl x1), some (.inl x2)] [] Z (zri Q)
      refine z0 (op := 5) (a := 0) (b := 0) (by rfl) (by rfl) (?_ : TZ (d + 1) 254 48 [some (.inr 100), some (.inl x1), some (.inl x2)] [.inr 100] Z (zri Q))
      refine z0 (op := 0) (a := 0) (b := (-1)) (by rfl) (by rfl) (?_ : TZ (d + 1) 254 49 [some (.inr 100), some (.inl x1), some (.inl x2)] [.inl (-1), .inr 100] Z (zri Q))
      refine z_vi (by rfl) (by rfl) cl_100 (TI.mono v fun r8 Z7 v => ?_)
      show TZ (d + 1) 254 52 [some (.inr 100), some (.inl x1), some (.inl x2)] [.inl r8] Z7 (zri Q)
      refine z0 (op := 14) (a := 0) (b := 0) (by rfl) (by rfl) (?_ : TZ (d + 1) 254 53 [some (.inr 100), some (.inl x1), some (.inl x2)] [] Z7 (zri Q))
      refine z0 (op := 3) (a := 2) (b := 0) (by rfl) (by rfl) (?_ : TZ (d + 1) 254 54 [some (.inr 100), some (.inl x1), some (.inl x2)] [.inl x2] Z7 (zri Q))
      refine z0 (op := 0) (a := 0) (b := 3) (by rfl) (by rfl) (?_ : TZ (d + 1) 254 55 [some (.inr 100), some (.inl x1), some (.inl x2)] [.inl 3, .inl x2] Z7 (zri Q))
      obtain ⟨c9, v⟩ := v
      refine z_rem (by rfl) c9 (by decide) (?_ : TZ (d + 1) 254 56 [some (.inr 100), some (.inl x1), some (.inl x2)] [.inl (Int.tmod x2 3)] Z7 (zri Q))
      obtain ⟨c10, v1, v2⟩ := v
      refine z_if0 (a := 1) (t := 70) (by rfl) (by rfl) c10 (fun h11 => ?_) (fun h11 => ?_)
      · have v := v1 h11; clear v1 v2
        show TZ (d + 1) 254 70 [some (.inr 100), some (.inl x1), some (.inl x2)] [] Z7 (zri Q)
        refine z0 (op := 1) (a := 0) (b := (-9)) (by rfl) (by rfl) (?_ : TZ (d + 1) 254 72 [some (.inr 100), some (.inl x1), some (.inl x2)] [.inl (-9)] Z7 (zri Q))
        refine z0 (op := 7) (a := 1) (b := 0) (by rfl) (by rfl) (?_ : TZ (d + 1) 254 73 [some (.inr 100), some (.inl (-9)), some (.inl x2)] [] Z7 (zri Q))
        refine z0 (op := 11) (a := 2) (b := 1) (by rfl) (by rfl) (?_ : TZ (d + 1) 254 76 [some (.inr 100), some (.inl (-9)), some (.inl (x2 + 1))] [] Z7 (zri Q))
        refine z_goto (t := 37) (by rfl) (by rfl) (?_ : TZ (d + 1) 254 37 [some (.inr 100), some (.inl (-9)), some (.inl (x2 + 1))] [] Z7 (zri Q))
        exact v
      · have v := v2 h11; clear v1 v2
        show TZ (d + 1) 254 59 [some (.inr 100), some (.inl x1), some (.inl x2)] [] Z7 (zri Q)
        refine z0 (op := 5) (a := 0) (b := 0) (by rfl) (by rfl) (?_ : TZ (d + 1) 254 60 [some (.inr 100), some (.inl x1), some (.inl x2)] [.inr 100] Z7 (zri Q))
        refine z_vi (by rfl) (by rfl) cl_100 (TI.mono v fun r13 Z12 v => ?_)
        show TZ (d + 1) 254 63 [some (.inr 100), some (.inl x1), some (.inl x2)] [.inl r13] Z12 (zri Q)
        obtain ⟨c14, v1, v2⟩ := v
        refine z_if0 (a := 0) (t := 70) (by rfl) (by rfl) c14 (fun h15 => ?_) (fun h15 => ?_)
        · have v := v1 h15; clear v1 v2
          show TZ (d + 1) 254 70 [some (.inr 100), some (.inl x1), some (.inl x2)] [] Z12 (zri Q)
          refine z0 (op := 1) (a := 0) (b := (-9)) (by rfl) (by rfl) (?_ : TZ (d + 1) 254 72 [some (.inr 100), some (.inl x1), some (.inl x2)] [.inl (-9)] Z12 (zri Q))
          refine z0 (op := 7) (a := 1) (b := 0) (by rfl) (by rfl) (?_ : TZ (d + 1) 254 73 [some (.inr 100), some (.inl (-9)), some (.inl x2)] [] Z12 (zri Q))
          refine z0 (op := 11) (a := 2) (b := 1) (by rfl) (by rfl) (?_ : TZ (d + 1) 254 76 [some (.inr 100), some (.inl (-9)), some (.inl (x2 + 1))] [] Z12 (zri Q))
          refine z_goto (t := 37) (by rfl) (by rfl) (?_ : TZ (d + 1) 254 37 [some (.inr 100), some (.inl (-9)), some (.inl (x2 + 1))] [] Z12 (zri Q))
          exact v
        · have v := v2 h15; clear v1 v2
          show TZ (d + 1) 254 66 [some (.inr 100), some (.inl x1), some (.inl x2)] [] Z12 (zri Q)
          refine z0 (op := 3) (a := 2) (b := 0) (by rfl) (by rfl) (?_ : TZ (d + 1) 254 67 [some (.inr 100), some (.inl x1), some (.inl x2)] [.inl x2] Z12 (zri Q))
          refine z_goto (t := 72) (by rfl) (by rfl) (?_ : TZ (d + 1) 254 72 [some (.inr 100), some (.inl x1), some (.inl x2)] [.inl x2] Z12 (zri Q))
          refine z0 (op := 7) (a := 1) (b := 0) (by rfl) (by rfl) (?_ : TZ (d + 1) 254 73 [some (.inr 100), some (.inl x2), some (.inl x2)] [] Z12 (zri Q))
          refine z0 (op := 11) (a := 2) (b := 1) (by rfl) (by rfl) (?_ : TZ (d + 1) 254 76 [some (.inr 100), some (.inl x2), some (.inl (x2 + 1))] [] Z12 (zri Q))
          refine z_goto (t := 37) (by rfl) (by rfl) (?_ : TZ (d + 1) 254 37 [some (.inr 100), some (.inl x2), some (.inl (x2 + 1))] [] Z12 (zri Q))
          exact v
theorem w255_0 {d : Nat} {x1 x2 : Int} {Z : zM} {Q : Int → zM → Prop}
    (v : TI d 157 [.inr 100, .inl x1] Z (fun r2 Z1 =>
      zR r2 ∧
        (r2 ≠ 0 → TI d 155 [.inl x2, .inl 0, .inl 1] Z1 (fun r6 Z5 =>
            zR r6 ∧
              (r6 ≠ 0 → TV d 179 [.inr 100] Z5 (fun Z9 =>
                  TZ (d + 1) 255 51 [some (.inr 100), some (.inl x1), some (.inl x2), some (.inl 0), some (.inl (-1)), some (.inl 0), some (.inl 0)] [] Z9 (zri Q))) ∧
              (¬ r6 ≠ 0 → TI d 154 [.inr 100, .inl (-2)] Z5 (fun r11 Z10 =>
                  Q r11 Z10)))) ∧
        (¬ r2 ≠ 0 → TI d 154 [.inr 100, .inl (-1)] Z1 (fun r13 Z12 =>
            Q r13 Z12)))) :
    TZ (d + 1) 255 0 [some (.inr 100), some (.inl x1), some (.inl x2), none, none, none, none] [] Z (zri Q) := by
  refine z0 (op := 5) (a := 0) (b := 0) (by rfl) (by rfl) (?_ : TZ (d + 1) 255 1 [some (.inr 100), some (.inl x1), some (.inl x2), none, none, none, none] [.inr 100] Z (zri Q))
  refine z0 (op := 3) (a := 1) (b := 0) (by rfl) (by rfl) (?_ : TZ (d + 1) 255 2 [some (.inr 100), some (.inl x1), some (.inl x2), none, none, none, none] [.inl x1, .inr 100] Z (zri Q))
  refine z_vi (by rfl) (by rfl) cl_100 (TI.mono v fun r2 Z1 v => ?_)
  show TZ (d + 1) 255 5 [some (.inr 100), some (.inl x1), some (.inl x2), none, none, none, none] [.inl r2] Z1 (zri Q)
  obtain ⟨c3, v1, v2⟩ := v
  refine z_if0 (a := 1) (t := 12) (by rfl) (by rfl) c3 (fun h4 => ?_) (fun h4 => ?_)
  · have v := v1 h4; clear v1 v2
    show TZ (d + 1) 255 12 [some (.inr 100), some (.inl x1), some (.inl x2), none, none, none, none] [] Z1 (zri Q)
    refine z0 (op := 3) (a := 2) (b := 0) (by rfl) (by rfl) (?_ : TZ (d + 1) 255 13 [some (.inr 100), some (.inl x1), some (.inl x2), none, none, none, none] [.inl x2] Z1 (zri Q))
    refine z0 (op := 0) (a := 0) (b := 0) (by rfl) (by rfl) (?_ : TZ (d + 1) 255 14 [some (.inr 100), some (.inl x1), some (.inl x2), none, none, none, none] [.inl 0, .inl x2] Z1 (zri Q))
    refine z0 (op := 0) (a := 0) (b := 1) (by rfl) (by rfl) (?_ : TZ (d + 1) 255 15 [some (.inr 100), some (.inl x1), some (.inl x2), none, none, none, none] [.inl 1, .inl 0, .inl x2] Z1 (zri Q))
    refine z_si (by rfl) (by rfl) (TI.mono v fun r6 Z5 v => ?_)
    show TZ (d + 1) 255 18 [some (.inr 100), some (.inl x1), some (.inl x2), none, none, none, none] [.inl r6] Z5 (zri Q)
    obtain ⟨c7, v1, v2⟩ := v
    refine z_if0 (a := 1) (t := 26) (by rfl) (by rfl) c7 (fun h8 => ?_) (fun h8 => ?_)
    · have v := v1 h8; clear v1 v2
      show TZ (d + 1) 255 26 [some (.inr 100), some (.inl x1), some (.inl x2), none, none, none, none] [] Z5 (zri Q)
      refine z0 (op := 0) (a := 0) (b := 0) (by rfl) (by rfl) (?_ : TZ (d + 1) 255 27 [some (.inr 100), some (.inl x1), some (.inl x2), none, none, none, none] [.inl 0] Z5 (zri Q))
      refine z0 (op := 7) (a := 3) (b := 0) (by rfl) (by rfl) (?_ : TZ (d + 1) 255 28 [some (.inr 100), some (.inl x1), some (.inl x2), some (.inl 0), none, none, none] [] Z5 (zri Q))
      refine z0 (op := 3) (a := 3) (b := 0) (by rfl) (by rfl) (?_ : TZ (d + 1) 255 29 [some (.inr 100), some (.inl x1), some (.inl x2), some (.inl 0), none, none, none] [.inl 0] Z5 (zri Q))
      refine z_if0 (a := 0) (t := 38) (by rfl) (by rfl) (by decide) (fun _ => ?_) (fun h => absurd (show (0 : Int) = (0 : Int) by decide) h)
      show TZ (d + 1) 255 38 [some (.inr 100), some (.inl x1), some (.inl x2), some (.inl 0), none, none, none] [] Z5 (zri Q)
      refine z0 (op := 5) (a := 0) (b := 0) (by rfl) (by rfl) (?_ : TZ (d + 1) 255 39 [some (.inr 100), some (.inl x1), some (.inl x2), some (.inl 0), none, none, none] [.inr 100] Z5 (zri Q))
      refine z_vv (by rfl) (by rfl) cl_100 (TV.mono v fun Z9 v => ?_)
      show TZ (d + 1) 255 42 [some (.inr 100), some (.inl x1), some (.inl x2), some (.inl 0), none, none, none] [] Z9 (zri Q)
      refine z0 (op := 0) (a := 0) (b := (-1)) (by rfl) (by rfl) (?_ : TZ (d + 1) 255 43 [some (.inr 100), some (.inl x1), some (.inl x2), some (.inl 0), none, none, none] [.inl (-1)] Z9 (zri Q))
      refine z0 (op := 8) (a := 4) (b := 0) (by rfl) (by rfl) (?_ : TZ (d + 1) 255 45 [some (.inr 100), some (.inl x1), some (.inl x2), some (.inl 0), some (.inl (-1)), none, none] [] Z9 (zri Q))
      refine z0 (op := 0) (a := 0) (b := 0) (by rfl) (by rfl) (?_ : TZ (d + 1) 255 46 [some (.inr 100), some (.inl x1), some (.inl x2), some (.inl 0), some (.inl (-1)), none, none] [.inl 0] Z9 (zri Q))
      refine z0 (op := 8) (a := 5) (b := 0) (by rfl) (by rfl) (?_ : TZ (d + 1) 255 48 [some (.inr 100), some (.inl x1), some (.inl x2), some (.inl 0), some (.inl (-1)), some (.inl 0), none] [] Z9 (zri Q))
      refine z0 (op := 0) (a := 0) (b := 0) (by rfl) (by rfl) (?_ : TZ (d + 1) 255 49 [some (.inr 100), some (.inl x1), some (.inl x2), some (.inl 0), some (.inl (-1)), some (.inl 0), none] [.inl 0] Z9 (zri Q))
      refine z0 (op := 8) (a := 6) (b := 0) (by rfl) (by rfl) (?_ : TZ (d + 1) 255 51 [some (.inr 100), some (.inl x1), some (.inl x2), some (.inl 0), some (.inl (-1)), some (.inl 0), some (.inl 0)] [] Z9 (zri Q))
      exact v
    · have v := v2 h8; clear v1 v2
      show TZ (d + 1) 255 21 [some (.inr 100), some (.inl x1), some (.inl x2), none, none, none, none] [] Z5 (zri Q)
      refine z0 (op := 1) (a := 0) (b := (-2)) (by rfl) (by rfl) (?_ : TZ (d + 1) 255 23 [some (.inr 100), some (.inl x1), some (.inl x2), none, none, none, none] [.inl (-2)] Z5 (zri Q))
      refine z_goto (t := 27) (by rfl) (by rfl) (?_ : TZ (d + 1) 255 27 [some (.inr 100), some (.inl x1), some (.inl x2), none, none, none, none] [.inl (-2)] Z5 (zri Q))
      refine z0 (op := 7) (a := 3) (b := 0) (by rfl) (by rfl) (?_ : TZ (d + 1) 255 28 [some (.inr 100), some (.inl x1), some (.inl x2), some (.inl (-2)), none, none, none] [] Z5 (zri Q))
      refine z0 (op := 3) (a := 3) (b := 0) (by rfl) (by rfl) (?_ : TZ (d + 1) 255 29 [some (.inr 100), some (.inl x1), some (.inl x2), some (.inl (-2)), none, none, none] [.inl (-2)] Z5 (zri Q))
      refine z_if0 (a := 0) (t := 38) (by rfl) (by rfl) (by decide) (fun h => absurd (show ((-2) : Int) = (0 : Int) from h) (by decide)) (fun _ => ?_)
      show TZ (d + 1) 255 32 [some (.inr 100), some (.inl x1), some (.inl x2), some (.inl (-2)), none, none, none] [] Z5 (zri Q)
      refine z0 (op := 5) (a := 0) (b := 0) (by rfl) (by rfl) (?_ : TZ (d + 1) 255 33 [some (.inr 100), some (.inl x1), some (.inl x2), some (.inl (-2)), none, none, none] [.inr 100] Z5 (zri Q))
      refine z0 (op := 3) (a := 3) (b := 0) (by rfl) (by rfl) (?_ : TZ (d + 1) 255 34 [some (.inr 100), some (.inl x1), some (.inl x2), some (.inl (-2)), none, none, none] [.inl (-2), .inr 100] Z5 (zri Q))
      refine z_vi (by rfl) (by rfl) cl_100 (TI.mono v fun r11 Z10 v => ?_)
      show TZ (d + 1) 255 37 [some (.inr 100), some (.inl x1), some (.inl x2), some (.inl (-2)), none, none, none] [.inl r11] Z10 (zri Q)
      exact z_reti (by rfl) (by rfl) v
  · have v := v2 h4; clear v1 v2
    show TZ (d + 1) 255 8 [some (.inr 100), some (.inl x1), some (.inl x2), none, none, none, none] [] Z1 (zri Q)
    refine z0 (op := 0) (a := 0) (b := (-1)) (by rfl) (by rfl) (?_ : TZ (d + 1) 255 9 [some (.inr 100), some (.inl x1), some (.inl x2), none, none, none, none] [.inl (-1)] Z1 (zri Q))
    refine z_goto (t := 27) (by rfl) (by rfl) (?_ : TZ (d + 1) 255 27 [some (.inr 100), some (.inl x1), some (.inl x2), none, none, none, none] [.inl (-1)] Z1 (zri Q))
    refine z0 (op := 7) (a := 3) (b := 0) (by rfl) (by rfl) (?_ : TZ (d + 1) 255 28 [some (.inr 100), some (.inl x1), some (.inl x2), some (.inl (-1)), none, none, none] [] Z1 (zri Q))
    refine z0 (op := 3) (a := 3) (b := 0) (by rfl) (by rfl) (?_ : TZ (d + 1) 255 29 [some (.inr 100), some (.inl x1), some (.inl x2), some (.inl (-1)), none, none, none] [.inl (-1)] Z1 (zri Q))
    refine z_if0 (a := 0) (t := 38) (by rfl) (by rfl) (by decide) (fun h => absurd (show ((-1) : Int) = (0 : Int) from h) (by decide)) (fun _ => ?_)
    show TZ (d + 1) 255 32 [some (.inr 100), some (.inl x1), some (.inl x2), some (.inl (-1)), none, none, none] [] Z1 (zri Q)
    refine z0 (op := 5) (a := 0) (b := 0) (by rfl) (by rfl) (?_ : TZ (d + 1) 255 33 [some (.inr 100), some (.inl x1), some (.inl x2), some (.inl (-1)), none, none, none] [.inr 100] Z1 (zri Q))
    refine z0 (op := 3) (a := 3) (b := 0) (by rfl) (by rfl) (?_ : TZ (d + 1) 255 34 [some (.inr 100), some (.inl x1), some (.inl x2), some (.inl (-1)), none, none, none] [.inl (-1), .inr 100] Z1 (zri Q))
    refine z_vi (by rfl) (by rfl) cl_100 (TI.mono v fun r13 Z12 v => ?_)
    show TZ (d + 1) 255 37 [some (.inr 100), some (.inl x1), some (.inl x2), some (.inl (-1)), none, none, none] [.inl r13] Z12 (zri Q)
    exact z_reti (by rfl) (by rfl) v
theorem w255_51 {d : Nat} {x1 x2 x3 x4 x5 x6 : Int} {Z : zM} {Q : Int → zM → Prop}
    (v : zR x6 ∧
      (20 < x6 → TV d 180 [.inr 100] Z (fun Z3 =>
          zR x2 ∧
            (x2 ≠ 0 → Q x5 Z3) ∧
            (¬ x2 ≠ 0 → Q x4 Z3))) ∧
      (¬ 20 < x6 → TI d 159 [.inr 100, .inl x1] Z (fun r7 Z6 =>
          zR r7 ∧
            zR x4 ∧
            (r7 ≤ x4 → TI d 188 [.inr 100, .inl x1] Z6 (fun r12 Z11 =>
                TZ (d + 1) 255 51 [some (.inr 100), some (.inl x1), some (.inl x2), some (.inl x3), some (.inl x4), some (.inl x5), some (.inl (x6 + 1))] [] Z11 (zri Q))) ∧
            (¬ r7 ≤ x4 → TI d 159 [.inr 100, .inl x1] Z6 (fun r14 Z13 =>
                TI d 188 [.inr 100, .inl x1] Z13 (fun r16 Z15 =>
                  TZ (d + 1) 255 51 [some (.inr 100), some (.inl x1), some (.inl x2), some (.inl x3), some (.inl r14), some (.inl x6), some (.inl (x6 + 1))] [] Z15 (zri Q))))))) :
    TZ (d + 1) 255 51 [some (.inr 100), some (.inl x1), some (.inl x2), some (.inl x3), some (.inl x4), some (.inl x5), some (.inl x6)] [] Z (zri Q) := by
  refine z0 (op := 4) (a := 6) (b := 0) (by rfl) (by rfl) (?_ : TZ (d + 1) 255 53 [some (.inr 100), some (.inl x1), some (.inl x2), some (.inl x3), some (.inl x4), some (.inl x5), some (.inl x6)] [.inl x6] Z (zri Q))
  refine z0 (op := 1) (a := 0) (b := 20) (by rfl) (by rfl) (?_ : TZ (d + 1) 255 55 [some (.inr 100), some (.inl x1), some (.inl x2), some (.inl x3), some (.inl x4), some (.inl x5), some (.inl x6)] [.inl 20, .inl x6] Z (zri Q))
  obtain ⟨c1, v1, v2⟩ := v
  refine z_if2 (a := 4) (t := 91) (by rfl) (by rfl) c1 (by decide) (fun h2 => ?_) (fun h2 => ?_)
  · have v := v1 h2; clear v1 v2
    show TZ (d + 1) 255 91 [some (.inr 100), some (.inl x1), some (.inl x2), some (.inl x3), some (.inl x4), some (.inl x5), some (.inl x6)] [] Z (zri Q)
    refine z0 (op := 5) (a := 0) (b := 0) (by rfl) (by rfl) (?_ : TZ (d + 1) 255 92 [some (.inr 100), some (.inl x1), some (.inl x2), some (.inl x3), some (.inl x4), some (.inl x5), some (.inl x6)] [.inr 100] Z (zri Q))
    refine z_vv (by rfl) (by rfl) cl_100 (TV.mono v fun Z3 v => ?_)
    show TZ (d + 1) 255 95 [some (.inr 100), some (.inl x1), some (.inl x2), some (.inl x3), some (.inl x4), some (.inl x5), some (.inl x6)] [] Z3 (zri Q)
    refine z0 (op := 3) (a := 2) (b := 0) (by rfl) (by rfl) (?_ : TZ (d + 1) 255 96 [some (.inr 100), some (.inl x1), some (.inl x2), some (.inl x3), some (.inl x4), some (.inl x5), some (.inl x6)] [.inl x2] Z3 (zri Q))
    obtain ⟨c4, v1, v2⟩ := v
    refine z_if0 (a := 1) (t := 104) (by rfl) (by rfl) c4 (fun h5 => ?_) (fun h5 => ?_)
    · have v := v1 h5; clear v1 v2
      show TZ (d + 1) 255 104 [some (.inr 100), some (.inl x1), some (.inl x2), some (.inl x3), some (.inl x4), some (.inl x5), some (.inl x6)] [] Z3 (zri Q)
      refine z0 (op := 4) (a := 5) (b := 0) (by rfl) (by rfl) (?_ : TZ (d + 1) 255 106 [some (.inr 100), some (.inl x1), some (.inl x2), some (.inl x3), some (.inl x4), some (.inl x5), some (.inl x6)] [.inl x5] Z3 (zri Q))
      exact z_reti (by rfl) (by rfl) v
    · have v := v2 h5; clear v1 v2
      show TZ (d + 1) 255 99 [some (.inr 100), some (.inl x1), some (.inl x2), some (.inl x3), some (.inl x4), some (.inl x5), some (.inl x6)] [] Z3 (zri Q)
      refine z0 (op := 4) (a := 4) (b := 0) (by rfl) (by rfl) (?_ : TZ (d + 1) 255 101 [some (.inr 100), some (.inl x1), some (.inl x2), some (.inl x3), some (.inl x4), some (.inl x5), some (.inl x6)] [.inl x4] Z3 (zri Q))
      refine z_goto (t := 106) (by rfl) (by rfl) (?_ : TZ (d + 1) 255 106 [some (.inr 100), some (.inl x1), some (.inl x2), some (.inl x3), some (.inl x4), some (.inl x5), some (.inl x6)] [.inl x4] Z3 (zri Q))
      exact z_reti (by rfl) (by rfl) v
  · have v := v2 h2; clear v1 v2
    show TZ (d + 1) 255 58 [some (.inr 100), some (.inl x1), some (.inl x2), some (.inl x3), some (.inl x4), some (.inl x5), some (.inl x6)] [] Z (zri Q)
    refine z0 (op := 5) (a := 0) (b := 0) (by rfl) (by rfl) (?_ : TZ (d + 1) 255 59 [some (.inr 100), some (.inl x1), some (.inl x2), some (.inl x3), some (.inl x4), some (.inl x5), some (.inl x6)] [.inr 100] Z (zri Q))
    refine z0 (op := 3) (a := 1) (b := 0) (by rfl) (by rfl) (?_ : TZ (d + 1) 255 60 [some (.inr 100), some (.inl x1), some (.inl x2), some (.inl x3), some (.inl x4), some (.inl x5), some (.inl x6)] [.inl x1, .inr 100] Z (zri Q))
    refine z_vi (by rfl) (by rfl) cl_100 (TI.mono v fun r7 Z6 v => ?_)
    show TZ (d + 1) 255 63 [some (.inr 100), some (.inl x1), some (.inl x2), some (.inl x3), some (.inl x4), some (.inl x5), some (.inl x6)] [.inl r7] Z6 (zri Q)
    refine z0 (op := 4) (a := 4) (b := 0) (by rfl) (by rfl) (?_ : TZ (d + 1) 255 65 [some (.inr 100), some (.inl x1), some (.inl x2), some (.inl x3), some (.inl x4), some (.inl x5), some (.inl x6)] [.inl x4, .inl r7] Z6 (zri Q))
    obtain ⟨c8, c9, v1, v2⟩ := v
    refine z_if2 (a := 5) (t := 79) (by rfl) (by rfl) c8 c9 (fun h10 => ?_) (fun h10 => ?_)
    · have v := v1 h10; clear v1 v2
      show TZ (d + 1) 255 79 [some (.inr 100), some (.inl x1), some (.inl x2), some (.inl x3), some (.inl x4), some (.inl x5), some (.inl x6)] [] Z6 (zri Q)
      refine z0 (op := 5) (a := 0) (b := 0) (by rfl) (by rfl) (?_ : TZ (d + 1) 255 80 [some (.inr 100), some (.inl x1), some (.inl x2), some (.inl x3), some (.inl x4), some (.inl x5), some (.inl x6)] [.inr 100] Z6 (zri Q))
      refine z0 (op := 3) (a := 1) (b := 0) (by rfl) (by rfl) (?_ : TZ (d + 1) 255 81 [some (.inr 100), some (.inl x1), some (.inl x2), some (.inl x3), some (.inl x4), some (.inl x5), some (.inl x6)] [.inl x1, .inr 100] Z6 (zri Q))
      refine z_vi (by rfl) (by rfl) cl_100 (TI.mono v fun r12 Z11 v => ?_)
      show TZ (d + 1) 255 84 [some (.inr 100), some (.inl x1), some (.inl x2), some (.inl x3), some (.inl x4), some (.inl x5), some (.inl x6)] [.inl r12] Z11 (zri Q)
      refine z0 (op := 14) (a := 0) (b := 0) (by rfl) (by rfl) (?_ : TZ (d + 1) 255 85 [some (.inr 100), some (.inl x1), some (.inl x2), some (.inl x3), some (.inl x4), some (.inl x5), some (.inl x6)] [] Z11 (zri Q))
      refine z0 (op := 11) (a := 6) (b := 1) (by rfl) (by rfl) (?_ : TZ (d + 1) 255 88 [some (.inr 100), some (.inl x1), some (.inl x2), some (.inl x3), some (.inl x4), some (.inl x5), some (.inl (x6 + 1))] [] Z11 (zri Q))
      refine z_goto (t := 51) (by rfl) (by rfl) (?_ : TZ (d + 1) 255 51 [some (.inr 100), some (.inl x1), some (.inl x2), some (.inl x3), some (.inl x4), some (.inl x5), some (.inl (x6 + 1))] [] Z11 (zri Q))
      exact v
    · have v := v2 h10; clear v1 v2
      show TZ (d + 1) 255 68 [some (.inr 100), some (.inl x1), some (.inl x2), some (.inl x3), some (.inl x4), some (.inl x5), some (.inl x6)] [] Z6 (zri Q)
      refine z0 (op := 5) (a := 0) (b := 0) (by rfl) (by rfl) (?_ : TZ (d + 1) 255 69 [some (.inr 100), some (.inl x1), some (.inl x2), some (.inl x3), some (.inl x4), some (.inl x5), some (.inl x6)] [.inr 100] Z6 (zri Q))
      refine z0 (op := 3) (a := 1) (b := 0) (by rfl) (by rfl) (?_ : TZ (d + 1) 255 70 [some (.inr 100), some (.inl x1), some (.inl x2), some (.inl x3), some (.inl x4), some (.inl x5), some (.inl x6)] [.inl x1, .inr 100] Z6 (zri Q))
      refine z_vi (by rfl) (by rfl) cl_100 (TI.mono v fun r14 Z13 v => ?_)
      show TZ (d + 1) 255 73 [some (.inr 100), some (.inl x1), some (.inl x2), some (.inl x3), some (.inl x4), some (.inl x5), some (.inl x6)] [.inl r14] Z13 (zri Q)
      refine z0 (op := 8) (a := 4) (b := 0) (by rfl) (by rfl) (?_ : TZ (d + 1) 255 75 [some (.inr 100), some (.inl x1), some (.inl x2), some (.inl x3), some (.inl r14), some (.inl x5), some (.inl x6)] [] Z13 (zri Q))
      refine z0 (op := 4) (a := 6) (b := 0) (by rfl) (by rfl) (?_ : TZ (d + 1) 255 77 [some (.inr 100), some (.inl x1), some (.inl x2), some (.inl x3), some (.inl r14), some (.inl x5), some (.inl x6)] [.inl x6] Z13 (zri Q))
      refine z0 (op := 8) (a := 5) (b := 0) (by rfl) (by rfl) (?_ : TZ (d + 1) 255 79 [some (.inr 100), some (.inl x1), some (.inl x2), some (.inl x3), some (.inl r14), some (.inl x6), some (.inl x6)] [] Z13 (zri Q))
      refine z0 (op := 5) (a := 0) (b := 0) (by rfl) (by rfl) (?_ : TZ (d + 1) 255 80 [some (.inr 100), some (.inl x1), some (.inl x2), some (.inl x3), some (.inl r14), some (.inl x6), some (.inl x6)] [.inr 100] Z13 (zri Q))
      refine z0 (op := 3) (a := 1) (b := 0) (by rfl) (by rfl) (?_ : TZ (d + 1) 255 81 [some (.inr 100), some (.inl x1), some (.inl x2), some (.inl x3), some (.inl r14), some (.inl x6), some (.inl x6)] [.inl x1, .inr 100] Z13 (zri Q))
      refine z_vi (by rfl) (by rfl) cl_100 (TI.mono v fun r16 Z15 v => ?_)
      show TZ (d + 1) 255 84 [some (.inr 100), some (.inl x1), some (.inl x2), some (.inl x3), some (.inl r14), some (.inl x6), some (.inl x6)] [.inl r16] Z15 (zri Q)
      refine z0 (op := 14) (a := 0) (b := 0) (by rfl) (by rfl) (?_ : TZ (d + 1) 255 85 [some (.inr 100), some (.inl x1), some (.inl x2), some (.inl x3), some (.inl r14), some (.inl x6), some (.inl x6)] [] Z15 (zri Q))
      refine z0 (op := 11) (a := 6) (b := 1) (by rfl) (by rfl) (?_ : TZ (d + 1) 255 88 [some (.inr 100), some (.inl x1), some (.inl x2), some (.inl x3), some (.inl r14), some (.inl x6), some (.inl (x6 + 1))] [] Z15 (zri Q))
      refine z_goto (t := 51) (by rfl) (by rfl) (?_ : TZ (d + 1) 255 51 [some (.inr 100), some (.inl x1), some (.inl x2), some (.inl x3), some (.inl r14), some (.inl x6), some (.inl (x6 + 1))] [] Z15 (zri Q))
      exact v
theorem w256_0 {d : Nat} {Z : zM} {Q : Int → zM → Prop}
    (v : TI d 162 [.inr 100] Z (fun r2 Z1 =>
      TZ (d + 1) 256 10 [some (.inr 100), some (.inl r2), some (.inl (-9)), some (.inl 0), none] [] Z1 (zri Q))) :
    TZ (d + 1) 256 0 [some (.inr 100), none, none, none, none] [] Z (zri Q) := by
  refine z0 (op := 5) (a := 0) (b := 0) (by rfl) (by rfl) (?_ : TZ (d + 1) 256 1 [some (.inr 100), none, none, none, none] [.inr 100] Z (zri Q))
  refine z_vi (by rfl) (by rfl) cl_100 (TI.mono v fun r2 Z1 v => ?_)
  show TZ (d + 1) 256 4 [some (.inr 100), none, none, none, none] [.inl r2] Z1 (zri Q)
  refine z0 (op := 7) (a := 1) (b := 0) (by rfl) (by rfl) (?_ : TZ (d + 1) 256 5 [some (.inr 100), some (.inl r2), none, none, none] [] Z1 (zri Q))
  refine z0 (op := 1) (a := 0) (b := (-9)) (by rfl) (by rfl) (?_ : TZ (d + 1) 256 7 [some (.inr 100), some (.inl r2), none, none, none] [.inl (-9)] Z1 (zri Q))
  refine z0 (op := 7) (a := 2) (b := 0) (by rfl) (by rfl) (?_ : TZ (d + 1) 256 8 [some (.inr 100), some (.inl r2), some (.inl (-9)), none, none] [] Z1 (zri Q))
  refine z0 (op := 0) (a := 0) (b := 0) (by rfl) (by rfl) (?_ : TZ (d + 1) 256 9 [some (.inr 100), some (.inl r2), some (.inl (-9)), none, none] [.inl 0] Z1 (zri Q))
  refine z0 (op := 7) (a := 3) (b := 0) (by rfl) (by rfl) (?_ : TZ (d + 1) 256 10 [some (.inr 100), some (.inl r2), some (.inl (-9)), some (.inl 0), none] [] Z1 (zri Q))
  exact v
theorem w256_10 {d : Nat} {x1 x2 x3 : Int} {o4 : Option zV} {Z : zM} {Q : Int → zM → Prop}
    (v : zR x3 ∧
      zR (Z 100 6) ∧
      ((Z 100 6) ≤ x3 → Q x2 Z) ∧
      (¬ (Z 100 6) ≤ x3 → TV d 179 [.inr 100] Z (fun Z4 =>
          TI d 191 [.inr 100, .inl x3] Z4 (fun r6 Z5 =>
            TI d 162 [.inr 100] Z5 (fun r8 Z7 =>
              TV d 180 [.inr 100] Z7 (fun Z9 =>
                zR r8 ∧
                  zR x1 ∧
                  (r8 < x1 → TZ (d + 1) 256 10 [some (.inr 100), some (.inl r8), some (.inl x3), some (.inl (x3 + 1)), some (.inl r8)] [] Z9 (zri Q)) ∧
                  (¬ r8 < x1 → TZ (d + 1) 256 10 [some (.inr 100), some (.inl x1), some (.inl x2), some (.inl (x3 + 1)), some (.inl r8)] [] Z9 (zri Q)))))))) :
    TZ (d + 1) 256 10 [some (.inr 100), some (.inl x1), some (.inl x2), some (.inl x3), o4] [] Z (zri Q) := by
  refine z0 (op := 3) (a := 3) (b := 0) (by rfl) (by rfl) (?_ : TZ (d + 1) 256 11 [some (.inr 100), some (.inl x1), some (.inl x2), some (.inl x3), o4] [.inl x3] Z (zri Q))
  refine z0 (op := 5) (a := 0) (b := 0) (by rfl) (by rfl) (?_ : TZ (d + 1) 256 12 [some (.inr 100), some (.inl x1), some (.inl x2), some (.inl x3), o4] [.inr 100, .inl x3] Z (zri Q))
  refine z_fi (by rfl) fi110_100 (?_ : TZ (d + 1) 256 15 [some (.inr 100), some (.inl x1), some (.inl x2), some (.inl x3), o4] [.inl (Z 100 6), .inl x3] Z (zri Q))
  obtain ⟨c1, c2, v1, v2⟩ := v
  refine z_if2 (a := 3) (t := 58) (by rfl) (by rfl) c1 c2 (fun h3 => ?_) (fun h3 => ?_)
  · have v := v1 h3; clear v1 v2
    show TZ (d + 1) 256 58 [some (.inr 100), some (.inl x1), some (.inl x2), some (.inl x3), o4] [] Z (zri Q)
    refine z0 (op := 3) (a := 2) (b := 0) (by rfl) (by rfl) (?_ : TZ (d + 1) 256 59 [some (.inr 100), some (.inl x1), some (.inl x2), some (.inl x3), o4] [.inl x2] Z (zri Q))
    exact z_reti (by rfl) (by rfl) v
  · have v := v2 h3; clear v1 v2
    show TZ (d + 1) 256 18 [some (.inr 100), some (.inl x1), some (.inl x2), some (.inl x3), o4] [] Z (zri Q)
    refine z0 (op := 5) (a := 0) (b := 0) (by rfl) (by rfl) (?_ : TZ (d + 1) 256 19 [some (.inr 100), some (.inl x1), some (.inl x2), some (.inl x3), o4] [.inr 100] Z (zri Q))
    refine z_vv (by rfl) (by rfl) cl_100 (TV.mono v fun Z4 v => ?_)
    show TZ (d + 1) 256 22 [some (.inr 100), some (.inl x1), some (.inl x2), some (.inl x3), o4] [] Z4 (zri Q)
    refine z0 (op := 5) (a := 0) (b := 0) (by rfl) (by rfl) (?_ : TZ (d + 1) 256 23 [some (.inr 100), some (.inl x1), some (.inl x2), some (.inl x3), o4] [.inr 100] Z4 (zri Q))
    refine z0 (op := 3) (a := 3) (b := 0) (by rfl) (by rfl) (?_ : TZ (d + 1) 256 24 [some (.inr 100), some (.inl x1), some (.inl x2), some (.inl x3), o4] [.inl x3, .inr 100] Z4 (zri Q))
    refine z_vi (by rfl) (by rfl) cl_100 (TI.mono v fun r6 Z5 v => ?_)
    show TZ (d + 1) 256 27 [some (.inr 100), some (.inl x1), some (.inl x2), some (.inl x3), o4] [.inl r6] Z5 (zri Q)
    refine z0 (op := 14) (a := 0) (b := 0) (by rfl) (by rfl) (?_ : TZ (d + 1) 256 28 [some (.inr 100), some (.inl x1), some (.inl x2), some (.inl x3), o4] [] Z5 (zri Q))
    refine z0 (op := 5) (a := 0) (b := 0) (by rfl) (by rfl) (?_ : TZ (d + 1) 256 29 [some (.inr 100), some (.inl x1), some (.inl x2), some (.inl x3), o4] [.inr 100] Z5 (zri Q))
    refine z_vi (by rfl) (by rfl) cl_100 (TI.mono v fun r8 Z7 v => ?_)
    show TZ (d + 1) 256 32 [some (.inr 100), some (.inl x1), some (.inl x2), some (.inl x3), o4] [.inl r8] Z7 (zri Q)
    refine z0 (op := 8) (a := 4) (b := 0) (by rfl) (by rfl) (?_ : TZ (d + 1) 256 34 [some (.inr 100), some (.inl x1), some (.inl x2), some (.inl x3), some (.inl r8)] [] Z7 (zri Q))
    refine z0 (op := 5) (a := 0) (b := 0) (by rfl) (by rfl) (?_ : TZ (d + 1) 256 35 [some (.inr 100), some (.inl x1), some (.inl x2), some (.inl x3), some (.inl r8)] [.inr 100] Z7 (zri Q))
    refine z_vv (by rfl) (by rfl) cl_100 (TV.mono v fun Z9 v => ?_)
    show TZ (d + 1) 256 38 [some (.inr 100), some (.inl x1), some (.inl x2), some (.inl x3), some (.inl r8)] [] Z9 (zri Q)
    refine z0 (op := 4) (a := 4) (b := 0) (by rfl) (by rfl) (?_ : TZ (d + 1) 256 40 [some (.inr 100), some (.inl x1), some (.inl x2), some (.inl x3), some (.inl r8)] [.inl r8] Z9 (zri Q))
    refine z0 (op := 3) (a := 1) (b := 0) (by rfl) (by rfl) (?_ : TZ (d + 1) 256 41 [some (.inr 100), some (.inl x1), some (.inl x2), some (.inl x3), some (.inl r8)] [.inl x1, .inl r8] Z9 (zri Q))
    obtain ⟨c10, c11, v1, v2⟩ := v
    refine z_if2 (a := 2) (t := 47) (by rfl) (by rfl) c10 c11 (fun h12 => ?_) (fun h12 => ?_)
    · have v := v1 h12; clear v1 v2
      show TZ (d + 1) 256 47 [some (.inr 100), some (.inl x1), some (.inl x2), some (.inl x3), some (.inl r8)] [] Z9 (zri Q)
      refine z0 (op := 3) (a := 3) (b := 0) (by rfl) (by rfl) (?_ : TZ (d + 1) 256 48 [some (.inr 100), some (.inl x1), some (.inl x2), some (.inl x3), some (.inl r8)] [.inl x3] Z9 (zri Q))
      refine z0 (op := 7) (a := 2) (b := 0) (by rfl) (by rfl) (?_ : TZ (d + 1) 256 49 [some (.inr 100), some (.inl x1), some (.inl x3), some (.inl x3), some (.inl r8)] [] Z9 (zri Q))
      refine z0 (op := 4) (a := 4) (b := 0) (by rfl) (by rfl) (?_ : TZ (d + 1) 256 51 [some (.inr 100), some (.inl x1), some (.inl x3), some (.inl x3), some (.inl r8)] [.inl r8] Z9 (zri Q))
      refine z0 (op := 7) (a := 1) (b := 0) (by rfl) (by rfl) (?_ : TZ (d + 1) 256 52 [some (.inr 100), some (.inl r8), some (.inl x3), some (.inl x3), some (.inl r8)] [] Z9 (zri Q))
      refine z0 (op := 11) (a := 3) (b := 1) (by rfl) (by rfl) (?_ : TZ (d + 1) 256 55 [some (.inr 100), some (.inl r8), some (.inl x3), some (.inl (x3 + 1)), some (.inl r8)] [] Z9 (zri Q))
      refine z_goto (t := 10) (by rfl) (by rfl) (?_ : TZ (d + 1) 256 10 [some (.inr 100), some (.inl r8), some (.inl x3), some (.inl (x3 + 1)), some (.inl r8)] [] Z9 (zri Q))
      exact v
    · have v := v2 h12; clear v1 v2
      show TZ (d + 1) 256 44 [some (.inr 100), some (.inl x1), some (.inl x2), some (.inl x3), some (.inl r8)] [] Z9 (zri Q)
      refine z_goto (t := 52) (by rfl) (by rfl) (?_ : TZ (d + 1) 256 52 [some (.inr 100), some (.inl x1), some (.inl x2), some (.inl x3), some (.inl r8)] [] Z9 (zri Q))
      refine z0 (op := 11) (a := 3) (b := 1) (by rfl) (by rfl) (?_ : TZ (d + 1) 256 55 [some (.inr 100), some (.inl x1), some (.inl x2), some (.inl (x3 + 1)), some (.inl r8)] [] Z9 (zri Q))
      refine z_goto (t := 10) (by rfl) (by rfl) (?_ : TZ (d + 1) 256 10 [some (.inr 100), some (.inl x1), some (.inl x2), some (.inl (x3 + 1)), some (.inl r8)] [] Z9 (zri Q))
      exact v
theorem w257_0 {d : Nat} {x0 : Int} {Z : zM} {Q : Int → zM → Prop}
    (v : TZ d 257 4 [some (.inl x0), some (.inl 0), some (.inl 0)] [] Z (zri Q)) :
    TZ d 257 0 [some (.inl x0), none, none] [] Z (zri Q) := by
  refine z0 (op := 0) (a := 0) (b := 0) (by rfl) (by rfl) (?_ : TZ d 257 1 [some (.inl x0), none, none] [.inl 0] Z (zri Q))
  refine z0 (op := 7) (a := 1) (b := 0) (by rfl) (by rfl) (?_ : TZ d 257 2 [some (.inl x0), some (.inl 0), none] [] Z (zri Q))
  refine z0 (op := 0) (a := 0) (b := 0) (by rfl) (by rfl) (?_ : TZ d 257 3 [some (.inl x0), some (.inl 0), none] [.inl 0] Z (zri Q))
  refine z0 (op := 7) (a := 2) (b := 0) (by rfl) (by rfl) (?_ : TZ d 257 4 [some (.inl x0), some (.inl 0), some (.inl 0)] [] Z (zri Q))
  exact v
theorem w257_4 {d : Nat} {x0 x1 x2 : Int} {Z : zM} {Q : Int → zM → Prop}
    (v : zR x2 ∧
      (31 ≤ x2 → Q x1 Z) ∧
      (¬ 31 ≤ x2 → TZ d 257 4 [some (.inl x0), some (.inl (x1 + (zbit 3 (zbit 7 x0 x2) 1))), some (.inl (x2 + 1))] [] Z (zri Q))) :
    TZ d 257 4 [some (.inl x0), some (.inl x1), some (.inl x2)] [] Z (zri Q) := by
  refine z0 (op := 3) (a := 2) (b := 0) (by rfl) (by rfl) (?_ : TZ d 257 5 [some (.inl x0), some (.inl x1), some (.inl x2)] [.inl x2] Z (zri Q))
  refine z0 (op := 1) (a := 0) (b := 31) (by rfl) (by rfl) (?_ : TZ d 257 7 [some (.inl x0), some (.inl x1), some (.inl x2)] [.inl 31, .inl x2] Z (zri Q))
  obtain ⟨c1, v1, v2⟩ := v
  refine z_if2 (a := 3) (t := 24) (by rfl) (by rfl) c1 (by decide) (fun h2 => ?_) (fun h2 => ?_)
  · have v := v1 h2; clear v1 v2
    show TZ d 257 24 [some (.inl x0), some (.inl x1), some (.inl x2)] [] Z (zri Q)
    refine z0 (op := 3) (a := 1) (b := 0) (by rfl) (by rfl) (?_ : TZ d 257 25 [some (.inl x0), some (.inl x1), some (.inl x2)] [.inl x1] Z (zri Q))
    exact z_reti (by rfl) (by rfl) v
  · have v := v2 h2; clear v1 v2
    show TZ d 257 10 [some (.inl x0), some (.inl x1), some (.inl x2)] [] Z (zri Q)
    refine z0 (op := 3) (a := 1) (b := 0) (by rfl) (by rfl) (?_ : TZ d 257 11 [some (.inl x0), some (.inl x1), some (.inl x2)] [.inl x1] Z (zri Q))
    refine z0 (op := 3) (a := 0) (b := 0) (by rfl) (by rfl) (?_ : TZ d 257 12 [some (.inl x0), some (.inl x1), some (.inl x2)] [.inl x0, .inl x1] Z (zri Q))
    refine z0 (op := 3) (a := 2) (b := 0) (by rfl) (by rfl) (?_ : TZ d 257 13 [some (.inl x0), some (.inl x1), some (.inl x2)] [.inl x2, .inl x0, .inl x1] Z (zri Q))
    refine z0 (op := 12) (a := 7) (b := 0) (by rfl) (by rfl) (?_ : TZ d 257 14 [some (.inl x0), some (.inl x1), some (.inl x2)] [.inl (zbit 7 x0 x2), .inl x1] Z (zri Q))
    refine z0 (op := 0) (a := 0) (b := 1) (by rfl) (by rfl) (?_ : TZ d 257 15 [some (.inl x0), some (.inl x1), some (.inl x2)] [.inl 1, .inl (zbit 7 x0 x2), .inl x1] Z (zri Q))
    refine z0 (op := 12) (a := 3) (b := 0) (by rfl) (by rfl) (?_ : TZ d 257 16 [some (.inl x0), some (.inl x1), some (.inl x2)] [.inl (zbit 3 (zbit 7 x0 x2) 1), .inl x1] Z (zri Q))
    refine z0 (op := 12) (a := 0) (b := 0) (by rfl) (by rfl) (?_ : TZ d 257 17 [some (.inl x0), some (.inl x1), some (.inl x2)] [.inl (x1 + (zbit 3 (zbit 7 x0 x2) 1))] Z (zri Q))
    refine z0 (op := 7) (a := 1) (b := 0) (by rfl) (by rfl) (?_ : TZ d 257 18 [some (.inl x0), some (.inl (x1 + (zbit 3 (zbit 7 x0 x2) 1))), some (.inl x2)] [] Z (zri Q))
    refine z0 (op := 11) (a := 2) (b := 1) (by rfl) (by rfl) (?_ : TZ d 257 21 [some (.inl x0), some (.inl (x1 + (zbit 3 (zbit 7 x0 x2) 1))), some (.inl (x2 + 1))] [] Z (zri Q))
    refine z_goto (t := 4) (by rfl) (by rfl) (?_ : TZ d 257 4 [some (.inl x0), some (.inl (x1 + (zbit 3 (zbit 7 x0 x2) 1))), some (.inl (x2 + 1))] [] Z (zri Q))
    exact v
theorem w258_0 {d : Nat} {x1 : Int} {Z : zM} {Q : Int → zM → Prop}
    (v : TZ d 258 7 [some (.inr 100), some (.inl x1), some (.inl 0), some (.inl 0), some (.inl 0)] [] Z (zri Q)) :
    TZ d 258 0 [some (.inr 100), some (.inl x1), none, none, none] [] Z (zri Q) := by
  refine z0 (op := 0) (a := 0) (b := 0) (by rfl) (by rfl) (?_ : TZ d 258 1 [some (.inr 100), some (.inl x1), none, none, none] [.inl 0] Z (zri Q))
  refine z0 (op := 7) (a := 2) (b := 0) (by rfl) (by rfl) (?_ : TZ d 258 2 [some (.inr 100), some (.inl x1), some (.inl 0), none, none] [] Z (zri Q))
  refine z0 (op := 0) (a := 0) (b := 0) (by rfl) (by rfl) (?_ : TZ d 258 3 [some (.inr 100), some (.inl x1), some (.inl 0), none, none] [.inl 0] Z (zri Q))
  refine z0 (op := 7) (a := 3) (b := 0) (by rfl) (by rfl) (?_ : TZ d 258 4 [some (.inr 100), some (.inl x1), some (.inl 0), some (.inl 0), none] [] Z (zri Q))
  refine z0 (op := 0) (a := 0) (b := 0) (by rfl) (by rfl) (?_ : TZ d 258 5 [some (.inr 100), some (.inl x1), some (.inl 0), some (.inl 0), none] [.inl 0] Z (zri Q))
  refine z0 (op := 8) (a := 4) (b := 0) (by rfl) (by rfl) (?_ : TZ d 258 7 [some (.inr 100), some (.inl x1), some (.inl 0), some (.inl 0), some (.inl 0)] [] Z (zri Q))
  exact v
theorem w258_7 {d : Nat} {x1 x2 x3 x4 : Int} {Z : zM} {Q : Int → zM → Prop}
    (v : zR x4 ∧
      zR (Z 100 6) ∧
      ((Z 100 6) ≤ x4 → Q x2 Z) ∧
      (¬ (Z 100 6) ≤ x4 → TI d 159 [.inr 100, .inl x4] Z (fun r5 Z4 =>
          zR (Z4 100 5) ∧
            (1 ≤ (Z4 100 6) ∧ (Z4 100 6) ≤ 2147483647) ∧
            zR (x3 + ((r5 - (Int.tdiv (Z4 100 5) (Z4 100 6))) - (zbit 3 (zbit 7 x1 x4) 1))) ∧
            (0 ≤ (x3 + ((r5 - (Int.tdiv (Z4 100 5) (Z4 100 6))) - (zbit 3 (zbit 7 x1 x4) 1))) → TZ (d + 1) 258 7 [some (.inr 100), some (.inl x1), some (.inl (x2 + (x3 + ((r5 - (Int.tdiv (Z4 100 5) (Z4 100 6))) - (zbit 3 (zbit 7 x1 x4) 1))))), some (.inl (x3 + ((r5 - (Int.tdiv (Z4 100 5) (Z4 100 6))) - (zbit 3 (zbit 7 x1 x4) 1)))), some (.inl (x4 + 1))] [] Z4 (zri Q)) ∧
            (¬ 0 ≤ (x3 + ((r5 - (Int.tdiv (Z4 100 5) (Z4 100 6))) - (zbit 3 (zbit 7 x1 x4) 1))) → TZ (d + 1) 258 7 [some (.inr 100), some (.inl x1), some (.inl (x2 + (-(x3 + ((r5 - (Int.tdiv (Z4 100 5) (Z4 100 6))) - (zbit 3 (zbit 7 x1 x4) 1)))))), some (.inl (x3 + ((r5 - (Int.tdiv (Z4 100 5) (Z4 100 6))) - (zbit 3 (zbit 7 x1 x4) 1)))), some (.inl (x4 + 1))] [] Z4 (zri Q))))) :
    TZ (d + 1) 258 7 [some (.inr 100), some (.inl x1), some (.inl x2), some (.inl x3), some (.inl x4)] [] Z (zri Q) := by
  refine z0 (op := 4) (a := 4) (b := 0) (by rfl) (by rfl) (?_ : TZ (d + 1) 258 9 [some (.inr 100), some (.inl x1), some (.inl x2), some (.inl x3), some (.inl x4)] [.inl x4] Z (zri Q))
  refine z0 (op := 5) (a := 0) (b := 0) (by rfl) (by rfl) (?_ : TZ (d + 1) 258 10 [some (.inr 100), some (.inl x1), some (.inl x2), some (.inl x3), some (.inl x4)] [.inr 100, .inl x4] Z (zri Q))
  refine z_fi (by rfl) fi110_100 (?_ : TZ (d + 1) 258 13 [some (.inr 100), some (.inl x1), some (.inl x2), some (.inl x3), some (.inl x4)] [.inl (Z 100 6), .inl x4] Z (zri Q))
  obtain ⟨c1, c2, v1, v2⟩ := v
  refine z_if2 (a := 3) (t := 61) (by rfl) (by rfl) c1 c2 (fun h3 => ?_) (fun h3 => ?_)
  · have v := v1 h3; clear v1 v2
    show TZ (d + 1) 258 61 [some (.inr 100), some (.inl x1), some (.inl x2), some (.inl x3), some (.inl x4)] [] Z (zri Q)
    refine z0 (op := 3) (a := 2) (b := 0) (by rfl) (by rfl) (?_ : TZ (d + 1) 258 62 [some (.inr 100), some (.inl x1), some (.inl x2), some (.inl x3), some (.inl x4)] [.inl x2] Z (zri Q))
    exact z_reti (by rfl) (by rfl) v
  · have v := v2 h3; clear v1 v2
    show TZ (d + 1) 258 16 [some (.inr 100), some (.inl x1), some (.inl x2), some (.inl x3), some (.inl x4)] [] Z (zri Q)
    refine z0 (op := 3) (a := 3) (b := 0) (by rfl) (by rfl) (?_ : TZ (d + 1) 258 17 [some (.inr 100), some (.inl x1), some (.inl x2), some (.inl x3), some (.inl x4)] [.inl x3] Z (zri Q))
    refine z0 (op := 5) (a := 0) (b := 0) (by rfl) (by rfl) (?_ : TZ (d + 1) 258 18 [some (.inr 100), some (.inl x1), some (.inl x2), some (.inl x3), some (.inl x4)] [.inr 100, .inl x3] Z (zri Q))
    refine z0 (op := 4) (a := 4) (b := 0) (by rfl) (by rfl) (?_ : TZ (d + 1) 258 20 [some (.inr 100), some (.inl x1), some (.inl x2), some (.inl x3), some (.inl x4)] [.inl x4, .inr 100, .inl x3] Z (zri Q))
    refine z_vi (by rfl) (by rfl) cl_100 (TI.mono v fun r5 Z4 v => ?_)
    show TZ (d + 1) 258 23 [some (.inr 100), some (.inl x1), some (.inl x2), some (.inl x3), some (.inl x4)] [.inl r5, .inl x3] Z4 (zri Q)
    refine z0 (op := 5) (a := 0) (b := 0) (by rfl) (by rfl) (?_ : TZ (d + 1) 258 24 [some (.inr 100), some (.inl x1), some (.inl x2), some (.inl x3), some (.inl x4)] [.inr 100, .inl r5, .inl x3] Z4 (zri Q))
    refine z_fi (by rfl) fi111_100 (?_ : TZ (d + 1) 258 27 [some (.inr 100), some (.inl x1), some (.inl x2), some (.inl x3), some (.inl x4)] [.inl (Z4 100 5), .inl r5, .inl x3] Z4 (zri Q))
    refine z0 (op := 5) (a := 0) (b := 0) (by rfl) (by rfl) (?_ : TZ (d + 1) 258 28 [some (.inr 100), some (.inl x1), some (.inl x2), some (.inl x3), some (.inl x4)] [.inr 100, .inl (Z4 100 5), .inl r5, .inl x3] Z4 (zri Q))
    refine z_fi (by rfl) fi110_100 (?_ : TZ (d + 1) 258 31 [some (.inr 100), some (.inl x1), some (.inl x2), some (.inl x3), some (.inl x4)] [.inl (Z4 100 6), .inl (Z4 100 5), .inl r5, .inl x3] Z4 (zri Q))
    obtain ⟨c6, c7, v⟩ := v
    refine z_div (by rfl) c6 c7 (?_ : TZ (d + 1) 258 32 [some (.inr 100), some (.inl x1), some (.inl x2), some (.inl x3), some (.inl x4)] [.inl (Int.tdiv (Z4 100 5) (Z4 100 6)), .inl r5, .inl x3] Z4 (zri Q))
    refine z0 (op := 12) (a := 1) (b := 0) (by rfl) (by rfl) (?_ : TZ (d + 1) 258 33 [some (.inr 100), some (.inl x1), some (.inl x2), some (.inl x3), some (.inl x4)] [.inl (r5 - (Int.tdiv (Z4 100 5) (Z4 100 6))), .inl x3] Z4 (zri Q))
    refine z0 (op := 3) (a := 1) (b := 0) (by rfl) (by rfl) (?_ : TZ (d + 1) 258 34 [some (.inr 100), some (.inl x1), some (.inl x2), some (.inl x3), some (.inl x4)] [.inl x1, .inl (r5 - (Int.tdiv (Z4 100 5) (Z4 100 6))), .inl x3] Z4 (zri Q))
    refine z0 (op := 4) (a := 4) (b := 0) (by rfl) (by rfl) (?_ : TZ (d + 1) 258 36 [some (.inr 100), some (.inl x1), some (.inl x2), some (.inl x3), some (.inl x4)] [.inl x4, .inl x1, .inl (r5 - (Int.tdiv (Z4 100 5) (Z4 100 6))), .inl x3] Z4 (zri Q))
    refine z0 (op := 12) (a := 7) (b := 0) (by rfl) (by rfl) (?_ : TZ (d + 1) 258 37 [some (.inr 100), some (.inl x1), some (.inl x2), some (.inl x3), some (.inl x4)] [.inl (zbit 7 x1 x4), .inl (r5 - (Int.tdiv (Z4 100 5) (Z4 100 6))), .inl x3] Z4 (zri Q))
    refine z0 (op := 0) (a := 0) (b := 1) (by rfl) (by rfl) (?_ : TZ (d + 1) 258 38 [some (.inr 100), some (.inl x1), some (.inl x2), some (.inl x3), some (.inl x4)] [.inl 1, .inl (zbit 7 x1 x4), .inl (r5 - (Int.tdiv (Z4 100 5) (Z4 100 6))), .inl x3] Z4 (zri Q))
    refine z0 (op := 12) (a := 3) (b := 0) (by rfl) (by rfl) (?_ : TZ (d + 1) 258 39 [some (.inr 100), some (.inl x1), some (.inl x2), some (.inl x3), some (.inl x4)] [.inl (zbit 3 (zbit 7 x1 x4) 1), .inl (r5 - (Int.tdiv (Z4 100 5) (Z4 100 6))), .inl x3] Z4 (zri Q))
    refine z0 (op := 12) (a := 1) (b := 0) (by rfl) (by rfl) (?_ : TZ (d + 1) 258 40 [some (.inr 100), some (.inl x1), some (.inl x2), some (.inl x3), some (.inl x4)] [.inl ((r5 - (Int.tdiv (Z4 100 5) (Z4 100 6))) - (zbit 3 (zbit 7 x1 x4) 1)), .inl x3] Z4 (zri Q))
    refine z0 (op := 12) (a := 0) (b := 0) (by rfl) (by rfl) (?_ : TZ (d + 1) 258 41 [some (.inr 100), some (.inl x1), some (.inl x2), some (.inl x3), some (.inl x4)] [.inl (x3 + ((r5 - (Int.tdiv (Z4 100 5) (Z4 100 6))) - (zbit 3 (zbit 7 x1 x4) 1)))] Z4 (zri Q))
    refine z0 (op := 7) (a := 3) (b := 0) (by rfl) (by rfl) (?_ : TZ (d + 1) 258 42 [some (.inr 100), some (.inl x1), some (.inl x2), some (.inl (x3 + ((r5 - (Int.tdiv (Z4 100 5) (Z4 100 6))) - (zbit 3 (zbit 7 x1 x4) 1)))), some (.inl x4)] [] Z4 (zri Q))
    refine z0 (op := 3) (a := 2) (b := 0) (by rfl) (by rfl) (?_ : TZ (d + 1) 258 43 [some (.inr 100), some (.inl x1), some (.inl x2), some (.inl (x3 + ((r5 - (Int.tdiv (Z4 100 5) (Z4 100 6))) - (zbit 3 (zbit 7 x1 x4) 1)))), some (.inl x4)] [.inl x2] Z4 (zri Q))
    refine z0 (op := 3) (a := 3) (b := 0) (by rfl) (by rfl) (?_ : TZ (d + 1) 258 44 [some (.inr 100), some (.inl x1), some (.inl x2), some (.inl (x3 + ((r5 - (Int.tdiv (Z4 100 5) (Z4 100 6))) - (zbit 3 (zbit 7 x1 x4) 1)))), some (.inl x4)] [.inl (x3 + ((r5 - (Int.tdiv (Z4 100 5) (Z4 100 6))) - (zbit 3 (zbit 7 x1 x4) 1))), .inl x2] Z4 (zri Q))
    obtain ⟨c8, v1, v2⟩ := v
    refine z_if0 (a := 3) (t := 52) (by rfl) (by rfl) c8 (fun h9 => ?_) (fun h9 => ?_)
    · have v := v1 h9; clear v1 v2
      show TZ (d + 1) 258 52 [some (.inr 100), some (.inl x1), some (.inl x2), some (.inl (x3 + ((r5 - (Int.tdiv (Z4 100 5) (Z4 100 6))) - (zbit 3 (zbit 7 x1 x4) 1)))), some (.inl x4)] [.inl x2] Z4 (zri Q)
      refine z0 (op := 3) (a := 3) (b := 0) (by rfl) (by rfl) (?_ : TZ (d + 1) 258 53 [some (.inr 100), some (.inl x1), some (.inl x2), some (.inl (x3 + ((r5 - (Int.tdiv (Z4 100 5) (Z4 100 6))) - (zbit 3 (zbit 7 x1 x4) 1)))), some (.inl x4)] [.inl (x3 + ((r5 - (Int.tdiv (Z4 100 5) (Z4 100 6))) - (zbit 3 (zbit 7 x1 x4) 1))), .inl x2] Z4 (zri Q))
      refine z0 (op := 12) (a := 0) (b := 0) (by rfl) (by rfl) (?_ : TZ (d + 1) 258 54 [some (.inr 100), some (.inl x1), some (.inl x2), some (.inl (x3 + ((r5 - (Int.tdiv (Z4 100 5) (Z4 100 6))) - (zbit 3 (zbit 7 x1 x4) 1)))), some (.inl x4)] [.inl (x2 + (x3 + ((r5 - (Int.tdiv (Z4 100 5) (Z4 100 6))) - (zbit 3 (zbit 7 x1 x4) 1))))] Z4 (zri Q))
      refine z0 (op := 7) (a := 2) (b := 0) (by rfl) (by rfl) (?_ : TZ (d + 1) 258 55 [some (.inr 100), some (.inl x1), some (.inl (x2 + (x3 + ((r5 - (Int.tdiv (Z4 100 5) (Z4 100 6))) - (zbit 3 (zbit 7 x1 x4) 1))))), some (.inl (x3 + ((r5 - (Int.tdiv (Z4 100 5) (Z4 100 6))) - (zbit 3 (zbit 7 x1 x4) 1)))), some (.inl x4)] [] Z4 (zri Q))
      refine z0 (op := 11) (a := 4) (b := 1) (by rfl) (by rfl) (?_ : TZ (d + 1) 258 58 [some (.inr 100), some (.inl x1), some (.inl (x2 + (x3 + ((r5 - (Int.tdiv (Z4 100 5) (Z4 100 6))) - (zbit 3 (zbit 7 x1 x4) 1))))), some (.inl (x3 + ((r5 - (Int.tdiv (Z4 100 5) (Z4 100 6))) - (zbit 3 (zbit 7 x1 x4) 1)))), some (.inl (x4 + 1))] [] Z4 (zri Q))
      refine z_goto (t := 7) (by rfl) (by rfl) (?_ : TZ (d + 1) 258 7 [some (.inr 100), some (.inl x1), some (.inl (x2 + (x3 + ((r5 - (Int.tdiv (Z4 100 5) (Z4 100 6))) - (zbit 3 (zbit 7 x1 x4) 1))))), some (.inl (x3 + ((r5 - (Int.tdiv (Z4 100 5) (Z4 100 6))) - (zbit 3 (zbit 7 x1 x4) 1)))), some (.inl (x4 + 1))] [] Z4 (zri Q))
      exact v
    · have v := v2 h9; clear v1 v2
      show TZ (d + 1) 258 47 [some (.inr 100), some (.inl x1), some (.inl x2), some (.inl (x3 + ((r5 - (Int.tdiv (Z4 100 5) (Z4 100 6))) - (zbit 3 (zbit 7 x1 x4) 1)))), some (.inl x4)] [.inl x2] Z4 (zri Q)
      refine z0 (op := 3) (a := 3) (b := 0) (by rfl) (by rfl) (?_ : TZ (d + 1) 258 48 [some (.inr 100), some (.inl x1), some (.inl x2), some (.inl (x3 + ((r5 - (Int.tdiv (Z4 100 5) (Z4 100 6))) - (zbit 3 (zbit 7 x1 x4) 1)))), some (.inl x4)] [.inl (x3 + ((r5 - (Int.tdiv (Z4 100 5) (Z4 100 6))) - (zbit 3 (zbit 7 x1 x4) 1))), .inl x2] Z4 (zri Q))
      refine z0 (op := 13) (a := 0) (b := 0) (by rfl) (by rfl) (?_ : TZ (d + 1) 258 49 [some (.inr 100), some (.inl x1), some (.inl x2), some (.inl (x3 + ((r5 - (Int.tdiv (Z4 100 5) (Z4 100 6))) - (zbit 3 (zbit 7 x1 x4) 1)))), some (.inl x4)] [.inl (-(x3 + ((r5 - (Int.tdiv (Z4 100 5) (Z4 100 6))) - (zbit 3 (zbit 7 x1 x4) 1)))), .inl x2] Z4 (zri Q))
      refine z_goto (t := 53) (by rfl) (by rfl) (?_ : TZ (d + 1) 258 53 [some (.inr 100), some (.inl x1), some (.inl x2), some (.inl (x3 + ((r5 - (Int.tdiv (Z4 100 5) (Z4 100 6))) - (zbit 3 (zbit 7 x1 x4) 1)))), some (.inl x4)] [.inl (-(x3 + ((r5 - (Int.tdiv (Z4 100 5) (Z4 100 6))) - (zbit 3 (zbit 7 x1 x4) 1)))), .inl x2] Z4 (zri Q))
      refine z0 (op := 12) (a := 0) (b := 0) (by rfl) (by rfl) (?_ : TZ (d + 1) 258 54 [some (.inr 100), some (.inl x1), some (.inl x2), some (.inl (x3 + ((r5 - (Int.tdiv (Z4 100 5) (Z4 100 6))) - (zbit 3 (zbit 7 x1 x4) 1)))), some (.inl x4)] [.inl (x2 + (-(x3 + ((r5 - (Int.tdiv (Z4 100 5) (Z4 100 6))) - (zbit 3 (zbit 7 x1 x4) 1)))))] Z4 (zri Q))
      refine z0 (op := 7) (a := 2) (b := 0) (by rfl) (by rfl) (?_ : TZ (d + 1) 258 55 [some (.inr 100), some (.inl x1), some (.inl (x2 + (-(x3 + ((r5 - (Int.tdiv (Z4 100 5) (Z4 100 6))) - (zbit 3 (zbit 7 x1 x4) 1)))))), some (.inl (x3 + ((r5 - (Int.tdiv (Z4 100 5) (Z4 100 6))) - (zbit 3 (zbit 7 x1 x4) 1)))), some (.inl x4)] [] Z4 (zri Q))
      refine z0 (op := 11) (a := 4) (b := 1) (by rfl) (by rfl) (?_ : TZ (d + 1) 258 58 [some (.inr 100), some (.inl x1), some (.inl (x2 + (-(x3 + ((r5 - (Int.tdiv (Z4 100 5) (Z4 100 6))) - (zbit 3 (zbit 7 x1 x4) 1)))))), some (.inl (x3 + ((r5 - (Int.tdiv (Z4 100 5) (Z4 100 6))) - (zbit 3 (zbit 7 x1 x4) 1)))), some (.inl (x4 + 1))] [] Z4 (zri Q))
      refine z_goto (t := 7) (by rfl) (by rfl) (?_ : TZ (d + 1) 258 7 [some (.inr 100), some (.inl x1), some (.inl (x2 + (-(x3 + ((r5 - (Int.tdiv (Z4 100 5) (Z4 100 6))) - (zbit 3 (zbit 7 x1 x4) 1)))))), some (.inl (x3 + ((r5 - (Int.tdiv (Z4 100 5) (Z4 100 6))) - (zbit 3 (zbit 7 x1 x4) 1)))), some (.inl (x4 + 1))] [] Z4 (zri Q))
      exact v
theorem w259_0 {d : Nat} {Z : zM} {Q : Int → zM → Prop}
    (v : TZ d 259 5 [some (.inr 100), some (.inl 100), some (.inl 0)] [] Z (zri Q)) :
    TZ d 259 0 [some (.inr 100), none, none] [] Z (zri Q) := by
  refine z0 (op := 1) (a := 0) (b := 100) (by rfl) (by rfl) (?_ : TZ d 259 2 [some (.inr 100), none, none] [.inl 100] Z (zri Q))
  refine z0 (op := 7) (a := 1) (b := 0) (by rfl) (by rfl) (?_ : TZ d 259 3 [some (.inr 100), some (.inl 100), none] [] Z (zri Q))
  refine z0 (op := 0) (a := 0) (b := 0) (by rfl) (by rfl) (?_ : TZ d 259 4 [some (.inr 100), some (.inl 100), none] [.inl 0] Z (zri Q))
  refine z0 (op := 7) (a := 2) (b := 0) (by rfl) (by rfl) (?_ : TZ d 259 5 [some (.inr 100), some (.inl 100), some (.inl 0)] [] Z (zri Q))
  exact v
theorem w259_5 {d : Nat} {x1 x2 : Int} {Z : zM} {Q : Int → zM → Prop}
    (v : zR x2 ∧
      zR (zbit 6 1 (Z 100 6)) ∧
      ((zbit 6 1 (Z 100 6)) ≤ x2 → Q x1 Z) ∧
      (¬ (zbit 6 1 (Z 100 6)) ≤ x2 → TI d 257 [.inl x2] Z (fun r5 Z4 =>
          zR (Z4 100 5) ∧
            (1 ≤ (Z4 100 6) ∧ (Z4 100 6) ≤ 2147483647) ∧
            zR r5 ∧
            zR (Int.tmod (Z4 100 5) (Z4 100 6)) ∧
            (r5 ≠ (Int.tmod (Z4 100 5) (Z4 100 6)) → TZ (d + 1) 259 5 [some (.inr 100), some (.inl x1), some (.inl (x2 + 1))] [] Z4 (zri Q)) ∧
            (¬ r5 ≠ (Int.tmod (Z4 100 5) (Z4 100 6)) → TI d 258 [.inr 100, .inl x2] Z4 (fun r12 Z11 =>
                TI d 183 [.inl x1, .inl r12] Z11 (fun r14 Z13 =>
                  TZ (d + 1) 259 5 [some (.inr 100), some (.inl r14), some (.inl (x2 + 1))] [] Z13 (zri Q))))))) :
    TZ (d + 1) 259 5 [some (.inr 100), some (.inl x1), some (.inl x2)] [] Z (zri Q) := by
  refine z0 (op := 3) (a := 2) (b := 0) (by rfl) (by rfl) (?_ : TZ (d + 1) 259 6 [some (.inr 100), some (.inl x1), some (.inl x2)] [.inl x2] Z (zri Q))
  refine z0 (op := 0) (a := 0) (b := 1) (by rfl) (by rfl) (?_ : TZ (d + 1) 259 7 [some (.inr 100), some (.inl x1), some (.inl x2)] [.inl 1, .inl x2] Z (zri Q))
  refine z0 (op := 5) (a := 0) (b := 0) (by rfl) (by rfl) (?_ : TZ (d + 1) 259 8 [some (.inr 100), some (.inl x1), some (.inl x2)] [.inr 100, .inl 1, .inl x2] Z (zri Q))
  refine z_fi (by rfl) fi110_100 (?_ : TZ (d + 1) 259 11 [some (.inr 100), some (.inl x1), some (.inl x2)] [.inl (Z 100 6), .inl 1, .inl x2] Z (zri Q))
  refine z0 (op := 12) (a := 6) (b := 0) (by rfl) (by rfl) (?_ : TZ (d + 1) 259 12 [some (.inr 100), some (.inl x1), some (.inl x2)] [.inl (zbit 6 1 (Z 100 6)), .inl x2] Z (zri Q))
  obtain ⟨c1, c2, v1, v2⟩ := v
  refine z_if2 (a := 3) (t := 47) (by rfl) (by rfl) c1 c2 (fun h3 => ?_) (fun h3 => ?_)
  · have v := v1 h3; clear v1 v2
    show TZ (d + 1) 259 47 [some (.inr 100), some (.inl x1), some (.inl x2)] [] Z (zri Q)
    refine z0 (op := 3) (a := 1) (b := 0) (by rfl) (by rfl) (?_ : TZ (d + 1) 259 48 [some (.inr 100), some (.inl x1), some (.inl x2)] [.inl x1] Z (zri Q))
    exact z_reti (by rfl) (by rfl) v
  · have v := v2 h3; clear v1 v2
    show TZ (d + 1) 259 15 [some (.inr 100), some (.inl x1), some (.inl x2)] [] Z (zri Q)
    refine z0 (op := 3) (a := 2) (b := 0) (by rfl) (by rfl) (?_ : TZ (d + 1) 259 16 [some (.inr 100), some (.inl x1), some (.inl x2)] [.inl x2] Z (zri Q))
    refine z_si (by rfl) (by rfl) (TI.mono v fun r5 Z4 v => ?_)
    show TZ (d + 1) 259 19 [some (.inr 100), some (.inl x1), some (.inl x2)] [.inl r5] Z4 (zri Q)
    refine z0 (op := 5) (a := 0) (b := 0) (by rfl) (by rfl) (?_ : TZ (d + 1) 259 20 [some (.inr 100), some (.inl x1), some (.inl x2)] [.inr 100, .inl r5] Z4 (zri Q))
    refine z_fi (by rfl) fi111_100 (?_ : TZ (d + 1) 259 23 [some (.inr 100), some (.inl x1), some (.inl x2)] [.inl (Z4 100 5), .inl r5] Z4 (zri Q))
    refine z0 (op := 5) (a := 0) (b := 0) (by rfl) (by rfl) (?_ : TZ (d + 1) 259 24 [some (.inr 100), some (.inl x1), some (.inl x2)] [.inr 100, .inl (Z4 100 5), .inl r5] Z4 (zri Q))
    refine z_fi (by rfl) fi110_100 (?_ : TZ (d + 1) 259 27 [some (.inr 100), some (.inl x1), some (.inl x2)] [.inl (Z4 100 6), .inl (Z4 100 5), .inl r5] Z4 (zri Q))
    obtain ⟨c6, c7, v⟩ := v
    refine z_rem (by rfl) c6 c7 (?_ : TZ (d + 1) 259 28 [some (.inr 100), some (.inl x1), some (.inl x2)] [.inl (Int.tmod (Z4 100 5) (Z4 100 6)), .inl r5] Z4 (zri Q))
    obtain ⟨c8, c9, v1, v2⟩ := v
    refine z_if2 (a := 1) (t := 41) (by rfl) (by rfl) c8 c9 (fun h10 => ?_) (fun h10 => ?_)
    · have v := v1 h10; clear v1 v2
      show TZ (d + 1) 259 41 [some (.inr 100), some (.inl x1), some (.inl x2)] [] Z4 (zri Q)
      refine z0 (op := 11) (a := 2) (b := 1) (by rfl) (by rfl) (?_ : TZ (d + 1) 259 44 [some (.inr 100), some (.inl x1), some (.inl (x2 + 1))] [] Z4 (zri Q))
      refine z_goto (t := 5) (by rfl) (by rfl) (?_ : TZ (d + 1) 259 5 [some (.inr 100), some (.inl x1), some (.inl (x2 + 1))] [] Z4 (zri Q))
      exact v
    · have v := v2 h10; clear v1 v2
      show TZ (d + 1) 259 31 [some (.inr 100), some (.inl x1), some (.inl x2)] [] Z4 (zri Q)
      refine z0 (op := 3) (a := 1) (b := 0) (by rfl) (by rfl) (?_ : TZ (d + 1) 259 32 [some (.inr 100), some (.inl x1), some (.inl x2)] [.inl x1] Z4 (zri Q))
      refine z0 (op := 5) (a := 0) (b := 0) (by rfl) (by rfl) (?_ : TZ (d + 1) 259 33 [some (.inr 100), some (.inl x1), some (.inl x2)] [.inr 100, .inl x1] Z4 (zri Q))
      refine z0 (op := 3) (a := 2) (b := 0) (by rfl) (by rfl) (?_ : TZ (d + 1) 259 34 [some (.inr 100), some (.inl x1), some (.inl x2)] [.inl x2, .inr 100, .inl x1] Z4 (zri Q))
      refine z_vi (by rfl) (by rfl) cl_100 (TI.mono v fun r12 Z11 v => ?_)
      show TZ (d + 1) 259 37 [some (.inr 100), some (.inl x1), some (.inl x2)] [.inl r12, .inl x1] Z11 (zri Q)
      refine z_si (by rfl) (by rfl) (TI.mono v fun r14 Z13 v => ?_)
      show TZ (d + 1) 259 40 [some (.inr 100), some (.inl x1), some (.inl x2)] [.inl r14] Z13 (zri Q)
      refine z0 (op := 7) (a := 1) (b := 0) (by rfl) (by rfl) (?_ : TZ (d + 1) 259 41 [some (.inr 100), some (.inl r14), some (.inl x2)] [] Z13 (zri Q))
      refine z0 (op := 11) (a := 2) (b := 1) (by rfl) (by rfl) (?_ : TZ (d + 1) 259 44 [some (.inr 100), some (.inl r14), some (.inl (x2 + 1))] [] Z13 (zri Q))
      refine z_goto (t := 5) (by rfl) (by rfl) (?_ : TZ (d + 1) 259 5 [some (.inr 100), some (.inl r14), some (.inl (x2 + 1))] [] Z13 (zri Q))
      exact v
theorem w260_0 {d : Nat} {x1 : Int} {Z : zM} {Q : Int → zM → Prop}
    (v : TI d 155 [.inl x1, .inl 0, .inl 2] Z (fun r2 Z1 =>
      zR r2 ∧
        (r2 ≠ 0 → (zR x1 ∧
            (x1 ≠ 0 → (zR x1 ∧
                (x1 ≠ 2 → TZ (d + 1) 260 42 [some (.inr 100), some (.inl x1), some (.inl 0), some (.inl 0)] [] Z1 (zri Q)) ∧
                (¬ x1 ≠ 2 → TI d 259 [.inr 100] Z1 (fun r10 Z9 =>
                    Q r10 Z9)))) ∧
            (¬ x1 ≠ 0 → TI d 216 [.inr 100] Z1 (fun r12 Z11 =>
                TI d 257 [.inl r12] Z11 (fun r14 Z13 =>
                  Q r14 Z13))))) ∧
        (¬ r2 ≠ 0 → TI d 154 [.inr 100, .inl (-2)] Z1 (fun r16 Z15 =>
            Q r16 Z15)))) :
    TZ (d + 1) 260 0 [some (.inr 100), some (.inl x1), none, none] [] Z (zri Q) := by
  refine z0 (op := 3) (a := 1) (b := 0) (by rfl) (by rfl) (?_ : TZ (d + 1) 260 1 [some (.inr 100), some (.inl x1), none, none] [.inl x1] Z (zri Q))
  refine z0 (op := 0) (a := 0) (b := 0) (by rfl) (by rfl) (?_ : TZ (d + 1) 260 2 [some (.inr 100), some (.inl x1), none, none] [.inl 0, .inl x1] Z (zri Q))
  refine z0 (op := 0) (a := 0) (b := 2) (by rfl) (by rfl) (?_ : TZ (d + 1) 260 3 [some (.inr 100), some (.inl x1), none, none] [.inl 2, .inl 0, .inl x1] Z (zri Q))
  refine z_si (by rfl) (by rfl) (TI.mono v fun r2 Z1 v => ?_)
  show TZ (d + 1) 260 6 [some (.inr 100), some (.inl x1), none, none] [.inl r2] Z1 (zri Q)
  obtain ⟨c3, v1, v2⟩ := v
  refine z_if0 (a := 1) (t := 16) (by rfl) (by rfl) c3 (fun h4 => ?_) (fun h4 => ?_)
  · have v := v1 h4; clear v1 v2
    show TZ (d + 1) 260 16 [some (.inr 100), some (.inl x1), none, none] [] Z1 (zri Q)
    refine z0 (op := 3) (a := 1) (b := 0) (by rfl) (by rfl) (?_ : TZ (d + 1) 260 17 [some (.inr 100), some (.inl x1), none, none] [.inl x1] Z1 (zri Q))
    obtain ⟨c5, v1, v2⟩ := v
    refine z_if0 (a := 1) (t := 28) (by rfl) (by rfl) c5 (fun h6 => ?_) (fun h6 => ?_)
    · have v := v1 h6; clear v1 v2
      show TZ (d + 1) 260 28 [some (.inr 100), some (.inl x1), none, none] [] Z1 (zri Q)
      refine z0 (op := 3) (a := 1) (b := 0) (by rfl) (by rfl) (?_ : TZ (d + 1) 260 29 [some (.inr 100), some (.inl x1), none, none] [.inl x1] Z1 (zri Q))
      refine z0 (op := 0) (a := 0) (b := 2) (by rfl) (by rfl) (?_ : TZ (d + 1) 260 30 [some (.inr 100), some (.inl x1), none, none] [.inl 2, .inl x1] Z1 (zri Q))
      obtain ⟨c7, v1, v2⟩ := v
      refine z_if2 (a := 1) (t := 38) (by rfl) (by rfl) c7 (by decide) (fun h8 => ?_) (fun h8 => ?_)
      · have v := v1 h8; clear v1 v2
        show TZ (d + 1) 260 38 [some (.inr 100), some (.inl x1), none, none] [] Z1 (zri Q)
        refine z0 (op := 0) (a := 0) (b := 0) (by rfl) (by rfl) (?_ : TZ (d + 1) 260 39 [some (.inr 100), some (.inl x1), none, none] [.inl 0] Z1 (zri Q))
        refine z0 (op := 7) (a := 2) (b := 0) (by rfl) (by rfl) (?_ : TZ (d + 1) 260 40 [some (.inr 100), some (.inl x1), some (.inl 0), none] [] Z1 (zri Q))
        refine z0 (op := 0) (a := 0) (b := 0) (by rfl) (by rfl) (?_ : TZ (d + 1) 260 41 [some (.inr 100), some (.inl x1), some (.inl 0), none] [.inl 0] Z1 (zri Q))
        refine z0 (op := 7) (a := 3) (b := 0) (by rfl) (by rfl) (?_ : TZ (d + 1) 260 42 [some (.inr 100), some (.inl x1), some (.inl 0), some (.inl 0)] [] Z1 (zri Q))
        exact v
      · have v := v2 h8; clear v1 v2
        show TZ (d + 1) 260 33 [some (.inr 100), some (.inl x1), none, none] [] Z1 (zri Q)
        refine z0 (op := 5) (a := 0) (b := 0) (by rfl) (by rfl) (?_ : TZ (d + 1) 260 34 [some (.inr 100), some (.inl x1), none, none] [.inr 100] Z1 (zri Q))
        refine z_vi (by rfl) (by rfl) cl_100 (TI.mono v fun r10 Z9 v => ?_)
        show TZ (d + 1) 260 37 [some (.inr 100), some (.inl x1), none, none] [.inl r10] Z9 (zri Q)
        exact z_reti (by rfl) (by rfl) v
    · have v := v2 h6; clear v1 v2
      show TZ (d + 1) 260 20 [some (.inr 100), some (.inl x1), none, none] [] Z1 (zri Q)
      refine z0 (op := 5) (a := 0) (b := 0) (by rfl) (by rfl) (?_ : TZ (d + 1) 260 21 [some (.inr 100), some (.inl x1), none, none] [.inr 100] Z1 (zri Q))
      refine z_vi (by rfl) (by rfl) cl_100 (TI.mono v fun r12 Z11 v => ?_)
      show TZ (d + 1) 260 24 [some (.inr 100), some (.inl x1), none, none] [.inl r12] Z11 (zri Q)
      refine z_si (by rfl) (by rfl) (TI.mono v fun r14 Z13 v => ?_)
      show TZ (d + 1) 260 27 [some (.inr 100), some (.inl x1), none, none] [.inl r14] Z13 (zri Q)
      exact z_reti (by rfl) (by rfl) v
  · have v := v2 h4; clear v1 v2
    show TZ (d + 1) 260 9 [some (.inr 100), some (.inl x1), none, none] [] Z1 (zri Q)
    refine z0 (op := 5) (a := 0) (b := 0) (by rfl) (by rfl) (?_ : TZ (d + 1) 260 10 [some (.inr 100), some (.inl x1), none, none] [.inr 100] Z1 (zri Q))
    refine z0 (op := 1) (a := 0) (b := (-2)) (by rfl) (by rfl) (?_ : TZ (d + 1) 260 12 [some (.inr 100), some (.inl x1), none, none] [.inl (-2), .inr 100] Z1 (zri Q))
    refine z_vi (by rfl) (by rfl) cl_100 (TI.mono v fun r16 Z15 v => ?_)
    show TZ (d + 1) 260 15 [some (.inr 100), some (.inl x1), none, none] [.inl r16] Z15 (zri Q)
    exact z_reti (by rfl) (by rfl) v
theorem w260_42 {d : Nat} {x1 x2 x3 : Int} {Z : zM} {Q : Int → zM → Prop}
    (v : zR x3 ∧
      zR (Z 100 6) ∧
      ((Z 100 6) ≤ x3 → Q x2 Z) ∧
      (¬ (Z 100 6) ≤ x3 → TI d 159 [.inr 100, .inl x3] Z (fun r5 Z4 =>
          zR r5 ∧
            zR x2 ∧
            (r5 ≤ x2 → TZ (d + 1) 260 42 [some (.inr 100), some (.inl x1), some (.inl x2), some (.inl (x3 + 1))] [] Z4 (zri Q)) ∧
            (¬ r5 ≤ x2 → TI d 159 [.inr 100, .inl x3] Z4 (fun r10 Z9 =>
                TZ (d + 1) 260 42 [some (.inr 100), some (.inl x1), some (.inl r10), some (.inl (x3 + 1))] [] Z9 (zri Q)))))) :
    TZ (d + 1) 260 42 [some (.inr 100), some (.inl x1), some (.inl x2), some (.inl x3)] [] Z (zri Q) := by
  refine z0 (op := 3) (a := 3) (b := 0) (by rfl) (by rfl) (?_ : TZ (d + 1) 260 43 [some (.inr 100), some (.inl x1), some (.inl x2), some (.inl x3)] [.inl x3] Z (zri Q))
  refine z0 (op := 5) (a := 0) (b := 0) (by rfl) (by rfl) (?_ : TZ (d + 1) 260 44 [some (.inr 100), some (.inl x1), some (.inl x2), some (.inl x3)] [.inr 100, .inl x3] Z (zri Q))
  refine z_fi (by rfl) fi110_100 (?_ : TZ (d + 1) 260 47 [some (.inr 100), some (.inl x1), some (.inl x2), some (.inl x3)] [.inl (Z 100 6), .inl x3] Z (zri Q))
  obtain ⟨c1, c2, v1, v2⟩ := v
  refine z_if2 (a := 3) (t := 75) (by rfl) (by rfl) c1 c2 (fun h3 => ?_) (fun h3 => ?_)
  · have v := v1 h3; clear v1 v2
    show TZ (d + 1) 260 75 [some (.inr 100), some (.inl x1), some (.inl x2), some (.inl x3)] [] Z (zri Q)
    refine z0 (op := 3) (a := 2) (b := 0) (by rfl) (by rfl) (?_ : TZ (d + 1) 260 76 [some (.inr 100), some (.inl x1), some (.inl x2), some (.inl x3)] [.inl x2] Z (zri Q))
    exact z_reti (by rfl) (by rfl) v
  · have v := v2 h3; clear v1 v2
    show TZ (d + 1) 260 50 [some (.inr 100), some (.inl x1), some (.inl x2), some (.inl x3)] [] Z (zri Q)
    refine z0 (op := 5) (a := 0) (b := 0) (by rfl) (by rfl) (?_ : TZ (d + 1) 260 51 [some (.inr 100), some (.inl x1), some (.inl x2), some (.inl x3)] [.inr 100] Z (zri Q))
    refine z0 (op := 3) (a := 3) (b := 0) (by rfl) (by rfl) (?_ : TZ (d + 1) 260 52 [some (.inr 100), some (.inl x1), some (.inl x2), some (.inl x3)] [.inl x3, .inr 100] Z (zri Q))
    refine z_vi (by rfl) (by rfl) cl_100 (TI.mono v fun r5 Z4 v => ?_)
    show TZ (d + 1) 260 55 [some (.inr 100), some (.inl x1), some (.inl x2), some (.inl x3)] [.inl r5] Z4 (zri Q)
    refine z0 (op := 3) (a := 2) (b := 0) (by rfl) (by rfl) (?_ : TZ (d + 1) 260 56 [some (.inr 100), some (.inl x1), some (.inl x2), some (.inl x3)] [.inl x2, .inl r5] Z4 (zri Q))
    obtain ⟨c6, c7, v1, v2⟩ := v
    refine z_if2 (a := 5) (t := 67) (by rfl) (by rfl) c6 c7 (fun h8 => ?_) (fun h8 => ?_)
    · have v := v1 h8; clear v1 v2
      show TZ (d + 1) 260 67 [some (.inr 100), some (.inl x1), some (.inl x2), some (.inl x3)] [] Z4 (zri Q)
      refine z0 (op := 3) (a := 2) (b := 0) (by rfl) (by rfl) (?_ : TZ (d + 1) 260 68 [some (.inr 100), some (.inl x1), some (.inl x2), some (.inl x3)] [.inl x2] Z4 (zri Q))
      refine z0 (op := 7) (a := 2) (b := 0) (by rfl) (by rfl) (?_ : TZ (d + 1) 260 69 [some (.inr 100), some (.inl x1), some (.inl x2), some (.inl x3)] [] Z4 (zri Q))
      refine z0 (op := 11) (a := 3) (b := 1) (by rfl) (by rfl) (?_ : TZ (d + 1) 260 72 [some (.inr 100), some (.inl x1), some (.inl x2), some (.inl (x3 + 1))] [] Z4 (zri Q))
      refine z_goto (t := 42) (by rfl) (by rfl) (?_ : TZ (d + 1) 260 42 [some (.inr 100), some (.inl x1), some (.inl x2), some (.inl (x3 + 1))] [] Z4 (zri Q))
      exact v
    · have v := v2 h8; clear v1 v2
      show TZ (d + 1) 260 59 [some (.inr 100), some (.inl x1), some (.inl x2), some (.inl x3)] [] Z4 (zri Q)
      refine z0 (op := 5) (a := 0) (b := 0) (by rfl) (by rfl) (?_ : TZ (d + 1) 260 60 [some (.inr 100), some (.inl x1), some (.inl x2), some (.inl x3)] [.inr 100] Z4 (zri Q))
      refine z0 (op := 3) (a := 3) (b := 0) (by rfl) (by rfl) (?_ : TZ (d + 1) 260 61 [some (.inr 100), some (.inl x1), some (.inl x2), some (.inl x3)] [.inl x3, .inr 100] Z4 (zri Q))
      refine z_vi (by rfl) (by rfl) cl_100 (TI.mono v fun r10 Z9 v => ?_)
      show TZ (d + 1) 260 64 [some (.inr 100), some (.inl x1), some (.inl x2), some (.inl x3)] [.inl r10] Z9 (zri Q)
      refine z_goto (t := 68) (by rfl) (by rfl) (?_ : TZ (d + 1) 260 68 [some (.inr 100), some (.inl x1), some (.inl x2), some (.inl x3)] [.inl r10] Z9 (zri Q))
      refine z0 (op := 7) (a := 2) (b := 0) (by rfl) (by rfl) (?_ : TZ (d + 1) 260 69 [some (.inr 100), some (.inl x1), some (.inl r10), some (.inl x3)] [] Z9 (zri Q))
      refine z0 (op := 11) (a := 3) (b := 1) (by rfl) (by rfl) (?_ : TZ (d + 1) 260 72 [some (.inr 100), some (.inl x1), some (.inl r10), some (.inl (x3 + 1))] [] Z9 (zri Q))
      refine z_goto (t := 42) (by rfl) (by rfl) (?_ : TZ (d + 1) 260 42 [some (.inr 100), some (.inl x1), some (.inl r10), some (.inl (x3 + 1))] [] Z9 (zri Q))
      exact v
theorem w261_0 {d : Nat} {x1 x2 : Int} {Z : zM} {Q : Int → zM → Prop}
    (v : TI d 206 [.inl x1] Z (fun r2 Z1 =>
      zR r2 ∧
        (r2 ≠ 0 → (zR r2 ∧
            (r2 = 0 → TV d 205 [.inr 100, .inl x1] Z1 (fun Z7 =>
                zR ((Z7 100 7) + x1) ∧
                  (0 ≤ x1 ∧ x1 < 64) ∧
                  zR (((Int.tmod ((Z7 100 7) + x1) 12) - (Z7 111 x1)) + 12) ∧
                  zR x2 ∧
                  (x2 ≠ 0 → (zR (12 - (Int.tmod (((Int.tmod ((Z7 100 7) + x1) 12) - (Z7 111 x1)) + 12) 12)) ∧ Q (Int.tmod (12 - (Int.tmod (((Int.tmod ((Z7 100 7) + x1) 12) - (Z7 111 x1)) + 12) 12)) 12) Z7)) ∧
                  (¬ x2 ≠ 0 → Q (Int.tmod (((Int.tmod ((Z7 100 7) + x1) 12) - (Z7 111 x1)) + 12) 12) Z7))) ∧
            (¬ r2 = 0 → TI d 154 [.inr 100, .inl r2] Z1 (fun r15 Z14 =>
                Q r15 Z14)))) ∧
        (¬ r2 ≠ 0 → TI d 155 [.inl x2, .inl 0, .inl 1] Z1 (fun r17 Z16 =>
            zR r17 ∧
              (r17 ≠ 0 → (zR r2 ∧
                  (r2 = 0 → TV d 205 [.inr 100, .inl x1] Z16 (fun Z22 =>
                      zR ((Z22 100 7) + x1) ∧
                        (0 ≤ x1 ∧ x1 < 64) ∧
                        zR (((Int.tmod ((Z22 100 7) + x1) 12) - (Z22 111 x1)) + 12) ∧
                        zR x2 ∧
                        (x2 ≠ 0 → (zR (12 - (Int.tmod (((Int.tmod ((Z22 100 7) + x1) 12) - (Z22 111 x1)) + 12) 12)) ∧ Q (Int.tmod (12 - (Int.tmod (((Int.tmod ((Z22 100 7) + x1) 12) - (Z22 111 x1)) + 12) 12)) 12) Z22)) ∧
                        (¬ x2 ≠ 0 → Q (Int.tmod (((Int.tmod ((Z22 100 7) + x1) 12) - (Z22 111 x1)) + 12) 12) Z22))) ∧
                  (¬ r2 = 0 → TI d 154 [.inr 100, .inl r2] Z16 (fun r30 Z29 =>
                      Q r30 Z29)))) ∧
              (¬ r17 ≠ 0 → TI d 154 [.inr 100, .inl (-2)] Z16 (fun r32 Z31 =>
                  Q r32 Z31)))))) :
    TZ (d + 1) 261 0 [some (.inr 100), some (.inl x1), some (.inl x2), none, none] [] Z (zri Q) := by
  refine z0 (op := 3) (a := 1) (b := 0) (by rfl) (by rfl) (?_ : TZ (d + 1) 261 1 [some (.inr 100), some (.inl x1), some (.inl x2), none, none] [.inl x1] Z (zri Q))
  refine z_si (by rfl) (by rfl) (TI.mono v fun r2 Z1 v => ?_)
  show TZ (d + 1) 261 4 [some (.inr 100), some (.inl x1), some (.inl x2), none, none] [.inl r2] Z1 (zri Q)
  refine z0 (op := 7) (a := 3) (b := 0) (by rfl) (by rfl) (?_ : TZ (d + 1) 261 5 [some (.inr 100), some (.inl x1), some (.inl x2), some (.inl r2), none] [] Z1 (zri Q))
  refine z0 (op := 3) (a := 3) (b := 0) (by rfl) (by rfl) (?_ : TZ (d + 1) 261 6 [some (.inr 100), some (.inl x1), some (.inl x2), some (.inl r2), none] [.inl r2] Z1 (zri Q))
  obtain ⟨c3, v1, v2⟩ := v
  refine z_if0 (a := 1) (t := 21) (by rfl) (by rfl) c3 (fun h4 => ?_) (fun h4 => ?_)
  · have v := v1 h4; clear v1 v2
    show TZ (d + 1) 261 21 [some (.inr 100), some (.inl x1), some (.inl x2), some (.inl r2), none] [] Z1 (zri Q)
    refine z0 (op := 3) (a := 3) (b := 0) (by rfl) (by rfl) (?_ : TZ (d + 1) 261 22 [some (.inr 100), some (.inl x1), some (.inl x2), some (.inl r2), none] [.inl r2] Z1 (zri Q))
    obtain ⟨c5, v1, v2⟩ := v
    refine z_if0 (a := 0) (t := 31) (by rfl) (by rfl) c5 (fun h6 => ?_) (fun h6 => ?_)
    · have v := v1 h6; clear v1 v2
      show TZ (d + 1) 261 31 [some (.inr 100), some (.inl x1), some (.inl x2), some (.inl r2), none] [] Z1 (zri Q)
      refine z0 (op := 5) (a := 0) (b := 0) (by rfl) (by rfl) (?_ : TZ (d + 1) 261 32 [some (.inr 100), some (.inl x1), some (.inl x2), some (.inl r2), none] [.inr 100] Z1 (zri Q))
      refine z0 (op := 3) (a := 1) (b := 0) (by rfl) (by rfl) (?_ : TZ (d + 1) 261 33 [some (.inr 100), some (.inl x1), some (.inl x2), some (.inl r2), none] [.inl x1, .inr 100] Z1 (zri Q))
      refine z_vv (by rfl) (by rfl) cl_100 (TV.mono v fun Z7 v => ?_)
      show TZ (d + 1) 261 36 [some (.inr 100), some (.inl x1), some (.inl x2), some (.inl r2), none] [] Z7 (zri Q)
      refine z0 (op := 5) (a := 0) (b := 0) (by rfl) (by rfl) (?_ : TZ (d + 1) 261 37 [some (.inr 100), some (.inl x1), some (.inl x2), some (.inl r2), none] [.inr 100] Z7 (zri Q))
      refine z_fi (by rfl) fi112_100 (?_ : TZ (d + 1) 261 40 [some (.inr 100), some (.inl x1), some (.inl x2), some (.inl r2), none] [.inl (Z7 100 7)] Z7 (zri Q))
      refine z0 (op := 3) (a := 1) (b := 0) (by rfl) (by rfl) (?_ : TZ (d + 1) 261 41 [some (.inr 100), some (.inl x1), some (.inl x2), some (.inl r2), none] [.inl x1, .inl (Z7 100 7)] Z7 (zri Q))
      refine z0 (op := 12) (a := 0) (b := 0) (by rfl) (by rfl) (?_ : TZ (d + 1) 261 42 [some (.inr 100), some (.inl x1), some (.inl x2), some (.inl r2), none] [.inl ((Z7 100 7) + x1)] Z7 (zri Q))
      refine z0 (op := 1) (a := 0) (b := 12) (by rfl) (by rfl) (?_ : TZ (d + 1) 261 44 [some (.inr 100), some (.inl x1), some (.inl x2), some (.inl r2), none] [.inl 12, .inl ((Z7 100 7) + x1)] Z7 (zri Q))
      obtain ⟨c8, v⟩ := v
      refine z_rem (by rfl) c8 (by decide) (?_ : TZ (d + 1) 261 45 [some (.inr 100), some (.inl x1), some (.inl x2), some (.inl r2), none] [.inl (Int.tmod ((Z7 100 7) + x1) 12)] Z7 (zri Q))
      refine z0 (op := 5) (a := 0) (b := 0) (by rfl) (by rfl) (?_ : TZ (d + 1) 261 46 [some (.inr 100), some (.inl x1), some (.inl x2), some (.inl r2), none] [.inr 100, .inl (Int.tmod ((Z7 100 7) + x1) 12)] Z7 (zri Q))
      refine z_fr (by rfl) fr98_100 (?_ : TZ (d + 1) 261 49 [some (.inr 100), some (.inl x1), some (.inl x2), some (.inl r2), none] [.inr 111, .inl (Int.tmod ((Z7 100 7) + x1) 12)] Z7 (zri Q))
      refine z0 (op := 3) (a := 1) (b := 0) (by rfl) (by rfl) (?_ : TZ (d + 1) 261 50 [some (.inr 100), some (.inl x1), some (.inl x2), some (.inl r2), none] [.inl x1, .inr 111, .inl (Int.tmod ((Z7 100 7) + x1) 12)] Z7 (zri Q))
      obtain ⟨c9, v⟩ := v
      refine z_al (by rfl) ln_111 c9 (?_ : TZ (d + 1) 261 51 [some (.inr 100), some (.inl x1), some (.inl x2), some (.inl r2), none] [.inl (Z7 111 x1), .inl (Int.tmod ((Z7 100 7) + x1) 12)] Z7 (zri Q))
      refine z0 (op := 12) (a := 1) (b := 0) (by rfl) (by rfl) (?_ : TZ (d + 1) 261 52 [some (.inr 100), some (.inl x1), some (.inl x2), some (.inl r2), none] [.inl ((Int.tmod ((Z7 100 7) + x1) 12) - (Z7 111 x1))] Z7 (zri Q))
      refine z0 (op := 1) (a := 0) (b := 12) (by rfl) (by rfl) (?_ : TZ (d + 1) 261 54 [some (.inr 100), some (.inl x1), some (.inl x2), some (.inl r2), none] [.inl 12, .inl ((Int.tmod ((Z7 100 7) + x1) 12) - (Z7 111 x1))] Z7 (zri Q))
      refine z0 (op := 12) (a := 0) (b := 0) (by rfl) (by rfl) (?_ : TZ (d + 1) 261 55 [some (.inr 100), some (.inl x1), some (.inl x2), some (.inl r2), none] [.inl (((Int.tmod ((Z7 100 7) + x1) 12) - (Z7 111 x1)) + 12)] Z7 (zri Q))
      refine z0 (op := 1) (a := 0) (b := 12) (by rfl) (by rfl) (?_ : TZ (d + 1) 261 57 [some (.inr 100), some (.inl x1), some (.inl x2), some (.inl r2), none] [.inl 12, .inl (((Int.tmod ((Z7 100 7) + x1) 12) - (Z7 111 x1)) + 12)] Z7 (zri Q))
      obtain ⟨c10, v⟩ := v
      refine z_rem (by rfl) c10 (by decide) (?_ : TZ (d + 1) 261 58 [some (.inr 100), some (.inl x1), some (.inl x2), some (.inl r2), none] [.inl (Int.tmod (((Int.tmod ((Z7 100 7) + x1) 12) - (Z7 111 x1)) + 12) 12)] Z7 (zri Q))
      refine z0 (op := 8) (a := 4) (b := 0) (by rfl) (by rfl) (?_ : TZ (d + 1) 261 60 [some (.inr 100), some (.inl x1), some (.inl x2), some (.inl r2), some (.inl (Int.tmod (((Int.tmod ((Z7 100 7) + x1) 12) - (Z7 111 x1)) + 12) 12))] [] Z7 (zri Q))
      refine z0 (op := 3) (a := 2) (b := 0) (by rfl) (by rfl) (?_ : TZ (d + 1) 261 61 [some (.inr 100), some (.inl x1), some (.inl x2), some (.inl r2), some (.inl (Int.tmod (((Int.tmod ((Z7 100 7) + x1) 12) - (Z7 111 x1)) + 12) 12))] [.inl x2] Z7 (zri Q))
      obtain ⟨c11, v1, v2⟩ := v
      refine z_if0 (a := 1) (t := 69) (by rfl) (by rfl) c11 (fun h12 => ?_) (fun h12 => ?_)
      · have v := v1 h12; clear v1 v2
        show TZ (d + 1) 261 69 [some (.inr 100), some (.inl x1), some (.inl x2), some (.inl r2), some (.inl (Int.tmod (((Int.tmod ((Z7 100 7) + x1) 12) - (Z7 111 x1)) + 12) 12))] [] Z7 (zri Q)
        refine z0 (op := 1) (a := 0) (b := 12) (by rfl) (by rfl) (?_ : TZ (d + 1) 261 71 [some (.inr 100), some (.inl x1), some (.inl x2), some (.inl r2), some (.inl (Int.tmod (((Int.tmod ((Z7 100 7) + x1) 12) - (Z7 111 x1)) + 12) 12))] [.inl 12] Z7 (zri Q))
        refine z0 (op := 4) (a := 4) (b := 0) (by rfl) (by rfl) (?_ : TZ (d + 1) 261 73 [some (.inr 100), some (.inl x1), some (.inl x2), some (.inl r2), some (.inl (Int.tmod (((Int.tmod ((Z7 100 7) + x1) 12) - (Z7 111 x1)) + 12) 12))] [.inl (Int.tmod (((Int.tmod ((Z7 100 7) + x1) 12) - (Z7 111 x1)) + 12) 12), .inl 12] Z7 (zri Q))
        refine z0 (op := 12) (a := 1) (b := 0) (by rfl) (by rfl) (?_ : TZ (d + 1) 261 74 [some (.inr 100), some (.inl x1), some (.inl x2), some (.inl r2), some (.inl (Int.tmod (((Int.tmod ((Z7 100 7) + x1) 12) - (Z7 111 x1)) + 12) 12))] [.inl (12 - (Int.tmod (((Int.tmod ((Z7 100 7) + x1) 12) - (Z7 111 x1)) + 12) 12))] Z7 (zri Q))
        refine z0 (op := 1) (a := 0) (b := 12) (by rfl) (by rfl) (?_ : TZ (d + 1) 261 76 [some (.inr 100), some (.inl x1), some (.inl x2), some (.inl r2), some (.inl (Int.tmod (((Int.tmod ((Z7 100 7) + x1) 12) - (Z7 111 x1)) + 12) 12))] [.inl 12, .inl (12 - (Int.tmod (((Int.tmod ((Z7 100 7) + x1) 12) - (Z7 111 x1)) + 12) 12))] Z7 (zri Q))
        obtain ⟨c13, v⟩ := v
        refine z_rem (by rfl) c13 (by decide) (?_ : TZ (d + 1) 261 77 [some (.inr 100), some (.inl x1), some (.inl x2), some (.inl r2), some (.inl (Int.tmod (((Int.tmod ((Z7 100 7) + x1) 12) - (Z7 111 x1)) + 12) 12))] [.inl (Int.tmod (12 - (Int.tmod (((Int.tmod ((Z7 100 7) + x1) 12) - (Z7 111 x1)) + 12) 12)) 12)] Z7 (zri Q))
        exact z_reti (by rfl) (by rfl) v
      · have v := v2 h12; clear v1 v2
        show TZ (d + 1) 261 64 [some (.inr 100), some (.inl x1), some (.inl x2), some (.inl r2), some (.inl (Int.tmod (((Int.tmod ((Z7 100 7) + x1) 12) - (Z7 111 x1)) + 12) 12))] [] Z7 (zri Q)
        refine z0 (op := 4) (a := 4) (b := 0) (by rfl) (by rfl) (?_ : TZ (d + 1) 261 66 [some (.inr 100), some (.inl x1), some (.inl x2), some (.inl r2), some (.inl (Int.tmod (((Int.tmod ((Z7 100 7) + x1) 12) - (Z7 111 x1)) + 12) 12))] [.inl (Int.tmod (((Int.tmod ((Z7 100 7) + x1) 12) - (Z7 111 x1)) + 12) 12)] Z7 (zri Q))
        refine z_goto (t := 77) (by rfl) (by rfl) (?_ : TZ (d + 1) 261 77 [some (.inr 100), some (.inl x1), some (.inl x2), some (.inl r2), some (.inl (Int.tmod (((Int.tmod ((Z7 100 7) + x1) 12) - (Z7 111 x1)) + 12) 12))] [.inl (Int.tmod (((Int.tmod ((Z7 100 7) + x1) 12) - (Z7 111 x1)) + 12) 12)] Z7 (zri Q))
        exact z_reti (by rfl) (by rfl) v
    · have v := v2 h6; clear v1 v2
      show TZ (d + 1) 261 25 [some (.inr 100), some (.inl x1), some (.inl x2), some (.inl r2), none] [] Z1 (zri Q)
      refine z0 (op := 5) (a := 0) (b := 0) (by rfl) (by rfl) (?_ : TZ (d + 1) 261 26 [some (.inr 100), some (.inl x1), some (.inl x2), some (.inl r2), none] [.inr 100] Z1 (zri Q))
      refine z0 (op := 3) (a := 3) (b := 0) (by rfl) (by rfl) (?_ : TZ (d + 1) 261 27 [some (.inr 100), some (.inl x1), some (.inl x2), some (.inl r2), none] [.inl r2, .inr 100] Z1 (zri Q))
      refine z_vi (by rfl) (by rfl) cl_100 (TI.mono v fun r15 Z14 v => ?_)
      show TZ (d + 1) 261 30 [some (.inr 100), some (.inl x1), some (.inl x2), some (.inl r2), none] [.inl r15] Z14 (zri Q)
      exact z_reti (by rfl) (by rfl) v
  · have v := v2 h4; clear v1 v2
    show TZ (d + 1) 261 9 [some (.inr 100), some (.inl x1), some (.inl x2), some (.inl r2), none] [] Z1 (zri Q)
    refine z0 (op := 3) (a := 2) (b := 0) (by rfl) (by rfl) (?_ : TZ (d + 1) 261 10 [some (.inr 100), some (.inl x1), some (.inl x2), some (.inl r2), none] [.inl x2] Z1 (zri Q))
    refine z0 (op := 0) (a := 0) (b := 0) (by rfl) (by rfl) (?_ : TZ (d + 1) 261 11 [some (.inr 100), some (.inl x1), some (.inl x2), some (.inl r2), none] [.inl 0, .inl x2] Z1 (zri Q))
    refine z0 (op := 0) (a := 0) (b := 1) (by rfl) (by rfl) (?_ : TZ (d + 1) 261 12 [some (.inr 100), some (.inl x1), some (.inl x2), some (.inl r2), none] [.inl 1, .inl 0, .inl x2] Z1 (zri Q))
    refine z_si (by rfl) (by rfl) (TI.mono v fun r17 Z16 v => ?_)
    show TZ (d + 1) 261 15 [some (.inr 100), some (.inl x1), some (.inl x2), some (.inl r2), none] [.inl r17] Z16 (zri Q)
    obtain ⟨c18, v1, v2⟩ := v
    refine z_if0 (a := 1) (t := 21) (by rfl) (by rfl) c18 (fun h19 => ?_) (fun h19 => ?_)
    · have v := v1 h19; clear v1 v2
      show TZ (d + 1) 261 21 [some (.inr 100), some (.inl x1), some (.inl x2), some (.inl r2), none] [] Z16 (zri Q)
      refine z0 (op := 3) (a := 3) (b := 0) (by rfl) (by rfl) (?_ : TZ (d + 1) 261 22 [some (.inr 100), some (.inl x1), some (.inl x2), some (.inl r2), none] [.inl r2] Z16 (zri Q))
      obtain ⟨c20, v1, v2⟩ := v
      refine z_if0 (a := 0) (t := 31) (by rfl) (by rfl) c20 (fun h21 => ?_) (fun h21 => ?_)
      · have v := v1 h21; clear v1 v2
        show TZ (d + 1) 261 31 [some (.inr 100), some (.inl x1), some (.inl x2), some (.inl r2), none] [] Z16 (zri Q)
        refine z0 (op := 5) (a := 0) (b := 0) (by rfl) (by rfl) (?_ : TZ (d + 1) 261 32 [some (.inr 100), some (.inl x1), some (.inl x2), some (.inl r2), none] [.inr 100] Z16 (zri Q))
        refine z0 (op := 3) (a := 1) (b := 0) (by rfl) (by rfl) (?_ : TZ (d + 1) 261 33 [some (.inr 100), some (.inl x1), some (.inl x2), some (.inl r2), none] [.inl x1, .inr 100] Z16 (zri Q))
        refine z_vv (by rfl) (by rfl) cl_100 (TV.mono v fun Z22 v => ?_)
        show TZ (d + 1) 261 36 [some (.inr 100), some (.inl x1), some (.inl x2), some (.inl r2), none] [] Z22 (zri Q)
        refine z0 (op := 5) (a := 0) (b := 0) (by rfl) (by rfl) (?_ : TZ (d + 1) 261 37 [some (.inr 100), some (.inl x1), some (.inl x2), some (.inl r2), none] [.inr 100] Z22 (zri Q))
        refine z_fi (by rfl) fi112_100 (?_ : TZ (d + 1) 261 40 [some (.inr 100), some (.inl x1), some (.inl x2), some (.inl r2), none] [.inl (Z22 100 7)] Z22 (zri Q))
        refine z0 (op := 3) (a := 1) (b := 0) (by rfl) (by rfl) (?_ : TZ (d + 1) 261 41 [some (.inr 100), some (.inl x1), some (.inl x2), some (.inl r2), none] [.inl x1, .inl (Z22 100 7)] Z22 (zri Q))
        refine z0 (op := 12) (a := 0) (b := 0) (by rfl) (by rfl) (?_ : TZ (d + 1) 261 42 [some (.inr 100), some (.inl x1), some (.inl x2), some (.inl r2), none] [.inl ((Z22 100 7) + x1)] Z22 (zri Q))
        refine z0 (op := 1) (a := 0) (b := 12) (by rfl) (by rfl) (?_ : TZ (d + 1) 261 44 [some (.inr 100), some (.inl x1), some (.inl x2), some (.inl r2), none] [.inl 12, .inl ((Z22 100 7) + x1)] Z22 (zri Q))
        obtain ⟨c23, v⟩ := v
        refine z_rem (by rfl) c23 (by decide) (?_ : TZ (d + 1) 261 45 [some (.inr 100), some (.inl x1), some (.inl x2), some (.inl r2), none] [.inl (Int.tmod ((Z22 100 7) + x1) 12)] Z22 (zri Q))
        refine z0 (op := 5) (a := 0) (b := 0) (by rfl) (by rfl) (?_ : TZ (d + 1) 261 46 [some (.inr 100), some (.inl x1), some (.inl x2), some (.inl r2), none] [.inr 100, .inl (Int.tmod ((Z22 100 7) + x1) 12)] Z22 (zri Q))
        refine z_fr (by rfl) fr98_100 (?_ : TZ (d + 1) 261 49 [some (.inr 100), some (.inl x1), some (.inl x2), some (.inl r2), none] [.inr 111, .inl (Int.tmod ((Z22 100 7) + x1) 12)] Z22 (zri Q))
        refine z0 (op := 3) (a := 1) (b := 0) (by rfl) (by rfl) (?_ : TZ (d + 1) 261 50 [some (.inr 100), some (.inl x1), some (.inl x2), some (.inl r2), none] [.inl x1, .inr 111, .inl (Int.tmod ((Z22 100 7) + x1) 12)] Z22 (zri Q))
        obtain ⟨c24, v⟩ := v
        refine z_al (by rfl) ln_111 c24 (?_ : TZ (d + 1) 261 51 [some (.inr 100), some (.inl x1), some (.inl x2), some (.inl r2), none] [.inl (Z22 111 x1), .inl (Int.tmod ((Z22 100 7) + x1) 12)] Z22 (zri Q))
        refine z0 (op := 12) (a := 1) (b := 0) (by rfl) (by rfl) (?_ : TZ (d + 1) 261 52 [some (.inr 100), some (.inl x1), some (.inl x2), some (.inl r2), none] [.inl ((Int.tmod ((Z22 100 7) + x1) 12) - (Z22 111 x1))] Z22 (zri Q))
        refine z0 (op := 1) (a := 0) (b := 12) (by rfl) (by rfl) (?_ : TZ (d + 1) 261 54 [some (.inr 100), some (.inl x1), some (.inl x2), some (.inl r2), none] [.inl 12, .inl ((Int.tmod ((Z22 100 7) + x1) 12) - (Z22 111 x1))] Z22 (zri Q))
        refine z0 (op := 12) (a := 0) (b := 0) (by rfl) (by rfl) (?_ : TZ (d + 1) 261 55 [some (.inr 100), some (.inl x1), some (.inl x2), some (.inl r2), none] [.inl (((Int.tmod ((Z22 100 7) + x1) 12) - (Z22 111 x1)) + 12)] Z22 (zri Q))
        refine z0 (op := 1) (a := 0) (b := 12) (by rfl) (by rfl) (?_ : TZ (d + 1) 261 57 [some (.inr 100), some (.inl x1), some (.inl x2), some (.inl r2), none] [.inl 12, .inl (((Int.tmod ((Z22 100 7) + x1) 12) - (Z22 111 x1)) + 12)] Z22 (zri Q))
        obtain ⟨c25, v⟩ := v
        refine z_rem (by rfl) c25 (by decide) (?_ : TZ (d + 1) 261 58 [some (.inr 100), some (.inl x1), some (.inl x2), some (.inl r2), none] [.inl (Int.tmod (((Int.tmod ((Z22 100 7) + x1) 12) - (Z22 111 x1)) + 12) 12)] Z22 (zri Q))
        refine z0 (op := 8) (a := 4) (b := 0) (by rfl) (by rfl) (?_ : TZ (d + 1) 261 60 [some (.inr 100), some (.inl x1), some (.inl x2), some (.inl r2), some (.inl (Int.tmod (((Int.tmod ((Z22 100 7) + x1) 12) - (Z22 111 x1)) + 12) 12))] [] Z22 (zri Q))
        refine z0 (op := 3) (a := 2) (b := 0) (by rfl) (by rfl) (?_ : TZ (d + 1) 261 61 [some (.inr 100), some (.inl x1), some (.inl x2), some (.inl r2), some (.inl (Int.tmod (((Int.tmod ((Z22 100 7) + x1) 12) - (Z22 111 x1)) + 12) 12))] [.inl x2] Z22 (zri Q))
        obtain ⟨c26, v1, v2⟩ := v
        refine z_if0 (a := 1) (t := 69) (by rfl) (by rfl) c26 (fun h27 => ?_) (fun h27 => ?_)
        · have v := v1 h27; clear v1 v2
          show TZ (d + 1) 261 69 [some (.inr 100), some (.inl x1), some (.inl x2), some (.inl r2), some (.inl (Int.tmod (((Int.tmod ((Z22 100 7) + x1) 12) - (Z22 111 x1)) + 12) 12))] [] Z22 (zri Q)
          refine z0 (op := 1) (a := 0) (b := 12) (by rfl) (by rfl) (?_ : TZ (d + 1) 261 71 [some (.inr 100), some (.inl x1), some (.inl x2), some (.inl r2), some (.inl (Int.tmod (((Int.tmod ((Z22 100 7) + x1) 12) - (Z22 111 x1)) + 12) 12))] [.inl 12] Z22 (zri Q))
          refine z0 (op := 4) (a := 4) (b := 0) (by rfl) (by rfl) (?_ : TZ (d + 1) 261 73 [some (.inr 100), some (.inl x1), some (.inl x2), some (.inl r2), some (.inl (Int.tmod (((Int.tmod ((Z22 100 7) + x1) 12) - (Z22 111 x1)) + 12) 12))] [.inl (Int.tmod (((Int.tmod ((Z22 100 7) + x1) 12) - (Z22 111 x1)) + 12) 12), .inl 12] Z22 (zri Q))
          refine z0 (op := 12) (a := 1) (b := 0) (by rfl) (by rfl) (?_ : TZ (d + 1) 261 74 [some (.inr 100), some (.inl x1), some (.inl x2), some (.inl r2), some (.inl (Int.tmod (((Int.tmod ((Z22 100 7) + x1) 12) - (Z22 111 x1)) + 12) 12))] [.inl (12 - (Int.tmod (((Int.tmod ((Z22 100 7) + x1) 12) - (Z22 111 x1)) + 12) 12))] Z22 (zri Q))
          refine z0 (op := 1) (a := 0) (b := 12) (by rfl) (by rfl) (?_ : TZ (d + 1) 261 76 [some (.inr 100), some (.inl x1), some (.inl x2), some (.inl r2), some (.inl (Int.tmod (((Int.tmod ((Z22 100 7) + x1) 12) - (Z22 111 x1)) + 12) 12))] [.inl 12, .inl (12 - (Int.tmod (((Int.tmod ((Z22 100 7) + x1) 12) - (Z22 111 x1)) + 12) 12))] Z22 (zri Q))
          obtain ⟨c28, v⟩ := v
          refine z_rem (by rfl) c28 (by decide) (?_ : TZ (d + 1) 261 77 [some (.inr 100), some (.inl x1), some (.inl x2), some (.inl r2), some (.inl (Int.tmod (((Int.tmod ((Z22 100 7) + x1) 12) - (Z22 111 x1)) + 12) 12))] [.inl (Int.tmod (12 - (Int.tmod (((Int.tmod ((Z22 100 7) + x1) 12) - (Z22 111 x1)) + 12) 12)) 12)] Z22 (zri Q))
          exact z_reti (by rfl) (by rfl) v
        · have v := v2 h27; clear v1 v2
          show TZ (d + 1) 261 64 [some (.inr 100), some (.inl x1), some (.inl x2), some (.inl r2), some (.inl (Int.tmod (((Int.tmod ((Z22 100 7) + x1) 12) - (Z22 111 x1)) + 12) 12))] [] Z22 (zri Q)
          refine z0 (op := 4) (a := 4) (b := 0) (by rfl) (by rfl) (?_ : TZ (d + 1) 261 66 [some (.inr 100), some (.inl x1), some (.inl x2), some (.inl r2), some (.inl (Int.tmod (((Int.tmod ((Z22 100 7) + x1) 12) - (Z22 111 x1)) + 12) 12))] [.inl (Int.tmod (((Int.tmod ((Z22 100 7) + x1) 12) - (Z22 111 x1)) + 12) 12)] Z22 (zri Q))
          refine z_goto (t := 77) (by rfl) (by rfl) (?_ : TZ (d + 1) 261 77 [some (.inr 100), some (.inl x1), some (.inl x2), some (.inl r2), some (.inl (Int.tmod (((Int.tmod ((Z22 100 7) + x1) 12) - (Z22 111 x1)) + 12) 12))] [.inl (Int.tmod (((Int.tmod ((Z22 100 7) + x1) 12) - (Z22 111 x1)) + 12) 12)] Z22 (zri Q))
          exact z_reti (by rfl) (by rfl) v
      · have v := v2 h21; clear v1 v2
        show TZ (d + 1) 261 25 [some (.inr 100), some (.inl x1), some (.inl x2), some (.inl r2), none] [] Z16 (zri Q)
        refine z0 (op := 5) (a := 0) (b := 0) (by rfl) (by rfl) (?_ : TZ (d + 1) 261 26 [some (.inr 100), some (.inl x1), some (.inl x2), some (.inl r2), none] [.inr 100] Z16 (zri Q))
        refine z0 (op := 3) (a := 3) (b := 0) (by rfl) (by rfl) (?_ : TZ (d + 1) 261 27 [some (.inr 100), some (.inl x1), some (.inl x2), some (.inl r2), none] [.inl r2, .inr 100] Z16 (zri Q))
        refine z_vi (by rfl) (by rfl) cl_100 (TI.mono v fun r30 Z29 v => ?_)
        show TZ (d + 1) 261 30 [some (.inr 100), some (.inl x1), some (.inl x2), some (.inl r2), none] [.inl r30] Z29 (zri Q)
        exact z_reti (by rfl) (by rfl) v
    · have v := v2 h19; clear v1 v2
      show TZ (d + 1) 261 18 [some (.inr 100), some (.inl x1), some (.inl x2), some (.inl r2), none] [] Z16 (zri Q)
      refine z0 (op := 1) (a := 0) (b := (-2)) (by rfl) (by rfl) (?_ : TZ (d + 1) 261 20 [some (.inr 100), some (.inl x1), some (.inl x2), some (.inl r2), none] [.inl (-2)] Z16 (zri Q))
      refine z0 (op := 7) (a := 3) (b := 0) (by rfl) (by rfl) (?_ : TZ (d + 1) 261 21 [some (.inr 100), some (.inl x1), some (.inl x2), some (.inl (-2)), none] [] Z16 (zri Q))
      refine z0 (op := 3) (a := 3) (b := 0) (by rfl) (by rfl) (?_ : TZ (d + 1) 261 22 [some (.inr 100), some (.inl x1), some (.inl x2), some (.inl (-2)), none] [.inl (-2)] Z16 (zri Q))
      refine z_if0 (a := 0) (t := 31) (by rfl) (by rfl) (by decide) (fun h => absurd (show ((-2) : Int) = (0 : Int) from h) (by decide)) (fun _ => ?_)
      show TZ (d + 1) 261 25 [some (.inr 100), some (.inl x1), some (.inl x2), some (.inl (-2)), none] [] Z16 (zri Q)
      refine z0 (op := 5) (a := 0) (b := 0) (by rfl) (by rfl) (?_ : TZ (d + 1) 261 26 [some (.inr 100), some (.inl x1), some (.inl x2), some (.inl (-2)), none] [.inr 100] Z16 (zri Q))
      refine z0 (op := 3) (a := 3) (b := 0) (by rfl) (by rfl) (?_ : TZ (d + 1) 261 27 [some (.inr 100), some (.inl x1), some (.inl x2), some (.inl (-2)), none] [.inl (-2), .inr 100] Z16 (zri Q))
      refine z_vi (by rfl) (by rfl) cl_100 (TI.mono v fun r32 Z31 v => ?_)
      show TZ (d + 1) 261 30 [some (.inr 100), some (.inl x1), some (.inl x2), some (.inl (-2)), none] [.inl r32] Z31 (zri Q)
      exact z_reti (by rfl) (by rfl) v
theorem w262_0 {d : Nat} {x1 : Int} {Z : zM} {Q : Int → zM → Prop}
    (v : TI d 206 [.inl x1] Z (fun r2 Z1 =>
      zR r2 ∧
        (r2 = 0 → TV d 205 [.inr 100, .inl x1] Z1 (fun Z5 =>
            TZ (d + 1) 262 25 [some (.inr 100), some (.inl x1), some (.inl r2), some (.inl 0), some (.inl 0)] [] Z5 (zri Q))) ∧
        (¬ r2 = 0 → TI d 154 [.inr 100, .inl r2] Z1 (fun r7 Z6 =>
            Q r7 Z6)))) :
    TZ (d + 1) 262 0 [some (.inr 100), some (.inl x1), none, none, none] [] Z (zri Q) := by
  refine z0 (op := 3) (a := 1) (b := 0) (by rfl) (by rfl) (?_ : TZ (d + 1) 262 1 [some (.inr 100), some (.inl x1), none, none, none] [.inl x1] Z (zri Q))
  refine z_si (by rfl) (by rfl) (TI.mono v fun r2 Z1 v => ?_)
  show TZ (d + 1) 262 4 [some (.inr 100), some (.inl x1), none, none, none] [.inl r2] Z1 (zri Q)
  refine z0 (op := 7) (a := 2) (b := 0) (by rfl) (by rfl) (?_ : TZ (d + 1) 262 5 [some (.inr 100), some (.inl x1), some (.inl r2), none, none] [] Z1 (zri Q))
  refine z0 (op := 3) (a := 2) (b := 0) (by rfl) (by rfl) (?_ : TZ (d + 1) 262 6 [some (.inr 100), some (.inl x1), some (.inl r2), none, none] [.inl r2] Z1 (zri Q))
  obtain ⟨c3, v1, v2⟩ := v
  refine z_if0 (a := 0) (t := 15) (by rfl) (by rfl) c3 (fun h4 => ?_) (fun h4 => ?_)
  · have v := v1 h4; clear v1 v2
    show TZ (d + 1) 262 15 [some (.inr 100), some (.inl x1), some (.inl r2), none, none] [] Z1 (zri Q)
    refine z0 (op := 5) (a := 0) (b := 0) (by rfl) (by rfl) (?_ : TZ (d + 1) 262 16 [some (.inr 100), some (.inl x1), some (.inl r2), none, none] [.inr 100] Z1 (zri Q))
    refine z0 (op := 3) (a := 1) (b := 0) (by rfl) (by rfl) (?_ : TZ (d + 1) 262 17 [some (.inr 100), some (.inl x1), some (.inl r2), none, none] [.inl x1, .inr 100] Z1 (zri Q))
    refine z_vv (by rfl) (by rfl) cl_100 (TV.mono v fun Z5 v => ?_)
    show TZ (d + 1) 262 20 [some (.inr 100), some (.inl x1), some (.inl r2), none, none] [] Z5 (zri Q)
    refine z0 (op := 0) (a := 0) (b := 0) (by rfl) (by rfl) (?_ : TZ (d + 1) 262 21 [some (.inr 100), some (.inl x1), some (.inl r2), none, none] [.inl 0] Z5 (zri Q))
    refine z0 (op := 7) (a := 3) (b := 0) (by rfl) (by rfl) (?_ : TZ (d + 1) 262 22 [some (.inr 100), some (.inl x1), some (.inl r2), some (.inl 0), none] [] Z5 (zri Q))
    refine z0 (op := 0) (a := 0) (b := 0) (by rfl) (by rfl) (?_ : TZ (d + 1) 262 23 [some (.inr 100), some (.inl x1), some (.inl r2), some (.inl 0), none] [.inl 0] Z5 (zri Q))
    refine z0 (op := 8) (a := 4) (b := 0) (by rfl) (by rfl) (?_ : TZ (d + 1) 262 25 [some (.inr 100), some (.inl x1), some (.inl r2), some (.inl 0), some (.inl 0)] [] Z5 (zri Q))
    exact v
  · have v := v2 h4; clear v1 v2
    show TZ (d + 1) 262 9 [some (.inr 100), some (.inl x1), some (.inl r2), none, none] [] Z1 (zri Q)
    refine z0 (op := 5) (a := 0) (b := 0) (by rfl) (by rfl) (?_ : TZ (d + 1) 262 10 [some (.inr 100), some (.inl x1), some (.inl r2), none, none] [.inr 100] Z1 (zri Q))
    refine z0 (op := 3) (a := 2) (b := 0) (by rfl) (by rfl) (?_ : TZ (d + 1) 262 11 [some (.inr 100), some (.inl x1), some (.inl r2), none, none] [.inl r2, .inr 100] Z1 (zri Q))
    refine z_vi (by rfl) (by rfl) cl_100 (TI.mono v fun r7 Z6 v => ?_)
    show TZ (d + 1) 262 14 [some (.inr 100), some (.inl x1), some (.inl r2), none, none] [.inl r7] Z6 (zri Q)
    exact z_reti (by rfl) (by rfl) v
theorem w262_25 {d : Nat} {x1 x2 x3 x4 : Int} {Z : zM} {Q : Int → zM → Prop}
    (v : zR x4 ∧
      zR x1 ∧
      (x1 ≤ x4 → Q (zbit 3 ((zbit 6 1 (Z 100 5)) - 1) (zbit 5 x3 (-1))) Z) ∧
      (¬ x1 ≤ x4 → ((0 ≤ x4 ∧ x4 < 64) ∧ TZ d 262 25 [some (.inr 100), some (.inl x1), some (.inl x2), some (.inl (zbit 4 x3 (Z 113 x4))), some (.inl (x4 + 1))] [] Z (zri Q)))) :
    TZ d 262 25 [some (.inr 100), some (.inl x1), some (.inl x2), some (.inl x3), some (.inl x4)] [] Z (zri Q) := by
  refine z0 (op := 4) (a := 4) (b := 0) (by rfl) (by rfl) (?_ : TZ d 262 27 [some (.inr 100), some (.inl x1), some (.inl x2), some (.inl x3), some (.inl x4)] [.inl x4] Z (zri Q))
  refine z0 (op := 3) (a := 1) (b := 0) (by rfl) (by rfl) (?_ : TZ d 262 28 [some (.inr 100), some (.inl x1), some (.inl x2), some (.inl x3), some (.inl x4)] [.inl x1, .inl x4] Z (zri Q))
  obtain ⟨c1, c2, v1, v2⟩ := v
  refine z_if2 (a := 3) (t := 47) (by rfl) (by rfl) c1 c2 (fun h3 => ?_) (fun h3 => ?_)
  · have v := v1 h3; clear v1 v2
    show TZ d 262 47 [some (.inr 100), some (.inl x1), some (.inl x2), some (.inl x3), some (.inl x4)] [] Z (zri Q)
    refine z0 (op := 0) (a := 0) (b := 1) (by rfl) (by rfl) (?_ : TZ d 262 48 [some (.inr 100), some (.inl x1), some (.inl x2), some (.inl x3), some (.inl x4)] [.inl 1] Z (zri Q))
    refine z0 (op := 5) (a := 0) (b := 0) (by rfl) (by rfl) (?_ : TZ d 262 49 [some (.inr 100), some (.inl x1), some (.inl x2), some (.inl x3), some (.inl x4)] [.inr 100, .inl 1] Z (zri Q))
    refine z_fi (by rfl) fi111_100 (?_ : TZ d 262 52 [some (.inr 100), some (.inl x1), some (.inl x2), some (.inl x3), some (.inl x4)] [.inl (Z 100 5), .inl 1] Z (zri Q))
    refine z0 (op := 12) (a := 6) (b := 0) (by rfl) (by rfl) (?_ : TZ d 262 53 [some (.inr 100), some (.inl x1), some (.inl x2), some (.inl x3), some (.inl x4)] [.inl (zbit 6 1 (Z 100 5))] Z (zri Q))
    refine z0 (op := 0) (a := 0) (b := 1) (by rfl) (by rfl) (?_ : TZ d 262 54 [some (.inr 100), some (.inl x1), some (.inl x2), some (.inl x3), some (.inl x4)] [.inl 1, .inl (zbit 6 1 (Z 100 5))] Z (zri Q))
    refine z0 (op := 12) (a := 1) (b := 0) (by rfl) (by rfl) (?_ : TZ d 262 55 [some (.inr 100), some (.inl x1), some (.inl x2), some (.inl x3), some (.inl x4)] [.inl ((zbit 6 1 (Z 100 5)) - 1)] Z (zri Q))
    refine z0 (op := 3) (a := 3) (b := 0) (by rfl) (by rfl) (?_ : TZ d 262 56 [some (.inr 100), some (.inl x1), some (.inl x2), some (.inl x3), some (.inl x4)] [.inl x3, .inl ((zbit 6 1 (Z 100 5)) - 1)] Z (zri Q))
    refine z0 (op := 0) (a := 0) (b := (-1)) (by rfl) (by rfl) (?_ : TZ d 262 57 [some (.inr 100), some (.inl x1), some (.inl x2), some (.inl x3), some (.inl x4)] [.inl (-1), .inl x3, .inl ((zbit 6 1 (Z 100 5)) - 1)] Z (zri Q))
    refine z0 (op := 12) (a := 5) (b := 0) (by rfl) (by rfl) (?_ : TZ d 262 58 [some (.inr 100), some (.inl x1), some (.inl x2), some (.inl x3), some (.inl x4)] [.inl (zbit 5 x3 (-1)), .inl ((zbit 6 1 (Z 100 5)) - 1)] Z (zri Q))
    refine z0 (op := 12) (a := 3) (b := 0) (by rfl) (by rfl) (?_ : TZ d 262 59 [some (.inr 100), some (.inl x1), some (.inl x2), some (.inl x3), some (.inl x4)] [.inl (zbit 3 ((zbit 6 1 (Z 100 5)) - 1) (zbit 5 x3 (-1)))] Z (zri Q))
    exact z_reti (by rfl) (by rfl) v
  · have v := v2 h3; clear v1 v2
    show TZ d 262 31 [some (.inr 100), some (.inl x1), some (.inl x2), some (.inl x3), some (.inl x4)] [] Z (zri Q)
    refine z0 (op := 3) (a := 3) (b := 0) (by rfl) (by rfl) (?_ : TZ d 262 32 [some (.inr 100), some (.inl x1), some (.inl x2), some (.inl x3), some (.inl x4)] [.inl x3] Z (zri Q))
    refine z0 (op := 5) (a := 0) (b := 0) (by rfl) (by rfl) (?_ : TZ d 262 33 [some (.inr 100), some (.inl x1), some (.inl x2), some (.inl x3), some (.inl x4)] [.inr 100, .inl x3] Z (zri Q))
    refine z_fr (by rfl) fr100_100 (?_ : TZ d 262 36 [some (.inr 100), some (.inl x1), some (.inl x2), some (.inl x3), some (.inl x4)] [.inr 113, .inl x3] Z (zri Q))
    refine z0 (op := 4) (a := 4) (b := 0) (by rfl) (by rfl) (?_ : TZ d 262 38 [some (.inr 100), some (.inl x1), some (.inl x2), some (.inl x3), some (.inl x4)] [.inl x4, .inr 113, .inl x3] Z (zri Q))
    obtain ⟨c4, v⟩ := v
    refine z_al (by rfl) ln_113 c4 (?_ : TZ d 262 39 [some (.inr 100), some (.inl x1), some (.inl x2), some (.inl x3), some (.inl x4)] [.inl (Z 113 x4), .inl x3] Z (zri Q))
    refine z0 (op := 12) (a := 4) (b := 0) (by rfl) (by rfl) (?_ : TZ d 262 40 [some (.inr 100), some (.inl x1), some (.inl x2), some (.inl x3), some (.inl x4)] [.inl (zbit 4 x3 (Z 113 x4))] Z (zri Q))
    refine z0 (op := 7) (a := 3) (b := 0) (by rfl) (by rfl) (?_ : TZ d 262 41 [some (.inr 100), some (.inl x1), some (.inl x2), some (.inl (zbit 4 x3 (Z 113 x4))), some (.inl x4)] [] Z (zri Q))
    refine z0 (op := 11) (a := 4) (b := 1) (by rfl) (by rfl) (?_ : TZ d 262 44 [some (.inr 100), some (.inl x1), some (.inl x2), some (.inl (zbit 4 x3 (Z 113 x4))), some (.inl (x4 + 1))] [] Z (zri Q))
    refine z_goto (t := 25) (by rfl) (by rfl) (?_ : TZ d 262 25 [some (.inr 100), some (.inl x1), some (.inl x2), some (.inl (zbit 4 x3 (Z 113 x4))), some (.inl (x4 + 1))] [] Z (zri Q))
    exact v
theorem w263_0 {d : Nat} {x1 x2 x3 : Int} {Z : zM} {Q : Int → zM → Prop}
    (v : TV d 179 [.inr 100] Z (fun Z1 =>
      TZ (d + 1) 263 7 [some (.inr 100), some (.inl x1), some (.inl x2), some (.inl x3), some (.inl 0)] [] Z1 (zri Q))) :
    TZ (d + 1) 263 0 [some (.inr 100), some (.inl x1), some (.inl x2), some (.inl x3), none] [] Z (zri Q) := by
  refine z0 (op := 5) (a := 0) (b := 0) (by rfl) (by rfl) (?_ : TZ (d + 1) 263 1 [some (.inr 100), some (.inl x1), some (.inl x2), some (.inl x3), none] [.inr 100] Z (zri Q))
  refine z_vv (by rfl) (by rfl) cl_100 (TV.mono v fun Z1 v => ?_)
  show TZ (d + 1) 263 4 [some (.inr 100), some (.inl x1), some (.inl x2), some (.inl x3), none] [] Z1 (zri Q)
  refine z0 (op := 0) (a := 0) (b := 0) (by rfl) (by rfl) (?_ : TZ (d + 1) 263 5 [some (.inr 100), some (.inl x1), some (.inl x2), some (.inl x3), none] [.inl 0] Z1 (zri Q))
  refine z0 (op := 8) (a := 4) (b := 0) (by rfl) (by rfl) (?_ : TZ (d + 1) 263 7 [some (.inr 100), some (.inl x1), some (.inl x2), some (.inl x3), some (.inl 0)] [] Z1 (zri Q))
  exact v
theorem w263_7 {d : Nat} {x1 x2 x3 x4 : Int} {Z : zM} {Q : Int → zM → Prop}
    (v : zR x4 ∧
      zR x1 ∧
      (x1 ≤ x4 → (zR x2 ∧
          (x2 < 0 → TI d 216 [.inr 100] Z (fun r7 Z6 =>
              TI d 257 [.inl r7] Z6 (fun r9 Z8 =>
                zR r9 ∧
                  zR x3 ∧
                  (x3 < r9 → TV d 180 [.inr 100] Z8 (fun Z13 =>
                      Q 0 Z13)) ∧
                  (¬ x3 < r9 → TV d 180 [.inr 100] Z8 (fun Z14 =>
                      Q 1 Z14))))) ∧
          (¬ x2 < 0 → ((0 ≤ x2 ∧ x2 < 8) ∧
              zR (Z 105 x2) ∧
              zR x3 ∧
              ((Z 105 x2) ≠ x3 → TV d 180 [.inr 100] Z (fun Z19 =>
                  Q 0 Z19)) ∧
              (¬ (Z 105 x2) ≠ x3 → TV d 180 [.inr 100] Z (fun Z20 =>
                  Q 1 Z20)))))) ∧
      (¬ x1 ≤ x4 → ((0 ≤ x4 ∧ x4 < 4) ∧
          TI d 188 [.inr 100, .inl ((Z 114 x4) - 1)] Z (fun r23 Z22 =>
          TZ (d + 1) 263 7 [some (.inr 100), some (.inl x1), some (.inl x2), some (.inl x3), some (.inl (x4 + 1))] [] Z22 (zri Q))))) :
    TZ (d + 1) 263 7 [some (.inr 100), some (.inl x1), some (.inl x2), some (.inl x3), some (.inl x4)] [] Z (zri Q) := by
  refine z0 (op := 4) (a := 4) (b := 0) (by rfl) (by rfl) (?_ : TZ (d + 1) 263 9 [some (.inr 100), some (.inl x1), some (.inl x2), some (.inl x3), some (.inl x4)] [.inl x4] Z (zri Q))
  refine z0 (op := 3) (a := 1) (b := 0) (by rfl) (by rfl) (?_ : TZ (d + 1) 263 10 [some (.inr 100), some (.inl x1), some (.inl x2), some (.inl x3), some (.inl x4)] [.inl x1, .inl x4] Z (zri Q))
  obtain ⟨c1, c2, v1, v2⟩ := v
  refine z_if2 (a := 3) (t := 33) (by rfl) (by rfl) c1 c2 (fun h3 => ?_) (fun h3 => ?_)
  · have v := v1 h3; clear v1 v2
    show TZ (d + 1) 263 33 [some (.inr 100), some (.inl x1), some (.inl x2), some (.inl x3), some (.inl x4)] [] Z (zri Q)
    refine z0 (op := 3) (a := 2) (b := 0) (by rfl) (by rfl) (?_ : TZ (d + 1) 263 34 [some (.inr 100), some (.inl x1), some (.inl x2), some (.inl x3), some (.inl x4)] [.inl x2] Z (zri Q))
    obtain ⟨c4, v1, v2⟩ := v
    refine z_if0 (a := 2) (t := 55) (by rfl) (by rfl) c4 (fun h5 => ?_) (fun h5 => ?_)
    · have v := v1 h5; clear v1 v2
      show TZ (d + 1) 263 55 [some (.inr 100), some (.inl x1), some (.inl x2), some (.inl x3), some (.inl x4)] [] Z (zri Q)
      refine z0 (op := 5) (a := 0) (b := 0) (by rfl) (by rfl) (?_ : TZ (d + 1) 263 56 [some (.inr 100), some (.inl x1), some (.inl x2), some (.inl x3), some (.inl x4)] [.inr 100] Z (zri Q))
      refine z_vi (by rfl) (by rfl) cl_100 (TI.mono v fun r7 Z6 v => ?_)
      show TZ (d + 1) 263 59 [some (.inr 100), some (.inl x1), some (.inl x2), some (.inl x3), some (.inl x4)] [.inl r7] Z6 (zri Q)
      refine z_si (by rfl) (by rfl) (TI.mono v fun r9 Z8 v => ?_)
      show TZ (d + 1) 263 62 [some (.inr 100), some (.inl x1), some (.inl x2), some (.inl x3), some (.inl x4)] [.inl r9] Z8 (zri Q)
      refine z0 (op := 3) (a := 3) (b := 0) (by rfl) (by rfl) (?_ : TZ (d + 1) 263 63 [some (.inr 100), some (.inl x1), some (.inl x2), some (.inl x3), some (.inl x4)] [.inl x3, .inl r9] Z8 (zri Q))
      obtain ⟨c10, c11, v1, v2⟩ := v
      refine z_if2 (a := 4) (t := 70) (by rfl) (by rfl) c10 c11 (fun h12 => ?_) (fun h12 => ?_)
      · have v := v1 h12; clear v1 v2
        show TZ (d + 1) 263 70 [some (.inr 100), some (.inl x1), some (.inl x2), some (.inl x3), some (.inl x4)] [] Z8 (zri Q)
        refine z0 (op := 0) (a := 0) (b := 0) (by rfl) (by rfl) (?_ : TZ (d + 1) 263 71 [some (.inr 100), some (.inl x1), some (.inl x2), some (.inl x3), some (.inl x4)] [.inl 0] Z8 (zri Q))
        refine z0 (op := 8) (a := 4) (b := 0) (by rfl) (by rfl) (?_ : TZ (d + 1) 263 73 [some (.inr 100), some (.inl x1), some (.inl x2), some (.inl x3), some (.inl 0)] [] Z8 (zri Q))
        refine z0 (op := 5) (a := 0) (b := 0) (by rfl) (by rfl) (?_ : TZ (d + 1) 263 74 [some (.inr 100), some (.inl x1), some (.inl x2), some (.inl x3), some (.inl 0)] [.inr 100] Z8 (zri Q))
        refine z_vv (by rfl) (by rfl) cl_100 (TV.mono v fun Z13 v => ?_)
        show TZ (d + 1) 263 77 [some (.inr 100), some (.inl x1), some (.inl x2), some (.inl x3), some (.inl 0)] [] Z13 (zri Q)
        refine z0 (op := 4) (a := 4) (b := 0) (by rfl) (by rfl) (?_ : TZ (d + 1) 263 79 [some (.inr 100), some (.inl x1), some (.inl x2), some (.inl x3), some (.inl 0)] [.inl 0] Z13 (zri Q))
        exact z_retb (by rfl) (by rfl) (by decide) v
      · have v := v2 h12; clear v1 v2
        show TZ (d + 1) 263 66 [some (.inr 100), some (.inl x1), some (.inl x2), some (.inl x3), some (.inl x4)] [] Z8 (zri Q)
        refine z0 (op := 0) (a := 0) (b := 1) (by rfl) (by rfl) (?_ : TZ (d + 1) 263 67 [some (.inr 100), some (.inl x1), some (.inl x2), some (.inl x3), some (.inl x4)] [.inl 1] Z8 (zri Q))
        refine z_goto (t := 71) (by rfl) (by rfl) (?_ : TZ (d + 1) 263 71 [some (.inr 100), some (.inl x1), some (.inl x2), some (.inl x3), some (.inl x4)] [.inl 1] Z8 (zri Q))
        refine z0 (op := 8) (a := 4) (b := 0) (by rfl) (by rfl) (?_ : TZ (d + 1) 263 73 [some (.inr 100), some (.inl x1), some (.inl x2), some (.inl x3), some (.inl 1)] [] Z8 (zri Q))
        refine z0 (op := 5) (a := 0) (b := 0) (by rfl) (by rfl) (?_ : TZ (d + 1) 263 74 [some (.inr 100), some (.inl x1), some (.inl x2), some (.inl x3), some (.inl 1)] [.inr 100] Z8 (zri Q))
        refine z_vv (by rfl) (by rfl) cl_100 (TV.mono v fun Z14 v => ?_)
        show TZ (d + 1) 263 77 [some (.inr 100), some (.inl x1), some (.inl x2), some (.inl x3), some (.inl 1)] [] Z14 (zri Q)
        refine z0 (op := 4) (a := 4) (b := 0) (by rfl) (by rfl) (?_ : TZ (d + 1) 263 79 [some (.inr 100), some (.inl x1), some (.inl x2), some (.inl x3), some (.inl 1)] [.inl 1] Z14 (zri Q))
        exact z_retb (by rfl) (by rfl) (by decide) v
    · have v := v2 h5; clear v1 v2
      show TZ (d + 1) 263 37 [some (.inr 100), some (.inl x1), some (.inl x2), some (.inl x3), some (.inl x4)] [] Z (zri Q)
      refine z0 (op := 5) (a := 0) (b := 0) (by rfl) (by rfl) (?_ : TZ (d + 1) 263 38 [some (.inr 100), some (.inl x1), some (.inl x2), some (.inl x3), some (.inl x4)] [.inr 100] Z (zri Q))
      refine z_fr (by rfl) fr92_100 (?_ : TZ (d + 1) 263 41 [some (.inr 100), some (.inl x1), some (.inl x2), some (.inl x3), some (.inl x4)] [.inr 105] Z (zri Q))
      refine z0 (op := 3) (a := 2) (b := 0) (by rfl) (by rfl) (?_ : TZ (d + 1) 263 42 [some (.inr 100), some (.inl x1), some (.inl x2), some (.inl x3), some (.inl x4)] [.inl x2, .inr 105] Z (zri Q))
      obtain ⟨c15, v⟩ := v
      refine z_al (by rfl) ln_105 c15 (?_ : TZ (d + 1) 263 43 [some (.inr 100), some (.inl x1), some (.inl x2), some (.inl x3), some (.inl x4)] [.inl (Z 105 x2)] Z (zri Q))
      refine z0 (op := 3) (a := 3) (b := 0) (by rfl) (by rfl) (?_ : TZ (d + 1) 263 44 [some (.inr 100), some (.inl x1), some (.inl x2), some (.inl x3), some (.inl x4)] [.inl x3, .inl (Z 105 x2)] Z (zri Q))
      obtain ⟨c16, c17, v1, v2⟩ := v
      refine z_if2 (a := 1) (t := 51) (by rfl) (by rfl) c16 c17 (fun h18 => ?_) (fun h18 => ?_)
      · have v := v1 h18; clear v1 v2
        show TZ (d + 1) 263 51 [some (.inr 100), some (.inl x1), some (.inl x2), some (.inl x3), some (.inl x4)] [] Z (zri Q)
        refine z0 (op := 0) (a := 0) (b := 0) (by rfl) (by rfl) (?_ : TZ (d + 1) 263 52 [some (.inr 100), some (.inl x1), some (.inl x2), some (.inl x3), some (.inl x4)] [.inl 0] Z (zri Q))
        refine z_goto (t := 71) (by rfl) (by rfl) (?_ : TZ (d + 1) 263 71 [some (.inr 100), some (.inl x1), some (.inl x2), some (.inl x3), some (.inl x4)] [.inl 0] Z (zri Q))
        refine z0 (op := 8) (a := 4) (b := 0) (by rfl) (by rfl) (?_ : TZ (d + 1) 263 73 [some (.inr 100), some (.inl x1), some (.inl x2), some (.inl x3), some (.inl 0)] [] Z (zri Q))
        refine z0 (op := 5) (a := 0) (b := 0) (by rfl) (by rfl) (?_ : TZ (d + 1) 263 74 [some (.inr 100), some (.inl x1), some (.inl x2), some (.inl x3), some (.inl 0)] [.inr 100] Z (zri Q))
        refine z_vv (by rfl) (by rfl) cl_100 (TV.mono v fun Z19 v => ?_)
        show TZ (d + 1) 263 77 [some (.inr 100), some (.inl x1), some (.inl x2), some (.inl x3), some (.inl 0)] [] Z19 (zri Q)
        refine z0 (op := 4) (a := 4) (b := 0) (by rfl) (by rfl) (?_ : TZ (d + 1) 263 79 [some (.inr 100), some (.inl x1), some (.inl x2), some (.inl x3), some (.inl 0)] [.inl 0] Z19 (zri Q))
        exact z_retb (by rfl) (by rfl) (by decide) v
      · have v := v2 h18; clear v1 v2
        show TZ (d + 1) 263 47 [some (.inr 100), some (.inl x1), some (.inl x2), some (.inl x3), some (.inl x4)] [] Z (zri Q)
        refine z0 (op := 0) (a := 0) (b := 1) (by rfl) (by rfl) (?_ : TZ (d + 1) 263 48 [some (.inr 100), some (.inl x1), some (.inl x2), some (.inl x3), some (.inl x4)] [.inl 1] Z (zri Q))
        refine z_goto (t := 71) (by rfl) (by rfl) (?_ : TZ (d + 1) 263 71 [some (.inr 100), some (.inl x1), some (.inl x2), some (.inl x3), some (.inl x4)] [.inl 1] Z (zri Q))
        refine z0 (op := 8) (a := 4) (b := 0) (by rfl) (by rfl) (?_ : TZ (d + 1) 263 73 [some (.inr 100), some (.inl x1), some (.inl x2), some (.inl x3), some (.inl 1)] [] Z (zri Q))
        refine z0 (op := 5) (a := 0) (b := 0) (by rfl) (by rfl) (?_ : TZ (d + 1) 263 74 [some (.inr 100), some (.inl x1), some (.inl x2), some (.inl x3), some (.inl 1)] [.inr 100] Z (zri Q))
        refine z_vv (by rfl) (by rfl) cl_100 (TV.mono v fun Z20 v => ?_)
        show TZ (d + 1) 263 77 [some (.inr 100), some (.inl x1), some (.inl x2), some (.inl x3), some (.inl 1)] [] Z20 (zri Q)
        refine z0 (op := 4) (a := 4) (b := 0) (by rfl) (by rfl) (?_ : TZ (d + 1) 263 79 [some (.inr 100), some (.inl x1), some (.inl x2), some (.inl x3), some (.inl 1)] [.inl 1] Z20 (zri Q))
        exact z_retb (by rfl) (by rfl) (by decide) v
  · have v := v2 h3; clear v1 v2
    show TZ (d + 1) 263 13 [some (.inr 100), some (.inl x1), some (.inl x2), some (.inl x3), some (.inl x4)] [] Z (zri Q)
    refine z0 (op := 5) (a := 0) (b := 0) (by rfl) (by rfl) (?_ : TZ (d + 1) 263 14 [some (.inr 100), some (.inl x1), some (.inl x2), some (.inl x3), some (.inl x4)] [.inr 100] Z (zri Q))
    refine z0 (op := 5) (a := 0) (b := 0) (by rfl) (by rfl) (?_ : TZ (d + 1) 263 15 [some (.inr 100), some (.inl x1), some (.inl x2), some (.inl x3), some (.inl x4)] [.inr 100, .inr 100] Z (zri Q))
    refine z_fr (by rfl) fr101_100 (?_ : TZ (d + 1) 263 18 [some (.inr 100), some (.inl x1), some (.inl x2), some (.inl x3), some (.inl x4)] [.inr 114, .inr 100] Z (zri Q))
    refine z0 (op := 4) (a := 4) (b := 0) (by rfl) (by rfl) (?_ : TZ (d + 1) 263 20 [some (.inr 100), some (.inl x1), some (.inl x2), some (.inl x3), some (.inl x4)] [.inl x4, .inr 114, .inr 100] Z (zri Q))
    obtain ⟨c21, v⟩ := v
    refine z_al (by rfl) ln_114 c21 (?_ : TZ (d + 1) 263 21 [some (.inr 100), some (.inl x1), some (.inl x2), some (.inl x3), some (.inl x4)] [.inl (Z 114 x4), .inr 100] Z (zri Q))
    refine z0 (op := 0) (a := 0) (b := 1) (by rfl) (by rfl) (?_ : TZ (d + 1) 263 22 [some (.inr 100), some (.inl x1), some (.inl x2), some (.inl x3), some (.inl x4)] [.inl 1, .inl (Z 114 x4), .inr 100] Z (zri Q))
    refine z0 (op := 12) (a := 1) (b := 0) (by rfl) (by rfl) (?_ : TZ (d + 1) 263 23 [some (.inr 100), some (.inl x1), some (.inl x2), some (.inl x3), some (.inl x4)] [.inl ((Z 114 x4) - 1), .inr 100] Z (zri Q))
    refine z_vi (by rfl) (by rfl) cl_100 (TI.mono v fun r23 Z22 v => ?_)
    show TZ (d + 1) 263 26 [some (.inr 100), some (.inl x1), some (.inl x2), some (.inl x3), some (.inl x4)] [.inl r23] Z22 (zri Q)
    refine z0 (op := 14) (a := 0) (b := 0) (by rfl) (by rfl) (?_ : TZ (d + 1) 263 27 [some (.inr 100), some (.inl x1), some (.inl x2), some (.inl x3), some (.inl x4)] [] Z22 (zri Q))
    refine z0 (op := 11) (a := 4) (b := 1) (by rfl) (by rfl) (?_ : TZ (d + 1) 263 30 [some (.inr 100), some (.inl x1), some (.inl x2), some (.inl x3), some (.inl (x4 + 1))] [] Z22 (zri Q))
    refine z_goto (t := 7) (by rfl) (by rfl) (?_ : TZ (d + 1) 263 7 [some (.inr 100), some (.inl x1), some (.inl x2), some (.inl x3), some (.inl (x4 + 1))] [] Z22 (zri Q))
    exact v
theorem w264_0 {d : Nat} {x1 x2 : Int} {Z : zM} {Q : Int → zM → Prop}
    (v : TZ d 264 2 [some (.inr 100), some (.inl x1), some (.inl x2), some (.inl 0), none] [] Z (zri Q)) :
    TZ d 264 0 [some (.inr 100), some (.inl x1), some (.inl x2), none, none] [] Z (zri Q) := by
  refine z0 (op := 0) (a := 0) (b := 0) (by rfl) (by rfl) (?_ : TZ d 264 1 [some (.inr 100), some (.inl x1), some (.inl x2), none, none] [.inl 0] Z (zri Q))
  refine z0 (op := 7) (a := 3) (b := 0) (by rfl) (by rfl) (?_ : TZ d 264 2 [some (.inr 100), some (.inl x1), some (.inl x2), some (.inl 0), none] [] Z (zri Q))
  exact v
theorem w264_2 {d : Nat} {x1 x2 x3 : Int} {o4 : Option zV} {Z : zM} {Q : Int → zM → Prop}
    (v : zR x3 ∧
      (4 < x3 → Q (-9) Z) ∧
      (¬ 4 < x3 → TZ d 264 10 [some (.inr 100), some (.inl x1), some (.inl x2), some (.inl x3), some (.inl 0)] [] Z (zri Q))) :
    TZ d 264 2 [some (.inr 100), some (.inl x1), some (.inl x2), some (.inl x3), o4] [] Z (zri Q) := by
  refine z0 (op := 3) (a := 3) (b := 0) (by rfl) (by rfl) (?_ : TZ d 264 3 [some (.inr 100), some (.inl x1), some (.inl x2), some (.inl x3), o4] [.inl x3] Z (zri Q))
  refine z0 (op := 0) (a := 0) (b := 4) (by rfl) (by rfl) (?_ : TZ d 264 4 [some (.inr 100), some (.inl x1), some (.inl x2), some (.inl x3), o4] [.inl 4, .inl x3] Z (zri Q))
  obtain ⟨c1, v1, v2⟩ := v
  refine z_if2 (a := 4) (t := 51) (by rfl) (by rfl) c1 (by decide) (fun h2 => ?_) (fun h2 => ?_)
  · have v := v1 h2; clear v1 v2
    show TZ d 264 51 [some (.inr 100), some (.inl x1), some (.inl x2), some (.inl x3), o4] [] Z (zri Q)
    refine z0 (op := 1) (a := 0) (b := (-9)) (by rfl) (by rfl) (?_ : TZ d 264 53 [some (.inr 100), some (.inl x1), some (.inl x2), some (.inl x3), o4] [.inl (-9)] Z (zri Q))
    exact z_reti (by rfl) (by rfl) v
  · have v := v2 h2; clear v1 v2
    show TZ d 264 7 [some (.inr 100), some (.inl x1), some (.inl x2), some (.inl x3), o4] [] Z (zri Q)
    refine z0 (op := 0) (a := 0) (b := 0) (by rfl) (by rfl) (?_ : TZ d 264 8 [some (.inr 100), some (.inl x1), some (.inl x2), some (.inl x3), o4] [.inl 0] Z (zri Q))
    refine z0 (op := 8) (a := 4) (b := 0) (by rfl) (by rfl) (?_ : TZ d 264 10 [some (.inr 100), some (.inl x1), some (.inl x2), some (.inl x3), some (.inl 0)] [] Z (zri Q))
    exact v
theorem w264_10 {d : Nat} {x1 x2 x3 x4 : Int} {Z : zM} {Q : Int → zM → Prop}
    (v : TI d 212 [.inr 100, .inl x3] Z (fun r2 Z1 =>
      zR x4 ∧
        zR r2 ∧
        (r2 ≤ x4 → TZ (d + 1) 264 2 [some (.inr 100), some (.inl x1), some (.inl x2), some (.inl (x3 + 1)), some (.inl x4)] [] Z1 (zri Q)) ∧
        (¬ r2 ≤ x4 → TV d 213 [.inr 100, .inl x4, .inl x3] Z1 (fun Z6 =>
            TI d 263 [.inr 100, .inl x3, .inl x1, .inl x2] Z6 (fun r8 Z7 =>
              zR r8 ∧
                (r8 = 0 → TZ (d + 1) 264 10 [some (.inr 100), some (.inl x1), some (.inl x2), some (.inl x3), some (.inl (x4 + 1))] [] Z7 (zri Q)) ∧
                (¬ r8 = 0 → Q x3 Z7)))))) :
    TZ (d + 1) 264 10 [some (.inr 100), some (.inl x1), some (.inl x2), some (.inl x3), some (.inl x4)] [] Z (zri Q) := by
  refine z0 (op := 4) (a := 4) (b := 0) (by rfl) (by rfl) (?_ : TZ (d + 1) 264 12 [some (.inr 100), some (.inl x1), some (.inl x2), some (.inl x3), some (.inl x4)] [.inl x4] Z (zri Q))
  refine z0 (op := 5) (a := 0) (b := 0) (by rfl) (by rfl) (?_ : TZ (d + 1) 264 13 [some (.inr 100), some (.inl x1), some (.inl x2), some (.inl x3), some (.inl x4)] [.inr 100, .inl x4] Z (zri Q))
  refine z0 (op := 3) (a := 3) (b := 0) (by rfl) (by rfl) (?_ : TZ (d + 1) 264 14 [some (.inr 100), some (.inl x1), some (.inl x2), some (.inl x3), some (.inl x4)] [.inl x3, .inr 100, .inl x4] Z (zri Q))
  refine z_vi (by rfl) (by rfl) cl_100 (TI.mono v fun r2 Z1 v => ?_)
  show TZ (d + 1) 264 17 [some (.inr 100), some (.inl x1), some (.inl x2), some (.inl x3), some (.inl x4)] [.inl r2, .inl x4] Z1 (zri Q)
  obtain ⟨c3, c4, v1, v2⟩ := v
  refine z_if2 (a := 3) (t := 45) (by rfl) (by rfl) c3 c4 (fun h5 => ?_) (fun h5 => ?_)
  · have v := v1 h5; clear v1 v2
    show TZ (d + 1) 264 45 [some (.inr 100), some (.inl x1), some (.inl x2), some (.inl x3), some (.inl x4)] [] Z1 (zri Q)
    refine z0 (op := 11) (a := 3) (b := 1) (by rfl) (by rfl) (?_ : TZ (d + 1) 264 48 [some (.inr 100), some (.inl x1), some (.inl x2), some (.inl (x3 + 1)), some (.inl x4)] [] Z1 (zri Q))
    refine z_goto (t := 2) (by rfl) (by rfl) (?_ : TZ (d + 1) 264 2 [some (.inr 100), some (.inl x1), some (.inl x2), some (.inl (x3 + 1)), some (.inl x4)] [] Z1 (zri Q))
    exact v
  · have v := v2 h5; clear v1 v2
    show TZ (d + 1) 264 20 [some (.inr 100), some (.inl x1), some (.inl x2), some (.inl x3), some (.inl x4)] [] Z1 (zri Q)
    refine z0 (op := 5) (a := 0) (b := 0) (by rfl) (by rfl) (?_ : TZ (d + 1) 264 21 [some (.inr 100), some (.inl x1), some (.inl x2), some (.inl x3), some (.inl x4)] [.inr 100] Z1 (zri Q))
    refine z0 (op := 4) (a := 4) (b := 0) (by rfl) (by rfl) (?_ : TZ (d + 1) 264 23 [some (.inr 100), some (.inl x1), some (.inl x2), some (.inl x3), some (.inl x4)] [.inl x4, .inr 100] Z1 (zri Q))
    refine z0 (op := 3) (a := 3) (b := 0) (by rfl) (by rfl) (?_ : TZ (d + 1) 264 24 [some (.inr 100), some (.inl x1), some (.inl x2), some (.inl x3), some (.inl x4)] [.inl x3, .inl x4, .inr 100] Z1 (zri Q))
    refine z_vv (by rfl) (by rfl) cl_100 (TV.mono v fun Z6 v => ?_)
    show TZ (d + 1) 264 27 [some (.inr 100), some (.inl x1), some (.inl x2), some (.inl x3), some (.inl x4)] [] Z6 (zri Q)
    refine z0 (op := 5) (a := 0) (b := 0) (by rfl) (by rfl) (?_ : TZ (d + 1) 264 28 [some (.inr 100), some (.inl x1), some (.inl x2), some (.inl x3), some (.inl x4)] [.inr 100] Z6 (zri Q))
    refine z0 (op := 3) (a := 3) (b := 0) (by rfl) (by rfl) (?_ : TZ (d + 1) 264 29 [some (.inr 100), some (.inl x1), some (.inl x2), some (.inl x3), some (.inl x4)] [.inl x3, .inr 100] Z6 (zri Q))
    refine z0 (op := 3) (a := 1) (b := 0) (by rfl) (by rfl) (?_ : TZ (d + 1) 264 30 [some (.inr 100), some (.inl x1), some (.inl x2), some (.inl x3), some (.inl x4)] [.inl x1, .inl x3, .inr 100] Z6 (zri Q))
    refine z0 (op := 3) (a := 2) (b := 0) (by rfl) (by rfl) (?_ : TZ (d + 1) 264 31 [some (.inr 100), some (.inl x1), some (.inl x2), some (.inl x3), some (.inl x4)] [.inl x2, .inl x1, .inl x3, .inr 100] Z6 (zri Q))
    refine z_vi (by rfl) (by rfl) cl_100 (TI.mono v fun r8 Z7 v => ?_)
    show TZ (d + 1) 264 34 [some (.inr 100), some (.inl x1), some (.inl x2), some (.inl x3), some (.inl x4)] [.inl r8] Z7 (zri Q)
    obtain ⟨c9, v1, v2⟩ := v
    refine z_if0 (a := 0) (t := 39) (by rfl) (by rfl) c9 (fun h10 => ?_) (fun h10 => ?_)
    · have v := v1 h10; clear v1 v2
      show TZ (d + 1) 264 39 [some (.inr 100), some (.inl x1), some (.inl x2), some (.inl x3), some (.inl x4)] [] Z7 (zri Q)
      refine z0 (op := 11) (a := 4) (b := 1) (by rfl) (by rfl) (?_ : TZ (d + 1) 264 42 [some (.inr 100), some (.inl x1), some (.inl x2), some (.inl x3), some (.inl (x4 + 1))] [] Z7 (zri Q))
      refine z_goto (t := 10) (by rfl) (by rfl) (?_ : TZ (d + 1) 264 10 [some (.inr 100), some (.inl x1), some (.inl x2), some (.inl x3), some (.inl (x4 + 1))] [] Z7 (zri Q))
      exact v
    · have v := v2 h10; clear v1 v2
      show TZ (d + 1) 264 37 [some (.inr 100), some (.inl x1), some (.inl x2), some (.inl x3), some (.inl x4)] [] Z7 (zri Q)
      refine z0 (op := 3) (a := 3) (b := 0) (by rfl) (by rfl) (?_ : TZ (d + 1) 264 38 [some (.inr 100), some (.inl x1), some (.inl x2), some (.inl x3), some (.inl x4)] [.inl x3] Z7 (zri Q))
      exact z_reti (by rfl) (by rfl) v
theorem w265_0 {d : Nat} {x1 x2 x3 : Int} {Z : zM} {Q : Int → zM → Prop}
    (v : TI d 158 [.inr 100, .inl x1] Z (fun r2 Z1 =>
      zR r2 ∧
        (r2 = 0 → TI d 154 [.inr 100, .inl (-1)] Z1 (fun r6 Z5 =>
            Q r6 Z5)) ∧
        (¬ r2 = 0 → TI d 157 [.inr 100, .inl x2] Z1 (fun r8 Z7 =>
            zR r8 ∧
              (r8 ≠ 0 → (zR x3 ∧
                  ((-1) ≤ x3 → TI d 264 [.inr 100, .inl x1, .inl x2] Z7 (fun r14 Z13 =>
                      zR x3 ∧
                        (0 ≤ x3 → (zR x3 ∧
                            zR r14 ∧
                            (r14 ≤ x3 → Q (-9) Z13) ∧
                            (¬ r14 ≤ x3 → ((0 ≤ x3 ∧ x3 < 4) ∧ Q (Z13 114 x3) Z13)))) ∧
                        (¬ 0 ≤ x3 → Q r14 Z13))) ∧
                  (¬ (-1) ≤ x3 → TI d 154 [.inr 100, .inl (-4)] Z7 (fun r22 Z21 =>
                      Q r22 Z21)))) ∧
              (¬ r8 ≠ 0 → TI d 154 [.inr 100, .inl (-1)] Z7 (fun r24 Z23 =>
                  Q r24 Z23)))))) :
    TZ (d + 1) 265 0 [some (.inr 100), some (.inl x1), some (.inl x2), some (.inl x3), none, none] [] Z (zri Q) := by
  refine z0 (op := 5) (a := 0) (b := 0) (by rfl) (by rfl) (?_ : TZ (d + 1) 265 1 [some (.inr 100), some (.inl x1), some (.inl x2), some (.inl x3), none, none] [.inr 100] Z (zri Q))
  refine z0 (op := 3) (a := 1) (b := 0) (by rfl) (by rfl) (?_ : TZ (d + 1) 265 2 [some (.inr 100), some (.inl x1), some (.inl x2), some (.inl x3), none, none] [.inl x1, .inr 100] Z (zri Q))
  refine z_vi (by rfl) (by rfl) cl_100 (TI.mono v fun r2 Z1 v => ?_)
  show TZ (d + 1) 265 5 [some (.inr 100), some (.inl x1), some (.inl x2), some (.inl x3), none, none] [.inl r2] Z1 (zri Q)
  obtain ⟨c3, v1, v2⟩ := v
  refine z_if0 (a := 0) (t := 16) (by rfl) (by rfl) c3 (fun h4 => ?_) (fun h4 => ?_)
  · have v := v1 h4; clear v1 v2
    show TZ (d + 1) 265 16 [some (.inr 100), some (.inl x1), some (.inl x2), some (.inl x3), none, none] [] Z1 (zri Q)
    refine z0 (op := 0) (a := 0) (b := (-1)) (by rfl) (by rfl) (?_ : TZ (d + 1) 265 17 [some (.inr 100), some (.inl x1), some (.inl x2), some (.inl x3), none, none] [.inl (-1)] Z1 (zri Q))
    refine z_goto (t := 31) (by rfl) (by rfl) (?_ : TZ (d + 1) 265 31 [some (.inr 100), some (.inl x1), some (.inl x2), some (.inl x3), none, none] [.inl (-1)] Z1 (zri Q))
    refine z0 (op := 8) (a := 4) (b := 0) (by rfl) (by rfl) (?_ : TZ (d + 1) 265 33 [some (.inr 100), some (.inl x1), some (.inl x2), some (.inl x3), some (.inl (-1)), none] [] Z1 (zri Q))
    refine z0 (op := 4) (a := 4) (b := 0) (by rfl) (by rfl) (?_ : TZ (d + 1) 265 35 [some (.inr 100), some (.inl x1), some (.inl x2), some (.inl x3), some (.inl (-1)), none] [.inl (-1)] Z1 (zri Q))
    refine z_if0 (a := 0) (t := 45) (by rfl) (by rfl) (by decide) (fun h => absurd (show ((-1) : Int) = (0 : Int) from h) (by decide)) (fun _ => ?_)
    show TZ (d + 1) 265 38 [some (.inr 100), some (.inl x1), some (.inl x2), some (.inl x3), some (.inl (-1)), none] [] Z1 (zri Q)
    refine z0 (op := 5) (a := 0) (b := 0) (by rfl) (by rfl) (?_ : TZ (d + 1) 265 39 [some (.inr 100), some (.inl x1), some (.inl x2), some (.inl x3), some (.inl (-1)), none] [.inr 100] Z1 (zri Q))
    refine z0 (op := 4) (a := 4) (b := 0) (by rfl) (by rfl) (?_ : TZ (d + 1) 265 41 [some (.inr 100), some (.inl x1), some (.inl x2), some (.inl x3), some (.inl (-1)), none] [.inl (-1), .inr 100] Z1 (zri Q))
    refine z_vi (by rfl) (by rfl) cl_100 (TI.mono v fun r6 Z5 v => ?_)
    show TZ (d + 1) 265 44 [some (.inr 100), some (.inl x1), some (.inl x2), some (.inl x3), some (.inl (-1)), none] [.inl r6] Z5 (zri Q)
    exact z_reti (by rfl) (by rfl) v
  · have v := v2 h4; clear v1 v2
    show TZ (d + 1) 265 8 [some (.inr 100), some (.inl x1), some (.inl x2), some (.inl x3), none, none] [] Z1 (zri Q)
    refine z0 (op := 5) (a := 0) (b := 0) (by rfl) (by rfl) (?_ : TZ (d + 1) 265 9 [some (.inr 100), some (.inl x1), some (.inl x2), some (.inl x3), none, none] [.inr 100] Z1 (zri Q))
    refine z0 (op := 3) (a := 2) (b := 0) (by rfl) (by rfl) (?_ : TZ (d + 1) 265 10 [some (.inr 100), some (.inl x1), some (.inl x2), some (.inl x3), none, none] [.inl x2, .inr 100] Z1 (zri Q))
    refine z_vi (by rfl) (by rfl) cl_100 (TI.mono v fun r8 Z7 v => ?_)
    show TZ (d + 1) 265 13 [some (.inr 100), some (.inl x1), some (.inl x2), some (.inl x3), none, none] [.inl r8] Z7 (zri Q)
    obtain ⟨c9, v1, v2⟩ := v
    refine z_if0 (a := 1) (t := 20) (by rfl) (by rfl) c9 (fun h10 => ?_) (fun h10 => ?_)
    · have v := v1 h10; clear v1 v2
      show TZ (d + 1) 265 20 [some (.inr 100), some (.inl x1), some (.inl x2), some (.inl x3), none, none] [] Z7 (zri Q)
      refine z0 (op := 3) (a := 3) (b := 0) (by rfl) (by rfl) (?_ : TZ (d + 1) 265 21 [some (.inr 100), some (.inl x1), some (.inl x2), some (.inl x3), none, none] [.inl x3] Z7 (zri Q))
      refine z0 (op := 0) (a := 0) (b := (-1)) (by rfl) (by rfl) (?_ : TZ (d + 1) 265 22 [some (.inr 100), some (.inl x1), some (.inl x2), some (.inl x3), none, none] [.inl (-1), .inl x3] Z7 (zri Q))
      obtain ⟨c11, v1, v2⟩ := v
      refine z_if2 (a := 3) (t := 30) (by rfl) (by rfl) c11 (by decide) (fun h12 => ?_) (fun h12 => ?_)
      · have v := v1 h12; clear v1 v2
        show TZ (d + 1) 265 30 [some (.inr 100), some (.inl x1), some (.inl x2), some (.inl x3), none, none] [] Z7 (zri Q)
        refine z0 (op := 0) (a := 0) (b := 0) (by rfl) (by rfl) (?_ : TZ (d + 1) 265 31 [some (.inr 100), some (.inl x1), some (.inl x2), some (.inl x3), none, none] [.inl 0] Z7 (zri Q))
        refine z0 (op := 8) (a := 4) (b := 0) (by rfl) (by rfl) (?_ : TZ (d + 1) 265 33 [some (.inr 100), some (.inl x1), some (.inl x2), some (.inl x3), some (.inl 0), none] [] Z7 (zri Q))
        refine z0 (op := 4) (a := 4) (b := 0) (by rfl) (by rfl) (?_ : TZ (d + 1) 265 35 [some (.inr 100), some (.inl x1), some (.inl x2), some (.inl x3), some (.inl 0), none] [.inl 0] Z7 (zri Q))
        refine z_if0 (a := 0) (t := 45) (by rfl) (by rfl) (by decide) (fun _ => ?_) (fun h => absurd (show (0 : Int) = (0 : Int) by decide) h)
        show TZ (d + 1) 265 45 [some (.inr 100), some (.inl x1), some (.inl x2), some (.inl x3), some (.inl 0), none] [] Z7 (zri Q)
        refine z0 (op := 5) (a := 0) (b := 0) (by rfl) (by rfl) (?_ : TZ (d + 1) 265 46 [some (.inr 100), some (.inl x1), some (.inl x2), some (.inl x3), some (.inl 0), none] [.inr 100] Z7 (zri Q))
        refine z0 (op := 3) (a := 1) (b := 0) (by rfl) (by rfl) (?_ : TZ (d + 1) 265 47 [some (.inr 100), some (.inl x1), some (.inl x2), some (.inl x3), some (.inl 0), none] [.inl x1, .inr 100] Z7 (zri Q))
        refine z0 (op := 3) (a := 2) (b := 0) (by rfl) (by rfl) (?_ : TZ (d + 1) 265 48 [some (.inr 100), some (.inl x1), some (.inl x2), some (.inl x3), some (.inl 0), none] [.inl x2, .inl x1, .inr 100] Z7 (zri Q))
        refine z_vi (by rfl) (by rfl) cl_100 (TI.mono v fun r14 Z13 v => ?_)
        show TZ (d + 1) 265 51 [some (.inr 100), some (.inl x1), some (.inl x2), some (.inl x3), some (.inl 0), none] [.inl r14] Z13 (zri Q)
        refine z0 (op := 8) (a := 5) (b := 0) (by rfl) (by rfl) (?_ : TZ (d + 1) 265 53 [some (.inr 100), some (.inl x1), some (.inl x2), some (.inl x3), some (.inl 0), some (.inl r14)] [] Z13 (zri Q))
        refine z0 (op := 3) (a := 3) (b := 0) (by rfl) (by rfl) (?_ : TZ (d + 1) 265 54 [some (.inr 100), some (.inl x1), some (.inl x2), some (.inl x3), some (.inl 0), some (.inl r14)] [.inl x3] Z13 (zri Q))
        obtain ⟨c15, v1, v2⟩ := v
        refine z_if0 (a := 3) (t := 62) (by rfl) (by rfl) c15 (fun h16 => ?_) (fun h16 => ?_)
        · have v := v1 h16; clear v1 v2
          show TZ (d + 1) 265 62 [some (.inr 100), some (.inl x1), some (.inl x2), some (.inl x3), some (.inl 0), some (.inl r14)] [] Z13 (zri Q)
          refine z0 (op := 3) (a := 3) (b := 0) (by rfl) (by rfl) (?_ : TZ (d + 1) 265 63 [some (.inr 100), some (.inl x1), some (.inl x2), some (.inl x3), some (.inl 0), some (.inl r14)] [.inl x3] Z13 (zri Q))
          refine z0 (op := 4) (a := 5) (b := 0) (by rfl) (by rfl) (?_ : TZ (d + 1) 265 65 [some (.inr 100), some (.inl x1), some (.inl x2), some (.inl x3), some (.inl 0), some (.inl r14)] [.inl r14, .inl x3] Z13 (zri Q))
          obtain ⟨c17, c18, v1, v2⟩ := v
          refine z_if2 (a := 3) (t := 77) (by rfl) (by rfl) c17 c18 (fun h19 => ?_) (fun h19 => ?_)
          · have v := v1 h19; clear v1 v2
            show TZ (d + 1) 265 77 [some (.inr 100), some (.inl x1), some (.inl x2), some (.inl x3), some (.inl 0), some (.inl r14)] [] Z13 (zri Q)
            refine z0 (op := 1) (a := 0) (b := (-9)) (by rfl) (by rfl) (?_ : TZ (d + 1) 265 79 [some (.inr 100), some (.inl x1), some (.inl x2), some (.inl x3), some (.inl 0), some (.inl r14)] [.inl (-9)] Z13 (zri Q))
            exact z_reti (by rfl) (by rfl) v
          · have v := v2 h19; clear v1 v2
            show TZ (d + 1) 265 68 [some (.inr 100), some (.inl x1), some (.inl x2), some (.inl x3), some (.inl 0), some (.inl r14)] [] Z13 (zri Q)
            refine z0 (op := 5) (a := 0) (b := 0) (by rfl) (by rfl) (?_ : TZ (d + 1) 265 69 [some (.inr 100), some (.inl x1), some (.inl x2), some (.inl x3), some (.inl 0), some (.inl r14)] [.inr 100] Z13 (zri Q))
            refine z_fr (by rfl) fr101_100 (?_ : TZ (d + 1) 265 72 [some (.inr 100), some (.inl x1), some (.inl x2), some (.inl x3), some (.inl 0), some (.inl r14)] [.inr 114] Z13 (zri Q))
            refine z0 (op := 3) (a := 3) (b := 0) (by rfl) (by rfl) (?_ : TZ (d + 1) 265 73 [some (.inr 100), some (.inl x1), some (.inl x2), some (.inl x3), some (.inl 0), some (.inl r14)] [.inl x3, .inr 114] Z13 (zri Q))
            obtain ⟨c20, v⟩ := v
            refine z_al (by rfl) ln_114 c20 (?_ : TZ (d + 1) 265 74 [some (.inr 100), some (.inl x1), some (.inl x2), some (.inl x3), some (.inl 0), some (.inl r14)] [.inl (Z13 114 x3)] Z13 (zri Q))
            refine z_goto (t := 79) (by rfl) (by rfl) (?_ : TZ (d + 1) 265 79 [some (.inr 100), some (.inl x1), some (.inl x2), some (.inl x3), some (.inl 0), some (.inl r14)] [.inl (Z13 114 x3)] Z13 (zri Q))
            exact z_reti (by rfl) (by rfl) v
        · have v := v2 h16; clear v1 v2
          show TZ (d + 1) 265 57 [some (.inr 100), some (.inl x1), some (.inl x2), some (.inl x3), some (.inl 0), some (.inl r14)] [] Z13 (zri Q)
          refine z0 (op := 4) (a := 5) (b := 0) (by rfl) (by rfl) (?_ : TZ (d + 1) 265 59 [some (.inr 100), some (.inl x1), some (.inl x2), some (.inl x3), some (.inl 0), some (.inl r14)] [.inl r14] Z13 (zri Q))
          refine z_goto (t := 79) (by rfl) (by rfl) (?_ : TZ (d + 1) 265 79 [some (.inr 100), some (.inl x1), some (.inl x2), some (.inl x3), some (.inl 0), some (.inl r14)] [.inl r14] Z13 (zri Q))
          exact z_reti (by rfl) (by rfl) v
      · have v := v2 h12; clear v1 v2
        show TZ (d + 1) 265 25 [some (.inr 100), some (.inl x1), some (.inl x2), some (.inl x3), none, none] [] Z7 (zri Q)
        refine z0 (op := 1) (a := 0) (b := (-4)) (by rfl) (by rfl) (?_ : TZ (d + 1) 265 27 [some (.inr 100), some (.inl x1), some (.inl x2), some (.inl x3), none, none] [.inl (-4)] Z7 (zri Q))
        refine z_goto (t := 31) (by rfl) (by rfl) (?_ : TZ (d + 1) 265 31 [some (.inr 100), some (.inl x1), some (.inl x2), some (.inl x3), none, none] [.inl (-4)] Z7 (zri Q))
        refine z0 (op := 8) (a := 4) (b := 0) (by rfl) (by rfl) (?_ : TZ (d + 1) 265 33 [some (.inr 100), some (.inl x1), some (.inl x2), some (.inl x3), some (.inl (-4)), none] [] Z7 (zri Q))
        refine z0 (op := 4) (a := 4) (b := 0) (by rfl) (by rfl) (?_ : TZ (d + 1) 265 35 [some (.inr 100), some (.inl x1), some (.inl x2), some (.inl x3), some (.inl (-4)), none] [.inl (-4)] Z7 (zri Q))
        refine z_if0 (a := 0) (t := 45) (by rfl) (by rfl) (by decide) (fun h => absurd (show ((-4) : Int) = (0 : Int) from h) (by decide)) (fun _ => ?_)
        show TZ (d + 1) 265 38 [some (.inr 100), some (.inl x1), some (.inl x2), some (.inl x3), some (.inl (-4)), none] [] Z7 (zri Q)
        refine z0 (op := 5) (a := 0) (b := 0) (by rfl) (by rfl) (?_ : TZ (d + 1) 265 39 [some (.inr 100), some (.inl x1), some (.inl x2), some (.inl x3), some (.inl (-4)), none] [.inr 100] Z7 (zri Q))
        refine z0 (op := 4) (a := 4) (b := 0) (by rfl) (by rfl) (?_ : TZ (d + 1) 265 41 [some (.inr 100), some (.inl x1), some (.inl x2), some (.inl x3), some (.inl (-4)), none] [.inl (-4), .inr 100] Z7 (zri Q))
        refine z_vi (by rfl) (by rfl) cl_100 (TI.mono v fun r22 Z21 v => ?_)
        show TZ (d + 1) 265 44 [some (.inr 100), some (.inl x1), some (.inl x2), some (.inl x3), some (.inl (-4)), none] [.inl r22] Z21 (zri Q)
        exact z_reti (by rfl) (by rfl) v
    · have v := v2 h10; clear v1 v2
      show TZ (d + 1) 265 16 [some (.inr 100), some (.inl x1), some (.inl x2), some (.inl x3), none, none] [] Z7 (zri Q)
      refine z0 (op := 0) (a := 0) (b := (-1)) (by rfl) (by rfl) (?_ : TZ (d + 1) 265 17 [some (.inr 100), some (.inl x1), some (.inl x2), some (.inl x3), none, none] [.inl (-1)] Z7 (zri Q))
      refine z_goto (t := 31) (by rfl) (by rfl) (?_ : TZ (d + 1) 265 31 [some (.inr 100), some (.inl x1), some (.inl x2), some (.inl x3), none, none] [.inl (-1)] Z7 (zri Q))
      refine z0 (op := 8) (a := 4) (b := 0) (by rfl) (by rfl) (?_ : TZ (d + 1) 265 33 [some (.inr 100), some (.inl x1), some (.inl x2), some (.inl x3), some (.inl (-1)), none] [] Z7 (zri Q))
      refine z0 (op := 4) (a := 4) (b := 0) (by rfl) (by rfl) (?_ : TZ (d + 1) 265 35 [some (.inr 100), some (.inl x1), some (.inl x2), some (.inl x3), some (.inl (-1)), none] [.inl (-1)] Z7 (zri Q))
      refine z_if0 (a := 0) (t := 45) (by rfl) (by rfl) (by decide) (fun h => absurd (show ((-1) : Int) = (0 : Int) from h) (by decide)) (fun _ => ?_)
      show TZ (d + 1) 265 38 [some (.inr 100), some (.inl x1), some (.inl x2), some (.inl x3), some (.inl (-1)), none] [] Z7 (zri Q)
      refine z0 (op := 5) (a := 0) (b := 0) (by rfl) (by rfl) (?_ : TZ (d + 1) 265 39 [some (.inr 100), some (.inl x1), some (.inl x2), some (.inl x3), some (.inl (-1)), none] [.inr 100] Z7 (zri Q))
      refine z0 (op := 4) (a := 4) (b := 0) (by rfl) (by rfl) (?_ : TZ (d + 1) 265 41 [some (.inr 100), some (.inl x1), some (.inl x2), some (.inl x3), some (.inl (-1)), none] [.inl (-1), .inr 100] Z7 (zri Q))
      refine z_vi (by rfl) (by rfl) cl_100 (TI.mono v fun r24 Z23 v => ?_)
      show TZ (d + 1) 265 44 [some (.inr 100), some (.inl x1), some (.inl x2), some (.inl x3), some (.inl (-1)), none] [.inl r24] Z23 (zri Q)
      exact z_reti (by rfl) (by rfl) v
theorem w266_0 {d : Nat} {x1 x2 : Int} {Z : zM} {Q : Int → zM → Prop}
    (v : TI d 206 [.inl x1] Z (fun r2 Z1 =>
      zR r2 ∧
        (r2 ≠ 0 → (zR r2 ∧
            (r2 = 0 → TV d 205 [.inr 100, .inl x1] Z1 (fun Z7 =>
                TZ (d + 1) 266 48 [some (.inr 100), some (.inl x1), some (.inl x2), some (.inl r2), some (.inl 0), some (.inl 0), some (.inl 0), some (.inl 1)] [] Z7 (zri Q))) ∧
            (¬ r2 = 0 → TI d 154 [.inr 100, .inl r2] Z1 (fun r9 Z8 =>
                Q r9 Z8)))) ∧
        (¬ r2 ≠ 0 → TI d 155 [.inl x2, .inl 0, .inl 1] Z1 (fun r11 Z10 =>
            zR r11 ∧
              (r11 ≠ 0 → (zR r2 ∧
                  (r2 = 0 → TV d 205 [.inr 100, .inl x1] Z10 (fun Z16 =>
                      TZ (d + 1) 266 48 [some (.inr 100), some (.inl x1), some (.inl x2), some (.inl r2), some (.inl 0), some (.inl 0), some (.inl 0), some (.inl 1)] [] Z16 (zri Q))) ∧
                  (¬ r2 = 0 → TI d 154 [.inr 100, .inl r2] Z10 (fun r18 Z17 =>
                      Q r18 Z17)))) ∧
              (¬ r11 ≠ 0 → TI d 154 [.inr 100, .inl (-2)] Z10 (fun r20 Z19 =>
                  Q r20 Z19)))))) :
    TZ (d + 1) 266 0 [some (.inr 100), some (.inl x1), some (.inl x2), none, none, none, none, none] [] Z (zri Q) := by
  refine z0 (op := 3) (a := 1) (b := 0) (by rfl) (by rfl) (?_ : TZ (d + 1) 266 1 [some (.inr 100), some (.inl x1), some (.inl x2), none, none, none, none, none] [.inl x1] Z (zri Q))
  refine z_si (by rfl) (by rfl) (TI.mono v fun r2 Z1 v => ?_)
  show TZ (d + 1) 266 4 [some (.inr 100), some (.inl x1), some (.inl x2), none, none, none, none, none] [.inl r2] Z1 (zri Q)
  refine z0 (op := 7) (a := 3) (b := 0) (by rfl) (by rfl) (?_ : TZ (d + 1) 266 5 [some (.inr 100), some (.inl x1), some (.inl x2), some (.inl r2), none, none, none, none] [] Z1 (zri Q))
  refine z0 (op := 3) (a := 3) (b := 0) (by rfl) (by rfl) (?_ : TZ (d + 1) 266 6 [some (.inr 100), some (.inl x1), some (.inl x2), some (.inl r2), none, none, none, none] [.inl r2] Z1 (zri Q))
  obtain ⟨c3, v1, v2⟩ := v
  refine z_if0 (a := 1) (t := 21) (by rfl) (by rfl) c3 (fun h4 => ?_) (fun h4 => ?_)
  · have v := v1 h4; clear v1 v2
    show TZ (d + 1) 266 21 [some (.inr 100), some (.inl x1), some (.inl x2), some (.inl r2), none, none, none, none] [] Z1 (zri Q)
    refine z0 (op := 3) (a := 3) (b := 0) (by rfl) (by rfl) (?_ : TZ (d + 1) 266 22 [some (.inr 100), some (.inl x1), some (.inl x2), some (.inl r2), none, none, none, none] [.inl r2] Z1 (zri Q))
    obtain ⟨c5, v1, v2⟩ := v
    refine z_if0 (a := 0) (t := 31) (by rfl) (by rfl) c5 (fun h6 => ?_) (fun h6 => ?_)
    · have v := v1 h6; clear v1 v2
      show TZ (d + 1) 266 31 [some (.inr 100), some (.inl x1), some (.inl x2), some (.inl r2), none, none, none, none] [] Z1 (zri Q)
      refine z0 (op := 5) (a := 0) (b := 0) (by rfl) (by rfl) (?_ : TZ (d + 1) 266 32 [some (.inr 100), some (.inl x1), some (.inl x2), some (.inl r2), none, none, none, none] [.inr 100] Z1 (zri Q))
      refine z0 (op := 3) (a := 1) (b := 0) (by rfl) (by rfl) (?_ : TZ (d + 1) 266 33 [some (.inr 100), some (.inl x1), some (.inl x2), some (.inl r2), none, none, none, none] [.inl x1, .inr 100] Z1 (zri Q))
      refine z_vv (by rfl) (by rfl) cl_100 (TV.mono v fun Z7 v => ?_)
      show TZ (d + 1) 266 36 [some (.inr 100), some (.inl x1), some (.inl x2), some (.inl r2), none, none, none, none] [] Z7 (zri Q)
      refine z0 (op := 0) (a := 0) (b := 0) (by rfl) (by rfl) (?_ : TZ (d + 1) 266 37 [some (.inr 100), some (.inl x1), some (.inl x2), some (.inl r2), none, none, none, none] [.inl 0] Z7 (zri Q))
      refine z0 (op := 8) (a := 4) (b := 0) (by rfl) (by rfl) (?_ : TZ (d + 1) 266 39 [some (.inr 100), some (.inl x1), some (.inl x2), some (.inl r2), some (.inl 0), none, none, none] [] Z7 (zri Q))
      refine z0 (op := 0) (a := 0) (b := 0) (by rfl) (by rfl) (?_ : TZ (d + 1) 266 40 [some (.inr 100), some (.inl x1), some (.inl x2), some (.inl r2), some (.inl 0), none, none, none] [.inl 0] Z7 (zri Q))
      refine z0 (op := 8) (a := 5) (b := 0) (by rfl) (by rfl) (?_ : TZ (d + 1) 266 42 [some (.inr 100), some (.inl x1), some (.inl x2), some (.inl r2), some (.inl 0), some (.inl 0), none, none] [] Z7 (zri Q))
      refine z0 (op := 0) (a := 0) (b := 0) (by rfl) (by rfl) (?_ : TZ (d + 1) 266 43 [some (.inr 100), some (.inl x1), some (.inl x2), some (.inl r2), some (.inl 0), some (.inl 0), none, none] [.inl 0] Z7 (zri Q))
      refine z0 (op := 8) (a := 6) (b := 0) (by rfl) (by rfl) (?_ : TZ (d + 1) 266 45 [some (.inr 100), some (.inl x1), some (.inl x2), some (.inl r2), some (.inl 0), some (.inl 0), some (.inl 0), none] [] Z7 (zri Q))
      refine z0 (op := 0) (a := 0) (b := 1) (by rfl) (by rfl) (?_ : TZ (d + 1) 266 46 [some (.inr 100), some (.inl x1), some (.inl x2), some (.inl r2), some (.inl 0), some (.inl 0), some (.inl 0), none] [.inl 1] Z7 (zri Q))
      refine z0 (op := 8) (a := 7) (b := 0) (by rfl) (by rfl) (?_ : TZ (d + 1) 266 48 [some (.inr 100), some (.inl x1), some (.inl x2), some (.inl r2), some (.inl 0), some (.inl 0), some (.inl 0), some (.inl 1)] [] Z7 (zri Q))
      exact v
    · have v := v2 h6; clear v1 v2
      show TZ (d + 1) 266 25 [some (.inr 100), some (.inl x1), some (.inl x2), some (.inl r2), none, none, none, none] [] Z1 (zri Q)
      refine z0 (op := 5) (a := 0) (b := 0) (by rfl) (by rfl) (?_ : TZ (d + 1) 266 26 [some (.inr 100), some (.inl x1), some (.inl x2), some (.inl r2), none, none, none, none] [.inr 100] Z1 (zri Q))
      refine z0 (op := 3) (a := 3) (b := 0) (by rfl) (by rfl) (?_ : TZ (d + 1) 266 27 [some (.inr 100), some (.inl x1), some (.inl x2), some (.inl r2), none, none, none, none] [.inl r2, .inr 100] Z1 (zri Q))
      refine z_vi (by rfl) (by rfl) cl_100 (TI.mono v fun r9 Z8 v => ?_)
      show TZ (d + 1) 266 30 [some (.inr 100), some (.inl x1), some (.inl x2), some (.inl r2), none, none, none, none] [.inl r9] Z8 (zri Q)
      exact z_reti (by rfl) (by rfl) v
  · have v := v2 h4; clear v1 v2
    show TZ (d + 1) 266 9 [some (.inr 100), some (.inl x1), some (.inl x2), some (.inl r2), none, none, none, none] [] Z1 (zri Q)
    refine z0 (op := 3) (a := 2) (b := 0) (by rfl) (by rfl) (?_ : TZ (d + 1) 266 10 [some (.inr 100), some (.inl x1), some (.inl x2), some (.inl r2), none, none, none, none] [.inl x2] Z1 (zri Q))
    refine z0 (op := 0) (a := 0) (b := 0) (by rfl) (by rfl) (?_ : TZ (d + 1) 266 11 [some (.inr 100), some (.inl x1), some (.inl x2), some (.inl r2), none, none, none, none] [.inl 0, .inl x2] Z1 (zri Q))
    refine z0 (op := 0) (a := 0) (b := 1) (by rfl) (by rfl) (?_ : TZ (d + 1) 266 12 [some (.inr 100), some (.inl x1), some (.inl x2), some (.inl r2), none, none, none, none] [.inl 1, .inl 0, .inl x2] Z1 (zri Q))
    refine z_si (by rfl) (by rfl) (TI.mono v fun r11 Z10 v => ?_)
    show TZ (d + 1) 266 15 [some (.inr 100), some (.inl x1), some (.inl x2), some (.inl r2), none, none, none, none] [.inl r11] Z10 (zri Q)
    obtain ⟨c12, v1, v2⟩ := v
    refine z_if0 (a := 1) (t := 21) (by rfl) (by rfl) c12 (fun h13 => ?_) (fun h13 => ?_)
    · have v := v1 h13; clear v1 v2
      show TZ (d + 1) 266 21 [some (.inr 100), some (.inl x1), some (.inl x2), some (.inl r2), none, none, none, none] [] Z10 (zri Q)
      refine z0 (op := 3) (a := 3) (b := 0) (by rfl) (by rfl) (?_ : TZ (d + 1) 266 22 [some (.inr 100), some (.inl x1), some (.inl x2), some (.inl r2), none, none, none, none] [.inl r2] Z10 (zri Q))
      obtain ⟨c14, v1, v2⟩ := v
      refine z_if0 (a := 0) (t := 31) (by rfl) (by rfl) c14 (fun h15 => ?_) (fun h15 => ?_)
      · have v := v1 h15; clear v1 v2
        show TZ (d + 1) 266 31 [some (.inr 100), some (.inl x1), some (.inl x2), some (.inl r2), none, none, none, none] [] Z10 (zri Q)
        refine z0 (op := 5) (a := 0) (b := 0) (by rfl) (by rfl) (?_ : TZ (d + 1) 266 32 [some (.inr 100), some (.inl x1), some (.inl x2), some (.inl r2), none, none, none, none] [.inr 100] Z10 (zri Q))
        refine z0 (op := 3) (a := 1) (b := 0) (by rfl) (by rfl) (?_ : TZ (d + 1) 266 33 [some (.inr 100), some (.inl x1), some (.inl x2), some (.inl r2), none, none, none, none] [.inl x1, .inr 100] Z10 (zri Q))
        refine z_vv (by rfl) (by rfl) cl_100 (TV.mono v fun Z16 v => ?_)
        show TZ (d + 1) 266 36 [some (.inr 100), some (.inl x1), some (.inl x2), some (.inl r2), none, none, none, none] [] Z16 (zri Q)
        refine z0 (op := 0) (a := 0) (b := 0) (by rfl) (by rfl) (?_ : TZ (d + 1) 266 37 [some (.inr 100), some (.inl x1), some (.inl x2), some (.inl r2), none, none, none, none] [.inl 0] Z16 (zri Q))
        refine z0 (op := 8) (a := 4) (b := 0) (by rfl) (by rfl) (?_ : TZ (d + 1) 266 39 [some (.inr 100), some (.inl x1), some (.inl x2), some (.inl r2), some (.inl 0), none, none, none] [] Z16 (zri Q))
        refine z0 (op := 0) (a := 0) (b := 0) (by rfl) (by rfl) (?_ : TZ (d + 1) 266 40 [some (.inr 100), some (.inl x1), some (.inl x2), some (.inl r2), some (.inl 0), none, none, none] [.inl 0] Z16 (zri Q))
        refine z0 (op := 8) (a := 5) (b := 0) (by rfl) (by rfl) (?_ : TZ (d + 1) 266 42 [some (.inr 100), some (.inl x1), some (.inl x2), some (.inl r2), some (.inl 0), some (.inl 0), none, none] [] Z16 (zri Q))
        refine z0 (op := 0) (a := 0) (b := 0) (by rfl) (by rfl) (?_ : TZ (d + 1) 266 43 [some (.inr 100), some (.inl x1), some (.inl x2), some (.inl r2), some (.inl 0), some (.inl 0), none, none] [.inl 0] Z16 (zri Q))
        refine z0 (op := 8) (a := 6) (b := 0) (by rfl) (by rfl) (?_ : TZ (d + 1) 266 45 [some (.inr 100), some (.inl x1), some (.inl x2), some (.inl r2), some (.inl 0), some (.inl 0), some (.inl 0), none] [] Z16 (zri Q))
        refine z0 (op := 0) (a := 0) (b := 1) (by rfl) (by rfl) (?_ : TZ (d + 1) 266 46 [some (.inr 100), some (.inl x1), some (.inl x2), some (.inl r2), some (.inl 0), some (.inl 0), some (.inl 0), none] [.inl 1] Z16 (zri Q))
        refine z0 (op := 8) (a := 7) (b := 0) (by rfl) (by rfl) (?_ : TZ (d + 1) 266 48 [some (.inr 100), some (.inl x1), some (.inl x2), some (.inl r2), some (.inl 0), some (.inl 0), some (.inl 0), some (.inl 1)] [] Z16 (zri Q))
        exact v
      · have v := v2 h15; clear v1 v2
        show TZ (d + 1) 266 25 [some (.inr 100), some (.inl x1), some (.inl x2), some (.inl r2), none, none, none, none] [] Z10 (zri Q)
        refine z0 (op := 5) (a := 0) (b := 0) (by rfl) (by rfl) (?_ : TZ (d + 1) 266 26 [some (.inr 100), some (.inl x1), some (.inl x2), some (.inl r2), none, none, none, none] [.inr 100] Z10 (zri Q))
        refine z0 (op := 3) (a := 3) (b := 0) (by rfl) (by rfl) (?_ : TZ (d + 1) 266 27 [some (.inr 100), some (.inl x1), some (.inl x2), some (.inl r2), none, none, none, none] [.inl r2, .inr 100] Z10 (zri Q))
        refine z_vi (by rfl) (by rfl) cl_100 (TI.mono v fun r18 Z17 v => ?_)
        show TZ (d + 1) 266 30 [some (.inr 100), some (.inl x1), some (.inl x2), some (.inl r2), none, none, none, none] [.inl r18] Z17 (zri Q)
        exact z_reti (by rfl) (by rfl) v
    · have v := v2 h13; clear v1 v2
      show TZ (d + 1) 266 18 [some (.inr 100), some (.inl x1), some (.inl x2), some (.inl r2), none, none, none, none] [] Z10 (zri Q)
      refine z0 (op := 1) (a := 0) (b := (-2)) (by rfl) (by rfl) (?_ : TZ (d + 1) 266 20 [some (.inr 100), some (.inl x1), some (.inl x2), some (.inl r2), none, none, none, none] [.inl (-2)] Z10 (zri Q))
      refine z0 (op := 7) (a := 3) (b := 0) (by rfl) (by rfl) (?_ : TZ (d + 1) 266 21 [some (.inr 100), some (.inl x1), some (.inl x2), some (.inl (-2)), none, none, none, none] [] Z10 (zri Q))
      refine z0 (op := 3) (a := 3) (b := 0) (by rfl) (by rfl) (?_ : TZ (d + 1) 266 22 [some (.inr 100), some (.inl x1), some (.inl x2), some (.inl (-2)), none, none, none, none] [.inl (-2)] Z10 (zri Q))
      refine z_if0 (a := 0) (t := 31) (by rfl) (by rfl) (by decide) (fun h => absurd (show ((-2) : Int) = (0 : Int) from h) (by decide)) (fun _ => ?_)
      show TZ (d + 1) 266 25 [some (.inr 100), some (.inl x1), some (.inl x2), some (.inl (-2)), none, none, none, none] [] Z10 (zri Q)
      refine z0 (op := 5) (a := 0) (b := 0) (by rfl) (by rfl) (?_ : TZ (d + 1) 266 26 [some (.inr 100), some (.inl x1), some (.inl x2), some (.inl (-2)), none, none, none, none] [.inr 100] Z10 (zri Q))
      refine z0 (op := 3) (a := 3) (b := 0) (by rfl) (by rfl) (?_ : TZ (d + 1) 266 27 [some (.inr 100), some (.inl x1), some (.inl x2), some (.inl (-2)), none, none, none, none] [.inl (-2), .inr 100] Z10 (zri Q))
      refine z_vi (by rfl) (by rfl) cl_100 (TI.mono v fun r20 Z19 v => ?_)
      show TZ (d + 1) 266 30 [some (.inr 100), some (.inl x1), some (.inl x2), some (.inl (-2)), none, none, none, none] [.inl r20] Z19 (zri Q)
      exact z_reti (by rfl) (by rfl) v
theorem w266_48 {d : Nat} {x1 x2 x3 x4 x5 x6 x7 : Int} {Z : zM} {Q : Int → zM → Prop}
    (v : zR x7 ∧
      zR x1 ∧
      (x1 < x7 → (zR x2 ∧
          (x2 ≠ 0 → Q x6 Z) ∧
          (¬ x2 ≠ 0 → Q x4 Z))) ∧
      (¬ x1 < x7 → ((0 ≤ x7 ∧ x7 < 64) ∧
          zR (Z 112 x7) ∧
          ((Z 112 x7) ≠ 0 → ((0 ≤ x7 ∧ x7 < 64) ∧
              zR (Z 112 x7) ∧
              ((Z 112 x7) ≠ 0 → (zR x6 ∧
                  (0 ≤ x6 → TZ d 266 48 [some (.inr 100), some (.inl x1), some (.inl x2), some (.inl x3), some (.inl (x4 + 0)), some (.inl 0), some (.inl x6), some (.inl (x7 + 1))] [] Z (zri Q)) ∧
                  (¬ 0 ≤ x6 → TZ d 266 48 [some (.inr 100), some (.inl x1), some (.inl x2), some (.inl x3), some (.inl (x4 + 0)), some (.inl 0), some (.inl 0), some (.inl (x7 + 1))] [] Z (zri Q)))) ∧
              (¬ (Z 112 x7) ≠ 0 → (zR x6 ∧
                  (0 ≤ x6 → TZ d 266 48 [some (.inr 100), some (.inl x1), some (.inl x2), some (.inl x3), some (.inl (x4 + 1)), some (.inl 0), some (.inl x6), some (.inl (x7 + 1))] [] Z (zri Q)) ∧
                  (¬ 0 ≤ x6 → TZ d 266 48 [some (.inr 100), some (.inl x1), some (.inl x2), some (.inl x3), some (.inl (x4 + 1)), some (.inl 0), some (.inl 0), some (.inl (x7 + 1))] [] Z (zri Q)))))) ∧
          (¬ (Z 112 x7) ≠ 0 → ((0 ≤ x7 ∧ x7 < 64) ∧
              zR (Z 112 x7) ∧
              ((Z 112 x7) ≠ 0 → (zR (x5 + 1) ∧
                  zR x6 ∧
                  ((x5 + 1) ≤ x6 → TZ d 266 48 [some (.inr 100), some (.inl x1), some (.inl x2), some (.inl x3), some (.inl (x4 + 0)), some (.inl (x5 + 1)), some (.inl x6), some (.inl (x7 + 1))] [] Z (zri Q)) ∧
                  (¬ (x5 + 1) ≤ x6 → TZ d 266 48 [some (.inr 100), some (.inl x1), some (.inl x2), some (.inl x3), some (.inl (x4 + 0)), some (.inl (x5 + 1)), some (.inl (x5 + 1)), some (.inl (x7 + 1))] [] Z (zri Q)))) ∧
              (¬ (Z 112 x7) ≠ 0 → (zR (x5 + 1) ∧
                  zR x6 ∧
                  ((x5 + 1) ≤ x6 → TZ d 266 48 [some (.inr 100), some (.inl x1), some (.inl x2), some (.inl x3), some (.inl (x4 + 1)), some (.inl (x5 + 1)), some (.inl x6), some (.inl (x7 + 1))] [] Z (zri Q)) ∧
                  (¬ (x5 + 1) ≤ x6 → TZ d 266 48 [some (.inr 100), some (.inl x1), some (.inl x2), some (.inl x3), some (.inl (x4 + 1)), some (.inl (x5 + 1)), some (.inl (x5 + 1)), some (.inl (x7 + 1))] [] Z (zri Q))))))))) :
    TZ d 266 48 [some (.inr 100), some (.inl x1), some (.inl x2), some (.inl x3), some (.inl x4), some (.inl x5), some (.inl x6), some (.inl x7)] [] Z (zri Q) := by
  refine z0 (op := 4) (a := 7) (b := 0) (by rfl) (by rfl) (?_ : TZ d 266 50 [some (.inr 100), some (.inl x1), some (.inl x2), some (.inl x3), some (.inl x4), some (.inl x5), some (.inl x6), some (.inl x7)] [.inl x7] Z (zri Q))
  refine z0 (op := 3) (a := 1) (b := 0) (by rfl) (by rfl) (?_ : TZ d 266 51 [some (.inr 100), some (.inl x1), some (.inl x2), some (.inl x3), some (.inl x4), some (.inl x5), some (.inl x6), some (.inl x7)] [.inl x1, .inl x7] Z (zri Q))
  obtain ⟨c1, c2, v1, v2⟩ := v
  refine z_if2 (a := 4) (t := 116) (by rfl) (by rfl) c1 c2 (fun h3 => ?_) (fun h3 => ?_)
  · have v := v1 h3; clear v1 v2
    show TZ d 266 116 [some (.inr 100), some (.inl x1), some (.inl x2), some (.inl x3), some (.inl x4), some (.inl x5), some (.inl x6), some (.inl x7)] [] Z (zri Q)
    refine z0 (op := 3) (a := 2) (b := 0) (by rfl) (by rfl) (?_ : TZ d 266 117 [some (.inr 100), some (.inl x1), some (.inl x2), some (.inl x3), some (.inl x4), some (.inl x5), some (.inl x6), some (.inl x7)] [.inl x2] Z (zri Q))
    obtain ⟨c4, v1, v2⟩ := v
    refine z_if0 (a := 1) (t := 125) (by rfl) (by rfl) c4 (fun h5 => ?_) (fun h5 => ?_)
    · have v := v1 h5; clear v1 v2
      show TZ d 266 125 [some (.inr 100), some (.inl x1), some (.inl x2), some (.inl x3), some (.inl x4), some (.inl x5), some (.inl x6), some (.inl x7)] [] Z (zri Q)
      refine z0 (op := 4) (a := 6) (b := 0) (by rfl) (by rfl) (?_ : TZ d 266 127 [some (.inr 100), some (.inl x1), some (.inl x2), some (.inl x3), some (.inl x4), some (.inl x5), some (.inl x6), some (.inl x7)] [.inl x6] Z (zri Q))
      exact z_reti (by rfl) (by rfl) v
    · have v := v2 h5; clear v1 v2
      show TZ d 266 120 [some (.inr 100), some (.inl x1), some (.inl x2), some (.inl x3), some (.inl x4), some (.inl x5), some (.inl x6), some (.inl x7)] [] Z (zri Q)
      refine z0 (op := 4) (a := 4) (b := 0) (by rfl) (by rfl) (?_ : TZ d 266 122 [some (.inr 100), some (.inl x1), some (.inl x2), some (.inl x3), some (.inl x4), some (.inl x5), some (.inl x6), some (.inl x7)] [.inl x4] Z (zri Q))
      refine z_goto (t := 127) (by rfl) (by rfl) (?_ : TZ d 266 127 [some (.inr 100), some (.inl x1), some (.inl x2), some (.inl x3), some (.inl x4), some (.inl x5), some (.inl x6), some (.inl x7)] [.inl x4] Z (zri Q))
      exact z_reti (by rfl) (by rfl) v
  · have v := v2 h3; clear v1 v2
    show TZ d 266 54 [some (.inr 100), some (.inl x1), some (.inl x2), some (.inl x3), some (.inl x4), some (.inl x5), some (.inl x6), some (.inl x7)] [] Z (zri Q)
    refine z0 (op := 5) (a := 0) (b := 0) (by rfl) (by rfl) (?_ : TZ d 266 55 [some (.inr 100), some (.inl x1), some (.inl x2), some (.inl x3), some (.inl x4), some (.inl x5), some (.inl x6), some (.inl x7)] [.inr 100] Z (zri Q))
    refine z_fr (by rfl) fr99_100 (?_ : TZ d 266 58 [some (.inr 100), some (.inl x1), some (.inl x2), some (.inl x3), some (.inl x4), some (.inl x5), some (.inl x6), some (.inl x7)] [.inr 112] Z (zri Q))
    refine z0 (op := 4) (a := 7) (b := 0) (by rfl) (by rfl) (?_ : TZ d 266 60 [some (.inr 100), some (.inl x1), some (.inl x2), some (.inl x3), some (.inl x4), some (.inl x5), some (.inl x6), some (.inl x7)] [.inl x7, .inr 112] Z (zri Q))
    obtain ⟨c6, v⟩ := v
    refine z_al (by rfl) ln_112 c6 (?_ : TZ d 266 61 [some (.inr 100), some (.inl x1), some (.inl x2), some (.inl x3), some (.inl x4), some (.inl x5), some (.inl x6), some (.inl x7)] [.inl (Z 112 x7)] Z (zri Q))
    obtain ⟨c7, v1, v2⟩ := v
    refine z_if0 (a := 1) (t := 71) (by rfl) (by rfl) c7 (fun h8 => ?_) (fun h8 => ?_)
    · have v := v1 h8; clear v1 v2
      show TZ d 266 71 [some (.inr 100), some (.inl x1), some (.inl x2), some (.inl x3), some (.inl x4), some (.inl x5), some (.inl x6), some (.inl x7)] [] Z (zri Q)
      refine z0 (op := 0) (a := 0) (b := 0) (by rfl) (by rfl) (?_ : TZ d 266 72 [some (.inr 100), some (.inl x1), some (.inl x2), some (.inl x3), some (.inl x4), some (.inl x5), some (.inl x6), some (.inl x7)] [.inl 0] Z (zri Q))
      refine z0 (op := 8) (a := 5) (b := 0) (by rfl) (by rfl) (?_ : TZ d 266 74 [some (.inr 100), some (.inl x1), some (.inl x2), some (.inl x3), some (.inl x4), some (.inl 0), some (.inl x6), some (.inl x7)] [] Z (zri Q))
      refine z0 (op := 4) (a := 4) (b := 0) (by rfl) (by rfl) (?_ : TZ d 266 76 [some (.inr 100), some (.inl x1), some (.inl x2), some (.inl x3), some (.inl x4), some (.inl 0), some (.inl x6), some (.inl x7)] [.inl x4] Z (zri Q))
      refine z0 (op := 5) (a := 0) (b := 0) (by rfl) (by rfl) (?_ : TZ d 266 77 [some (.inr 100), some (.inl x1), some (.inl x2), some (.inl x3), some (.inl x4), some (.inl 0), some (.inl x6), some (.inl x7)] [.inr 100, .inl x4] Z (zri Q))
      refine z_fr (by rfl) fr99_100 (?_ : TZ d 266 80 [some (.inr 100), some (.inl x1), some (.inl x2), some (.inl x3), some (.inl x4), some (.inl 0), some (.inl x6), some (.inl x7)] [.inr 112, .inl x4] Z (zri Q))
      refine z0 (op := 4) (a := 7) (b := 0) (by rfl) (by rfl) (?_ : TZ d 266 82 [some (.inr 100), some (.inl x1), some (.inl x2), some (.inl x3), some (.inl x4), some (.inl 0), some (.inl x6), some (.inl x7)] [.inl x7, .inr 112, .inl x4] Z (zri Q))
      obtain ⟨c9, v⟩ := v
      refine z_al (by rfl) ln_112 c9 (?_ : TZ d 266 83 [some (.inr 100), some (.inl x1), some (.inl x2), some (.inl x3), some (.inl x4), some (.inl 0), some (.inl x6), some (.inl x7)] [.inl (Z 112 x7), .inl x4] Z (zri Q))
      obtain ⟨c10, v1, v2⟩ := v
      refine z_if0 (a := 1) (t := 90) (by rfl) (by rfl) c10 (fun h11 => ?_) (fun h11 => ?_)
      · have v := v1 h11; clear v1 v2
        show TZ d 266 90 [some (.inr 100), some (.inl x1), some (.inl x2), some (.inl x3), some (.inl x4), some (.inl 0), some (.inl x6), some (.inl x7)] [.inl x4] Z (zri Q)
        refine z0 (op := 0) (a := 0) (b := 0) (by rfl) (by rfl) (?_ : TZ d 266 91 [some (.inr 100), some (.inl x1), some (.inl x2), some (.inl x3), some (.inl x4), some (.inl 0), some (.inl x6), some (.inl x7)] [.inl 0, .inl x4] Z (zri Q))
        refine z0 (op := 12) (a := 0) (b := 0) (by rfl) (by rfl) (?_ : TZ d 266 92 [some (.inr 100), some (.inl x1), some (.inl x2), some (.inl x3), some (.inl x4), some (.inl 0), some (.inl x6), some (.inl x7)] [.inl (x4 + 0)] Z (zri Q))
        refine z0 (op := 8) (a := 4) (b := 0) (by rfl) (by rfl) (?_ : TZ d 266 94 [some (.inr 100), some (.inl x1), some (.inl x2), some (.inl x3), some (.inl (x4 + 0)), some (.inl 0), some (.inl x6), some (.inl x7)] [] Z (zri Q))
        refine z0 (op := 4) (a := 5) (b := 0) (by rfl) (by rfl) (?_ : TZ d 266 96 [some (.inr 100), some (.inl x1), some (.inl x2), some (.inl x3), some (.inl (x4 + 0)), some (.inl 0), some (.inl x6), some (.inl x7)] [.inl 0] Z (zri Q))
        refine z0 (op := 4) (a := 6) (b := 0) (by rfl) (by rfl) (?_ : TZ d 266 98 [some (.inr 100), some (.inl x1), some (.inl x2), some (.inl x3), some (.inl (x4 + 0)), some (.inl 0), some (.inl x6), some (.inl x7)] [.inl x6, .inl 0] Z (zri Q))
        obtain ⟨c12, v1, v2⟩ := v
        refine z_if2 (a := 5) (t := 106) (by rfl) (by rfl) (by decide) c12 (fun h13 => ?_) (fun h13 => ?_)
        · have v := v1 h13; clear v1 v2
          show TZ d 266 106 [some (.inr 100), some (.inl x1), some (.inl x2), some (.inl x3), some (.inl (x4 + 0)), some (.inl 0), some (.inl x6), some (.inl x7)] [] Z (zri Q)
          refine z0 (op := 4) (a := 6) (b := 0) (by rfl) (by rfl) (?_ : TZ d 266 108 [some (.inr 100), some (.inl x1), some (.inl x2), some (.inl x3), some (.inl (x4 + 0)), some (.inl 0), some (.inl x6), some (.inl x7)] [.inl x6] Z (zri Q))
          refine z0 (op := 8) (a := 6) (b := 0) (by rfl) (by rfl) (?_ : TZ d 266 110 [some (.inr 100), some (.inl x1), some (.inl x2), some (.inl x3), some (.inl (x4 + 0)), some (.inl 0), some (.inl x6), some (.inl x7)] [] Z (zri Q))
          refine z0 (op := 11) (a := 7) (b := 1) (by rfl) (by rfl) (?_ : TZ d 266 113 [some (.inr 100), some (.inl x1), some (.inl x2), some (.inl x3), some (.inl (x4 + 0)), some (.inl 0), some (.inl x6), some (.inl (x7 + 1))] [] Z (zri Q))
          refine z_goto (t := 48) (by rfl) (by rfl) (?_ : TZ d 266 48 [some (.inr 100), some (.inl x1), some (.inl x2), some (.inl x3), some (.inl (x4 + 0)), some (.inl 0), some (.inl x6), some (.inl (x7 + 1))] [] Z (zri Q))
          exact v
        · have v := v2 h13; clear v1 v2
          show TZ d 266 101 [some (.inr 100), some (.inl x1), some (.inl x2), some (.inl x3), some (.inl (x4 + 0)), some (.inl 0), some (.inl x6), some (.inl x7)] [] Z (zri Q)
          refine z0 (op := 4) (a := 5) (b := 0) (by rfl) (by rfl) (?_ : TZ d 266 103 [some (.inr 100), some (.inl x1), some (.inl x2), some (.inl x3), some (.inl (x4 + 0)), some (.inl 0), some (.inl x6), some (.inl x7)] [.inl 0] Z (zri Q))
          refine z_goto (t := 108) (by rfl) (by rfl) (?_ : TZ d 266 108 [some (.inr 100), some (.inl x1), some (.inl x2), some (.inl x3), some (.inl (x4 + 0)), some (.inl 0), some (.inl x6), some (.inl x7)] [.inl 0] Z (zri Q))
          refine z0 (op := 8) (a := 6) (b := 0) (by rfl) (by rfl) (?_ : TZ d 266 110 [some (.inr 100), some (.inl x1), some (.inl x2), some (.inl x3), some (.inl (x4 + 0)), some (.inl 0), some (.inl 0), some (.inl x7)] [] Z (zri Q))
          refine z0 (op := 11) (a := 7) (b := 1) (by rfl) (by rfl) (?_ : TZ d 266 113 [some (.inr 100), some (.inl x1), some (.inl x2), some (.inl x3), some (.inl (x4 + 0)), some (.inl 0), some (.inl 0), some (.inl (x7 + 1))] [] Z (zri Q))
          refine z_goto (t := 48) (by rfl) (by rfl) (?_ : TZ d 266 48 [some (.inr 100), some (.inl x1), some (.inl x2), some (.inl x3), some (.inl (x4 + 0)), some (.inl 0), some (.inl 0), some (.inl (x7 + 1))] [] Z (zri Q))
          exact v
      · have v := v2 h11; clear v1 v2
        show TZ d 266 86 [some (.inr 100), some (.inl x1), some (.inl x2), some (.inl x3), some (.inl x4), some (.inl 0), some (.inl x6), some (.inl x7)] [.inl x4] Z (zri Q)
        refine z0 (op := 0) (a := 0) (b := 1) (by rfl) (by rfl) (?_ : TZ d 266 87 [some (.inr 100), some (.inl x1), some (.inl x2), some (.inl x3), some (.inl x4), some (.inl 0), some (.inl x6), some (.inl x7)] [.inl 1, .inl x4] Z (zri Q))
        refine z_goto (t := 91) (by rfl) (by rfl) (?_ : TZ d 266 91 [some (.inr 100), some (.inl x1), some (.inl x2), some (.inl x3), some (.inl x4), some (.inl 0), some (.inl x6), some (.inl x7)] [.inl 1, .inl x4] Z (zri Q))
        refine z0 (op := 12) (a := 0) (b := 0) (by rfl) (by rfl) (?_ : TZ d 266 92 [some (.inr 100), some (.inl x1), some (.inl x2), some (.inl x3), some (.inl x4), some (.inl 0), some (.inl x6), some (.inl x7)] [.inl (x4 + 1)] Z (zri Q))
        refine z0 (op := 8) (a := 4) (b := 0) (by rfl) (by rfl) (?_ : TZ d 266 94 [some (.inr 100), some (.inl x1), some (.inl x2), some (.inl x3), some (.inl (x4 + 1)), some (.inl 0), some (.inl x6), some (.inl x7)] [] Z (zri Q))
        refine z0 (op := 4) (a := 5) (b := 0) (by rfl) (by rfl) (?_ : TZ d 266 96 [some (.inr 100), some (.inl x1), some (.inl x2), some (.inl x3), some (.inl (x4 + 1)), some (.inl 0), some (.inl x6), some (.inl x7)] [.inl 0] Z (zri Q))
        refine z0 (op := 4) (a := 6) (b := 0) (by rfl) (by rfl) (?_ : TZ d 266 98 [some (.inr 100), some (.inl x1), some (.inl x2), some (.inl x3), some (.inl (x4 + 1)), some (.inl 0), some (.inl x6), some (.inl x7)] [.inl x6, .inl 0] Z (zri Q))
        obtain ⟨c14, v1, v2⟩ := v
        refine z_if2 (a := 5) (t := 106) (by rfl) (by rfl) (by decide) c14 (fun h15 => ?_) (fun h15 => ?_)
        · have v := v1 h15; clear v1 v2
          show TZ d 266 106 [some (.inr 100), some (.inl x1), some (.inl x2), some (.inl x3), some (.inl (x4 + 1)), some (.inl 0), some (.inl x6), some (.inl x7)] [] Z (zri Q)
          refine z0 (op := 4) (a := 6) (b := 0) (by rfl) (by rfl) (?_ : TZ d 266 108 [some (.inr 100), some (.inl x1), some (.inl x2), some (.inl x3), some (.inl (x4 + 1)), some (.inl 0), some (.inl x6), some (.inl x7)] [.inl x6] Z (zri Q))
          refine z0 (op := 8) (a := 6) (b := 0) (by rfl) (by rfl) (?_ : TZ d 266 110 [some (.inr 100), some (.inl x1), some (.inl x2), some (.inl x3), some (.inl (x4 + 1)), some (.inl 0), some (.inl x6), some (.inl x7)] [] Z (zri Q))
          refine z0 (op := 11) (a := 7) (b := 1) (by rfl) (by rfl) (?_ : TZ d 266 113 [some (.inr 100), some (.inl x1), some (.inl x2), some (.inl x3), some (.inl (x4 + 1)), some (.inl 0), some (.inl x6), some (.inl (x7 + 1))] [] Z (zri Q))
          refine z_goto (t := 48) (by rfl) (by rfl) (?_ : TZ d 266 48 [some (.inr 100), some (.inl x1), some (.inl x2), some (.inl x3), some (.inl (x4 + 1)), some (.inl 0), some (.inl x6), some (.inl (x7 + 1))] [] Z (zri Q))
          exact v
        · have v := v2 h15; clear v1 v2
          show TZ d 266 101 [some (.inr 100), some (.inl x1), some (.inl x2), some (.inl x3), some (.inl (x4 + 1)), some (.inl 0), some (.inl x6), some (.inl x7)] [] Z (zri Q)
          refine z0 (op := 4) (a := 5) (b := 0) (by rfl) (by rfl) (?_ : TZ d 266 103 [some (.inr 100), some (.inl x1), some (.inl x2), some (.inl x3), some (.inl (x4 + 1)), some (.inl 0), some (.inl x6), some (.inl x7)] [.inl 0] Z (zri Q))
          refine z_goto (t := 108) (by rfl) (by rfl) (?_ : TZ d 266 108 [some (.inr 100), some (.inl x1), some (.inl x2), some (.inl x3), some (.inl (x4 + 1)), some (.inl 0), some (.inl x6), some (.inl x7)] [.inl 0] Z (zri Q))
          refine z0 (op := 8) (a := 6) (b := 0) (by rfl) (by rfl) (?_ : TZ d 266 110 [some (.inr 100), some (.inl x1), some (.inl x2), some (.inl x3), some (.inl (x4 + 1)), some (.inl 0), some (.inl 0), some (.inl x7)] [] Z (zri Q))
          refine z0 (op := 11) (a := 7) (b := 1) (by rfl) (by rfl) (?_ : TZ d 266 113 [some (.inr 100), some (.inl x1), some (.inl x2), some (.inl x3), some (.inl (x4 + 1)), some (.inl 0), some (.inl 0), some (.inl (x7 + 1))] [] Z (zri Q))
          refine z_goto (t := 48) (by rfl) (by rfl) (?_ : TZ d 266 48 [some (.inr 100), some (.inl x1), some (.inl x2), some (.inl x3), some (.inl (x4 + 1)), some (.inl 0), some (.inl 0), some (.inl (x7 + 1))] [] Z (zri Q))
          exact v
    · have v := v2 h8; clear v1 v2
      show TZ d 266 64 [some (.inr 100), some (.inl x1), some (.inl x2), some (.inl x3), some (.inl x4), some (.inl x5), some (.inl x6), some (.inl x7)] [] Z (zri Q)
      refine z0 (op := 4) (a := 5) (b := 0) (by rfl) (by rfl) (?_ : TZ d 266 66 [some (.inr 100), some (.inl x1), some (.inl x2), some (.inl x3), some (.inl x4), some (.inl x5), some (.inl x6), some (.inl x7)] [.inl x5] Z (zri Q))
      refine z0 (op := 0) (a := 0) (b := 1) (by rfl) (by rfl) (?_ : TZ d 266 67 [some (.inr 100), some (.inl x1), some (.inl x2), some (.inl x3), some (.inl x4), some (.inl x5), some (.inl x6), some (.inl x7)] [.inl 1, .inl x5] Z (zri Q))
      refine z0 (op := 12) (a := 0) (b := 0) (by rfl) (by rfl) (?_ : TZ d 266 68 [some (.inr 100), some (.inl x1), some (.inl x2), some (.inl x3), some (.inl x4), some (.inl x5), some (.inl x6), some (.inl x7)] [.inl (x5 + 1)] Z (zri Q))
      refine z_goto (t := 72) (by rfl) (by rfl) (?_ : TZ d 266 72 [some (.inr 100), some (.inl x1), some (.inl x2), some (.inl x3), some (.inl x4), some (.inl x5), some (.inl x6), some (.inl x7)] [.inl (x5 + 1)] Z (zri Q))
      refine z0 (op := 8) (a := 5) (b := 0) (by rfl) (by rfl) (?_ : TZ d 266 74 [some (.inr 100), some (.inl x1), some (.inl x2), some (.inl x3), some (.inl x4), some (.inl (x5 + 1)), some (.inl x6), some (.inl x7)] [] Z (zri Q))
      refine z0 (op := 4) (a := 4) (b := 0) (by rfl) (by rfl) (?_ : TZ d 266 76 [some (.inr 100), some (.inl x1), some (.inl x2), some (.inl x3), some (.inl x4), some (.inl (x5 + 1)), some (.inl x6), some (.inl x7)] [.inl x4] Z (zri Q))
      refine z0 (op := 5) (a := 0) (b := 0) (by rfl) (by rfl) (?_ : TZ d 266 77 [some (.inr 100), some (.inl x1), some (.inl x2), some (.inl x3), some (.inl x4), some (.inl (x5 + 1)), some (.inl x6), some (.inl x7)] [.inr 100, .inl x4] Z (zri Q))
      refine z_fr (by rfl) fr99_100 (?_ : TZ d 266 80 [some (.inr 100), some (.inl x1), some (.inl x2), some (.inl x3), some (.inl x4), some (.inl (x5 + 1)), some (.inl x6), some (.inl x7)] [.inr 112, .inl x4] Z (zri Q))
      refine z0 (op := 4) (a := 7) (b := 0) (by rfl) (by rfl) (?_ : TZ d 266 82 [some (.inr 100), some (.inl x1), some (.inl x2), some (.inl x3), some (.inl x4), some (.inl (x5 + 1)), some (.inl x6), some (.inl x7)] [.inl x7, .inr 112, .inl x4] Z (zri Q))
      obtain ⟨c16, v⟩ := v
      refine z_al (by rfl) ln_112 c16 (?_ : TZ d 266 83 [some (.inr 100), some (.inl x1), some (.inl x2), some (.inl x3), some (.inl x4), some (.inl (x5 + 1)), some (.inl x6), some (.inl x7)] [.inl (Z 112 x7), .inl x4] Z (zri Q))
      obtain ⟨c17, v1, v2⟩ := v
      refine z_if0 (a := 1) (t := 90) (by rfl) (by rfl) c17 (fun h18 => ?_) (fun h18 => ?_)
      · have v := v1 h18; clear v1 v2
        show TZ d 266 90 [some (.inr 100), some (.inl x1), some (.inl x2), some (.inl x3), some (.inl x4), some (.inl (x5 + 1)), some (.inl x6), some (.inl x7)] [.inl x4] Z (zri Q)
        refine z0 (op := 0) (a := 0) (b := 0) (by rfl) (by rfl) (?_ : TZ d 266 91 [some (.inr 100), some (.inl x1), some (.inl x2), some (.inl x3), some (.inl x4), some (.inl (x5 + 1)), some (.inl x6), some (.inl x7)] [.inl 0, .inl x4] Z (zri Q))
        refine z0 (op := 12) (a := 0) (b := 0) (by rfl) (by rfl) (?_ : TZ d 266 92 [some (.inr 100), some (.inl x1), some (.inl x2), some (.inl x3), some (.inl x4), some (.inl (x5 + 1)), some (.inl x6), some (.inl x7)] [.inl (x4 + 0)] Z (zri Q))
        refine z0 (op := 8) (a := 4) (b := 0) (by rfl) (by rfl) (?_ : TZ d 266 94 [some (.inr 100), some (.inl x1), some (.inl x2), some (.inl x3), some (.inl (x4 + 0)), some (.inl (x5 + 1)), some (.inl x6), some (.inl x7)] [] Z (zri Q))
        refine z0 (op := 4) (a := 5) (b := 0) (by rfl) (by rfl) (?_ : TZ d 266 96 [some (.inr 100), some (.inl x1), some (.inl x2), some (.inl x3), some (.inl (x4 + 0)), some (.inl (x5 + 1)), some (.inl x6), some (.inl x7)] [.inl (x5 + 1)] Z (zri Q))
        refine z0 (op := 4) (a := 6) (b := 0) (by rfl) (by rfl) (?_ : TZ d 266 98 [some (.inr 100), some (.inl x1), some (.inl x2), some (.inl x3), some (.inl (x4 + 0)), some (.inl (x5 + 1)), some (.inl x6), some (.inl x7)] [.inl x6, .inl (x5 + 1)] Z (zri Q))
        obtain ⟨c19, c20, v1, v2⟩ := v
        refine z_if2 (a := 5) (t := 106) (by rfl) (by rfl) c19 c20 (fun h21 => ?_) (fun h21 => ?_)
        · have v := v1 h21; clear v1 v2
          show TZ d 266 106 [some (.inr 100), some (.inl x1), some (.inl x2), some (.inl x3), some (.inl (x4 + 0)), some (.inl (x5 + 1)), some (.inl x6), some (.inl x7)] [] Z (zri Q)
          refine z0 (op := 4) (a := 6) (b := 0) (by rfl) (by rfl) (?_ : TZ d 266 108 [some (.inr 100), some (.inl x1), some (.inl x2), some (.inl x3), some (.inl (x4 + 0)), some (.inl (x5 + 1)), some (.inl x6), some (.inl x7)] [.inl x6] Z (zri Q))
          refine z0 (op := 8) (a := 6) (b := 0) (by rfl) (by rfl) (?_ : TZ d 266 110 [some (.inr 100), some (.inl x1), some (.inl x2), some (.inl x3), some (.inl (x4 + 0)), some (.inl (x5 + 1)), some (.inl x6), some (.inl x7)] [] Z (zri Q))
          refine z0 (op := 11) (a := 7) (b := 1) (by rfl) (by rfl) (?_ : TZ d 266 113 [some (.inr 100), some (.inl x1), some (.inl x2), some (.inl x3), some (.inl (x4 + 0)), some (.inl (x5 + 1)), some (.inl x6), some (.inl (x7 + 1))] [] Z (zri Q))
          refine z_goto (t := 48) (by rfl) (by rfl) (?_ : TZ d 266 48 [some (.inr 100), some (.inl x1), some (.inl x2), some (.inl x3), some (.inl (x4 + 0)), some (.inl (x5 + 1)), some (.inl x6), some (.inl (x7 + 1))] [] Z (zri Q))
          exact v
        · have v := v2 h21; clear v1 v2
          show TZ d 266 101 [some (.inr 100), some (.inl x1), some (.inl x2), some (.inl x3), some (.inl (x4 + 0)), some (.inl (x5 + 1)), some (.inl x6), some (.inl x7)] [] Z (zri Q)
          refine z0 (op := 4) (a := 5) (b := 0) (by rfl) (by rfl) (?_ : TZ d 266 103 [some (.inr 100), some (.inl x1), some (.inl x2), some (.inl x3), some (.inl (x4 + 0)), some (.inl (x5 + 1)), some (.inl x6), some (.inl x7)] [.inl (x5 + 1)] Z (zri Q))
          refine z_goto (t := 108) (by rfl) (by rfl) (?_ : TZ d 266 108 [some (.inr 100), some (.inl x1), some (.inl x2), some (.inl x3), some (.inl (x4 + 0)), some (.inl (x5 + 1)), some (.inl x6), some (.inl x7)] [.inl (x5 + 1)] Z (zri Q))
          refine z0 (op := 8) (a := 6) (b := 0) (by rfl) (by rfl) (?_ : TZ d 266 110 [some (.inr 100), some (.inl x1), some (.inl x2), some (.inl x3), some (.inl (x4 + 0)), some (.inl (x5 + 1)), some (.inl (x5 + 1)), some (.inl x7)] [] Z (zri Q))
          refine z0 (op := 11) (a := 7) (b := 1) (by rfl) (by rfl) (?_ : TZ d 266 113 [some (.inr 100), some (.inl x1), some (.inl x2), some (.inl x3), some (.inl (x4 + 0)), some (.inl (x5 + 1)), some (.inl (x5 + 1)), some (.inl (x7 + 1))] [] Z (zri Q))
          refine z_goto (t := 48) (by rfl) (by rfl) (?_ : TZ d 266 48 [some (.inr 100), some (.inl x1), some (.inl x2), some (.inl x3), some (.inl (x4 + 0)), some (.inl (x5 + 1)), some (.inl (x5 + 1)), some (.inl (x7 + 1))] [] Z (zri Q))
          exact v
      · have v := v2 h18; clear v1 v2
        show TZ d 266 86 [some (.inr 100), some (.inl x1), some (.inl x2), some (.inl x3), some (.inl x4), some (.inl (x5 + 1)), some (.inl x6), some (.inl x7)] [.inl x4] Z (zri Q)
        refine z0 (op := 0) (a := 0) (b := 1) (by rfl) (by rfl) (?_ : TZ d 266 87 [some (.inr 100), some (.inl x1), some (.inl x2), some (.inl x3), some (.inl x4), some (.inl (x5 + 1)), some (.inl x6), some (.inl x7)] [.inl 1, .inl x4] Z (zri Q))
        refine z_goto (t := 91) (by rfl) (by rfl) (?_ : TZ d 266 91 [some (.inr 100), some (.inl x1), some (.inl x2), some (.inl x3), some (.inl x4), some (.inl (x5 + 1)), some (.inl x6), some (.inl x7)] [.inl 1, .inl x4] Z (zri Q))
        refine z0 (op := 12) (a := 0) (b := 0) (by rfl) (by rfl) (?_ : TZ d 266 92 [some (.inr 100), some (.inl x1), some (.inl x2), some (.inl x3), some (.inl x4), some (.inl (x5 + 1)), some (.inl x6), some (.inl x7)] [.inl (x4 + 1)] Z (zri Q))
        refine z0 (op := 8) (a := 4) (b := 0) (by rfl) (by rfl) (?_ : TZ d 266 94 [some (.inr 100), some (.inl x1), some (.inl x2), some (.inl x3), some (.inl (x4 + 1)), some (.inl (x5 + 1)), some (.inl x6), some (.inl x7)] [] Z (zri Q))
        refine z0 (op := 4) (a := 5) (b := 0) (by rfl) (by rfl) (?_ : TZ d 266 96 [some (.inr 100), some (.inl x1), some (.inl x2), some (.inl x3), some (.inl (x4 + 1)), some (.inl (x5 + 1)), some (.inl x6), some (.inl x7)] [.inl (x5 + 1)] Z (zri Q))
        refine z0 (op := 4) (a := 6) (b := 0) (by rfl) (by rfl) (?_ : TZ d 266 98 [some (.inr 100), some (.inl x1), some (.inl x2), some (.inl x3), some (.inl (x4 + 1)), some (.inl (x5 + 1)), some (.inl x6), some (.inl x7)] [.inl x6, .inl (x5 + 1)] Z (zri Q))
        obtain ⟨c22, c23, v1, v2⟩ := v
        refine z_if2 (a := 5) (t := 106) (by rfl) (by rfl) c22 c23 (fun h24 => ?_) (fun h24 => ?_)
        · have v := v1 h24; clear v1 v2
          show TZ d 266 106 [some (.inr 100), some (.inl x1), some (.inl x2), some (.inl x3), some (.inl (x4 + 1)), some (.inl (x5 + 1)), some (.inl x6), some (.inl x7)] [] Z (zri Q)
          refine z0 (op := 4) (a := 6) (b := 0) (by rfl) (by rfl) (?_ : TZ d 266 108 [some (.inr 100), some (.inl x1), some (.inl x2), some (.inl x3), some (.inl (x4 + 1)), some (.inl (x5 + 1)), some (.inl x6), some (.inl x7)] [.inl x6] Z (zri Q))
          refine z0 (op := 8) (a := 6) (b := 0) (by rfl) (by rfl) (?_ : TZ d 266 110 [some (.inr 100), some (.inl x1), some (.inl x2), some (.inl x3), some (.inl (x4 + 1)), some (.inl (x5 + 1)), some (.inl x6), some (.inl x7)] [] Z (zri Q))
          refine z0 (op := 11) (a := 7) (b := 1) (by rfl) (by rfl) (?_ : TZ d 266 113 [some (.inr 100), some (.inl x1), some (.inl x2), some (.inl x3), some (.inl (x4 + 1)), some (.inl (x5 + 1)), some (.inl x6), some (.inl (x7 + 1))] [] Z (zri Q))
          refine z_goto (t := 48) (by rfl) (by rfl) (?_ : TZ d 266 48 [some (.inr 100), some (.inl x1), some (.inl x2), some (.inl x3), some (.inl (x4 + 1)), some (.inl (x5 + 1)), some (.inl x6), some (.inl (x7 + 1))] [] Z (zri Q))
          exact v
        · have v := v2 h24; clear v1 v2
          show TZ d 266 101 [some (.inr 100), some (.inl x1), some (.inl x2), some (.inl x3), some (.inl (x4 + 1)), some (.inl (x5 + 1)), some (.inl x6), some (.inl x7)] [] Z (zri Q)
          refine z0 (op := 4) (a := 5) (b := 0) (by rfl) (by rfl) (?_ : TZ d 266 103 [some (.inr 100), some (.inl x1), some (.inl x2), some (.inl x3), some (.inl (x4 + 1)), some (.inl (x5 + 1)), some (.inl x6), some (.inl x7)] [.inl (x5 + 1)] Z (zri Q))
          refine z_goto (t := 108) (by rfl) (by rfl) (?_ : TZ d 266 108 [some (.inr 100), some (.inl x1), some (.inl x2), some (.inl x3), some (.inl (x4 + 1)), some (.inl (x5 + 1)), some (.inl x6), some (.inl x7)] [.inl (x5 + 1)] Z (zri Q))
          refine z0 (op := 8) (a := 6) (b := 0) (by rfl) (by rfl) (?_ : TZ d 266 110 [some (.inr 100), some (.inl x1), some (.inl x2), some (.inl x3), some (.inl (x4 + 1)), some (.inl (x5 + 1)), some (.inl (x5 + 1)), some (.inl x7)] [] Z (zri Q))
          refine z0 (op := 11) (a := 7) (b := 1) (by rfl) (by rfl) (?_ : TZ d 266 113 [some (.inr 100), some (.inl x1), some (.inl x2), some (.inl x3), some (.inl (x4 + 1)), some (.inl (x5 + 1)), some (.inl (x5 + 1)), some (.inl (x7 + 1))] [] Z (zri Q))
          refine z_goto (t := 48) (by rfl) (by rfl) (?_ : TZ d 266 48 [some (.inr 100), some (.inl x1), some (.inl x2), some (.inl x3), some (.inl (x4 + 1)), some (.inl (x5 + 1)), some (.inl (x5 + 1)), some (.inl (x7 + 1))] [] Z (zri Q))
          exact v
theorem w267_0 {d : Nat} {Z : zM} {Q : Int → zM → Prop}
    (v : TI d 162 [.inr 100] Z (fun r2 Z1 =>
      TZ (d + 1) 267 10 [some (.inr 100), some (.inl r2), some (.inl (-9)), some (.inl 0), none] [] Z1 (zri Q))) :
    TZ (d + 1) 267 0 [some (.inr 100), none, none, none, none] [] Z (zri Q) := by
  refine z0 (op := 5) (a := 0) (b := 0) (by rfl) (by rfl) (?_ : TZ (d + 1) 267 1 [some (.inr 100), none, none, none, none] [.inr 100] Z (zri Q))
  refine z_vi (by rfl) (by rfl) cl_100 (TI.mono v fun r2 Z1 v => ?_)
  show TZ (d + 1) 267 4 [some (.inr 100), none, none, none, none] [.inl r2] Z1 (zri Q)
  refine z0 (op := 7) (a := 1) (b := 0) (by rfl) (by rfl) (?_ : TZ (d + 1) 267 5 [some (.inr 100), some (.inl r2), none, none, none] [] Z1 (zri Q))
  refine z0 (op := 1) (a := 0) (b := (-9)) (by rfl) (by rfl) (?_ : TZ (d + 1) 267 7 [some (.inr 100), some (.inl r2), none, none, none] [.inl (-9)] Z1 (zri Q))
  refine z0 (op := 7) (a := 2) (b := 0) (by rfl) (by rfl) (?_ : TZ (d + 1) 267 8 [some (.inr 100), some (.inl r2), some (.inl (-9)), none, none] [] Z1 (zri Q))
  refine z0 (op := 0) (a := 0) (b := 0) (by rfl) (by rfl) (?_ : TZ (d + 1) 267 9 [some (.inr 100), some (.inl r2), some (.inl (-9)), none, none] [.inl 0] Z1 (zri Q))
  refine z0 (op := 7) (a := 3) (b := 0) (by rfl) (by rfl) (?_ : TZ (d + 1) 267 10 [some (.inr 100), some (.inl r2), some (.inl (-9)), some (.inl 0), none] [] Z1 (zri Q))
  exact v
theorem w267_10 {d : Nat} {x1 x2 x3 : Int} {o4 : Option zV} {Z : zM} {Q : Int → zM → Prop}
    (v : zR x3 ∧
      zR (Z 100 5) ∧
      ((Z 100 5) ≤ x3 → Q x2 Z) ∧
      (¬ (Z 100 5) ≤ x3 → TI d 235 [.inr 100, .inl x3, .inl (-1)] Z (fun r5 Z4 =>
          zR r5 ∧
            zR x1 ∧
            (r5 < x1 → TZ (d + 1) 267 10 [some (.inr 100), some (.inl r5), some (.inl x3), some (.inl (x3 + 1)), some (.inl r5)] [] Z4 (zri Q)) ∧
            (¬ r5 < x1 → TZ (d + 1) 267 10 [some (.inr 100), some (.inl x1), some (.inl x2), some (.inl (x3 + 1)), some (.inl r5)] [] Z4 (zri Q))))) :
    TZ (d + 1) 267 10 [some (.inr 100), some (.inl x1), some (.inl x2), some (.inl x3), o4] [] Z (zri Q) := by
  refine z0 (op := 3) (a := 3) (b := 0) (by rfl) (by rfl) (?_ : TZ (d + 1) 267 11 [some (.inr 100), some (.inl x1), some (.inl x2), some (.inl x3), o4] [.inl x3] Z (zri Q))
  refine z0 (op := 5) (a := 0) (b := 0) (by rfl) (by rfl) (?_ : TZ (d + 1) 267 12 [some (.inr 100), some (.inl x1), some (.inl x2), some (.inl x3), o4] [.inr 100, .inl x3] Z (zri Q))
  refine z_fi (by rfl) fi111_100 (?_ : TZ (d + 1) 267 15 [some (.inr 100), some (.inl x1), some (.inl x2), some (.inl x3), o4] [.inl (Z 100 5), .inl x3] Z (zri Q))
  obtain ⟨c1, c2, v1, v2⟩ := v
  refine z_if2 (a := 3) (t := 46) (by rfl) (by rfl) c1 c2 (fun h3 => ?_) (fun h3 => ?_)
  · have v := v1 h3; clear v1 v2
    show TZ (d + 1) 267 46 [some (.inr 100), some (.inl x1), some (.inl x2), some (.inl x3), o4] [] Z (zri Q)
    refine z0 (op := 3) (a := 2) (b := 0) (by rfl) (by rfl) (?_ : TZ (d + 1) 267 47 [some (.inr 100), some (.inl x1), some (.inl x2), some (.inl x3), o4] [.inl x2] Z (zri Q))
    exact z_reti (by rfl) (by rfl) v
  · have v := v2 h3; clear v1 v2
    show TZ (d + 1) 267 18 [some (.inr 100), some (.inl x1), some (.inl x2), some (.inl x3), o4] [] Z (zri Q)
    refine z0 (op := 5) (a := 0) (b := 0) (by rfl) (by rfl) (?_ : TZ (d + 1) 267 19 [some (.inr 100), some (.inl x1), some (.inl x2), some (.inl x3), o4] [.inr 100] Z (zri Q))
    refine z0 (op := 3) (a := 3) (b := 0) (by rfl) (by rfl) (?_ : TZ (d + 1) 267 20 [some (.inr 100), some (.inl x1), some (.inl x2), some (.inl x3), o4] [.inl x3, .inr 100] Z (zri Q))
    refine z0 (op := 0) (a := 0) (b := (-1)) (by rfl) (by rfl) (?_ : TZ (d + 1) 267 21 [some (.inr 100), some (.inl x1), some (.inl x2), some (.inl x3), o4] [.inl (-1), .inl x3, .inr 100] Z (zri Q))
    refine z_vi (by rfl) (by rfl) cl_100 (TI.mono v fun r5 Z4 v => ?_)
    show TZ (d + 1) 267 24 [some (.inr 100), some (.inl x1), some (.inl x2), some (.inl x3), o4] [.inl r5] Z4 (zri Q)
    refine z0 (op := 8) (a := 4) (b := 0) (by rfl) (by rfl) (?_ : TZ (d + 1) 267 26 [some (.inr 100), some (.inl x1), some (.inl x2), some (.inl x3), some (.inl r5)] [] Z4 (zri Q))
    refine z0 (op := 4) (a := 4) (b := 0) (by rfl) (by rfl) (?_ : TZ (d + 1) 267 28 [some (.inr 100), some (.inl x1), some (.inl x2), some (.inl x3), some (.inl r5)] [.inl r5] Z4 (zri Q))
    refine z0 (op := 3) (a := 1) (b := 0) (by rfl) (by rfl) (?_ : TZ (d + 1) 267 29 [some (.inr 100), some (.inl x1), some (.inl x2), some (.inl x3), some (.inl r5)] [.inl x1, .inl r5] Z4 (zri Q))
    obtain ⟨c6, c7, v1, v2⟩ := v
    refine z_if2 (a := 2) (t := 35) (by rfl) (by rfl) c6 c7 (fun h8 => ?_) (fun h8 => ?_)
    · have v := v1 h8; clear v1 v2
      show TZ (d + 1) 267 35 [some (.inr 100), some (.inl x1), some (.inl x2), some (.inl x3), some (.inl r5)] [] Z4 (zri Q)
      refine z0 (op := 3) (a := 3) (b := 0) (by rfl) (by rfl) (?_ : TZ (d + 1) 267 36 [some (.inr 100), some (.inl x1), some (.inl x2), some (.inl x3), some (.inl r5)] [.inl x3] Z4 (zri Q))
      refine z0 (op := 7) (a := 2) (b := 0) (by rfl) (by rfl) (?_ : TZ (d + 1) 267 37 [some (.inr 100), some (.inl x1), some (.inl x3), some (.inl x3), some (.inl r5)] [] Z4 (zri Q))
      refine z0 (op := 4) (a := 4) (b := 0) (by rfl) (by rfl) (?_ : TZ (d + 1) 267 39 [some (.inr 100), some (.inl x1), some (.inl x3), some (.inl x3), some (.inl r5)] [.inl r5] Z4 (zri Q))
      refine z0 (op := 7) (a := 1) (b := 0) (by rfl) (by rfl) (?_ : TZ (d + 1) 267 40 [some (.inr 100), some (.inl r5), some (.inl x3), some (.inl x3), some (.inl r5)] [] Z4 (zri Q))
      refine z0 (op := 11) (a := 3) (b := 1) (by rfl) (by rfl) (?_ : TZ (d + 1) 267 43 [some (.inr 100), some (.inl r5), some (.inl x3), some (.inl (x3 + 1)), some (.inl r5)] [] Z4 (zri Q))
      refine z_goto (t := 10) (by rfl) (by rfl) (?_ : TZ (d + 1) 267 10 [some (.inr 100), some (.inl r5), some (.inl x3), some (.inl (x3 + 1)), some (.inl r5)] [] Z4 (zri Q))
      exact v
    · have v := v2 h8; clear v1 v2
      show TZ (d + 1) 267 32 [some (.inr 100), some (.inl x1), some (.inl x2), some (.inl x3), some (.inl r5)] [] Z4 (zri Q)
      refine z_goto (t := 40) (by rfl) (by rfl) (?_ : TZ (d + 1) 267 40 [some (.inr 100), some (.inl x1), some (.inl x2), some (.inl x3), some (.inl r5)] [] Z4 (zri Q))
      refine z0 (op := 11) (a := 3) (b := 1) (by rfl) (by rfl) (?_ : TZ (d + 1) 267 43 [some (.inr 100), some (.inl x1), some (.inl x2), some (.inl (x3 + 1)), some (.inl r5)] [] Z4 (zri Q))
      refine z_goto (t := 10) (by rfl) (by rfl) (?_ : TZ (d + 1) 267 10 [some (.inr 100), some (.inl x1), some (.inl x2), some (.inl (x3 + 1)), some (.inl r5)] [] Z4 (zri Q))
      exact v
theorem w268_0 {d : Nat} {x1 : Int} {Z : zM} {Q : Int → zM → Prop}
    (v : TI d 156 [.inl x1, .inl 1, .inl 6] Z (fun r2 Z1 =>
      zR r2 ∧
        (r2 = 0 → TI d 264 [.inr 100, .inl (-1), .inl x1] Z1 (fun r6 Z5 =>
            Q r6 Z5)) ∧
        (¬ r2 = 0 → TI d 154 [.inr 100, .inl r2] Z1 (fun r8 Z7 =>
            Q r8 Z7)))) :
    TZ (d + 1) 268 0 [some (.inr 100), some (.inl x1), none] [] Z (zri Q) := by
  refine z0 (op := 3) (a := 1) (b := 0) (by rfl) (by rfl) (?_ : TZ (d + 1) 268 1 [some (.inr 100), some (.inl x1), none] [.inl x1] Z (zri Q))
  refine z0 (op := 0) (a := 0) (b := 1) (by rfl) (by rfl) (?_ : TZ (d + 1) 268 2 [some (.inr 100), some (.inl x1), none] [.inl 1, .inl x1] Z (zri Q))
  refine z0 (op := 1) (a := 0) (b := 6) (by rfl) (by rfl) (?_ : TZ (d + 1) 268 4 [some (.inr 100), some (.inl x1), none] [.inl 6, .inl 1, .inl x1] Z (zri Q))
  refine z_si (by rfl) (by rfl) (TI.mono v fun r2 Z1 v => ?_)
  show TZ (d + 1) 268 7 [some (.inr 100), some (.inl x1), none] [.inl r2] Z1 (zri Q)
  refine z0 (op := 7) (a := 2) (b := 0) (by rfl) (by rfl) (?_ : TZ (d + 1) 268 8 [some (.inr 100), some (.inl x1), some (.inl r2)] [] Z1 (zri Q))
  refine z0 (op := 3) (a := 2) (b := 0) (by rfl) (by rfl) (?_ : TZ (d + 1) 268 9 [some (.inr 100), some (.inl x1), some (.inl r2)] [.inl r2] Z1 (zri Q))
  obtain ⟨c3, v1, v2⟩ := v
  refine z_if0 (a := 0) (t := 20) (by rfl) (by rfl) c3 (fun h4 => ?_) (fun h4 => ?_)
  · have v := v1 h4; clear v1 v2
    show TZ (d + 1) 268 20 [some (.inr 100), some (.inl x1), some (.inl r2)] [] Z1 (zri Q)
    refine z0 (op := 5) (a := 0) (b := 0) (by rfl) (by rfl) (?_ : TZ (d + 1) 268 21 [some (.inr 100), some (.inl x1), some (.inl r2)] [.inr 100] Z1 (zri Q))
    refine z0 (op := 0) (a := 0) (b := (-1)) (by rfl) (by rfl) (?_ : TZ (d + 1) 268 22 [some (.inr 100), some (.inl x1), some (.inl r2)] [.inl (-1), .inr 100] Z1 (zri Q))
    refine z0 (op := 3) (a := 1) (b := 0) (by rfl) (by rfl) (?_ : TZ (d + 1) 268 23 [some (.inr 100), some (.inl x1), some (.inl r2)] [.inl x1, .inl (-1), .inr 100] Z1 (zri Q))
    refine z_vi (by rfl) (by rfl) cl_100 (TI.mono v fun r6 Z5 v => ?_)
    show TZ (d + 1) 268 26 [some (.inr 100), some (.inl x1), some (.inl r2)] [.inl r6] Z5 (zri Q)
    exact z_reti (by rfl) (by rfl) v
  · have v := v2 h4; clear v1 v2
    show TZ (d + 1) 268 12 [some (.inr 100), some (.inl x1), some (.inl r2)] [] Z1 (zri Q)
    refine z0 (op := 5) (a := 0) (b := 0) (by rfl) (by rfl) (?_ : TZ (d + 1) 268 13 [some (.inr 100), some (.inl x1), some (.inl r2)] [.inr 100] Z1 (zri Q))
    refine z0 (op := 3) (a := 2) (b := 0) (by rfl) (by rfl) (?_ : TZ (d + 1) 268 14 [some (.inr 100), some (.inl x1), some (.inl r2)] [.inl r2, .inr 100] Z1 (zri Q))
    refine z_vi (by rfl) (by rfl) cl_100 (TI.mono v fun r8 Z7 v => ?_)
    show TZ (d + 1) 268 17 [some (.inr 100), some (.inl x1), some (.inl r2)] [.inl r8] Z7 (zri Q)
    refine z_goto (t := 26) (by rfl) (by rfl) (?_ : TZ (d + 1) 268 26 [some (.inr 100), some (.inl x1), some (.inl r2)] [.inl r8] Z7 (zri Q))
    exact z_reti (by rfl) (by rfl) v
theorem w269_0 {d : Nat} {x1 : Int} {Z : zM} {Q : Int → zM → Prop}
    (v : TI d 156 [.inl x1, .inl 0, .inl 99] Z (fun r2 Z1 =>
      zR r2 ∧
        (r2 ≠ 0 → (zR r2 ∧
            (r2 = 0 → ((0 ≤ (Z1 100 26) ∧ (Z1 100 26) < 12) ∧
                ∀ Z8, Z8 = zup Z1 116 (Z1 100 26) x1 →
                ∀ Z9, Z9 = zup Z8 100 26 ((Z8 100 26) + 1) →
                Q (Z9 100 26) Z9)) ∧
            (¬ r2 = 0 → TI d 154 [.inr 100, .inl r2] Z1 (fun r11 Z10 =>
                Q r11 Z10)))) ∧
        (¬ r2 ≠ 0 → (zR (Z1 100 26) ∧
            ((Z1 100 26) ≠ 12 → (zR r2 ∧
                (r2 = 0 → ((0 ≤ (Z1 100 26) ∧ (Z1 100 26) < 12) ∧
                    ∀ Z17, Z17 = zup Z1 116 (Z1 100 26) x1 →
                    ∀ Z18, Z18 = zup Z17 100 26 ((Z17 100 26) + 1) →
                    Q (Z18 100 26) Z18)) ∧
                (¬ r2 = 0 → TI d 154 [.inr 100, .inl r2] Z1 (fun r20 Z19 =>
                    Q r20 Z19)))) ∧
            (¬ (Z1 100 26) ≠ 12 → TI d 154 [.inr 100, .inl (-6)] Z1 (fun r22 Z21 =>
                Q r22 Z21)))))) :
    TZ (d + 1) 269 0 [some (.inr 100), some (.inl x1), none] [] Z (zri Q) := by
  refine z0 (op := 3) (a := 1) (b := 0) (by rfl) (by rfl) (?_ : TZ (d + 1) 269 1 [some (.inr 100), some (.inl x1), none] [.inl x1] Z (zri Q))
  refine z0 (op := 0) (a := 0) (b := 0) (by rfl) (by rfl) (?_ : TZ (d + 1) 269 2 [some (.inr 100), some (.inl x1), none] [.inl 0, .inl x1] Z (zri Q))
  refine z0 (op := 1) (a := 0) (b := 99) (by rfl) (by rfl) (?_ : TZ (d + 1) 269 4 [some (.inr 100), some (.inl x1), none] [.inl 99, .inl 0, .inl x1] Z (zri Q))
  refine z_si (by rfl) (by rfl) (TI.mono v fun r2 Z1 v => ?_)
  show TZ (d + 1) 269 7 [some (.inr 100), some (.inl x1), none] [.inl r2] Z1 (zri Q)
  refine z0 (op := 7) (a := 2) (b := 0) (by rfl) (by rfl) (?_ : TZ (d + 1) 269 8 [some (.inr 100), some (.inl x1), some (.inl r2)] [] Z1 (zri Q))
  refine z0 (op := 3) (a := 2) (b := 0) (by rfl) (by rfl) (?_ : TZ (d + 1) 269 9 [some (.inr 100), some (.inl x1), some (.inl r2)] [.inl r2] Z1 (zri Q))
  obtain ⟨c3, v1, v2⟩ := v
  refine z_if0 (a := 1) (t := 24) (by rfl) (by rfl) c3 (fun h4 => ?_) (fun h4 => ?_)
  · have v := v1 h4; clear v1 v2
    show TZ (d + 1) 269 24 [some (.inr 100), some (.inl x1), some (.inl r2)] [] Z1 (zri Q)
    refine z0 (op := 3) (a := 2) (b := 0) (by rfl) (by rfl) (?_ : TZ (d + 1) 269 25 [some (.inr 100), some (.inl x1), some (.inl r2)] [.inl r2] Z1 (zri Q))
    obtain ⟨c5, v1, v2⟩ := v
    refine z_if0 (a := 0) (t := 34) (by rfl) (by rfl) c5 (fun h6 => ?_) (fun h6 => ?_)
    · have v := v1 h6; clear v1 v2
      show TZ (d + 1) 269 34 [some (.inr 100), some (.inl x1), some (.inl r2)] [] Z1 (zri Q)
      refine z0 (op := 5) (a := 0) (b := 0) (by rfl) (by rfl) (?_ : TZ (d + 1) 269 35 [some (.inr 100), some (.inl x1), some (.inl r2)] [.inr 100] Z1 (zri Q))
      refine z_fr (by rfl) fr103_100 (?_ : TZ (d + 1) 269 38 [some (.inr 100), some (.inl x1), some (.inl r2)] [.inr 116] Z1 (zri Q))
      refine z0 (op := 5) (a := 0) (b := 0) (by rfl) (by rfl) (?_ : TZ (d + 1) 269 39 [some (.inr 100), some (.inl x1), some (.inl r2)] [.inr 100, .inr 116] Z1 (zri Q))
      refine z_fi (by rfl) fi120_100 (?_ : TZ (d + 1) 269 42 [some (.inr 100), some (.inl x1), some (.inl r2)] [.inl (Z1 100 26), .inr 116] Z1 (zri Q))
      refine z0 (op := 3) (a := 1) (b := 0) (by rfl) (by rfl) (?_ : TZ (d + 1) 269 43 [some (.inr 100), some (.inl x1), some (.inl r2)] [.inl x1, .inl (Z1 100 26), .inr 116] Z1 (zri Q))
      obtain ⟨c7, v⟩ := v
      obtain ⟨Z8, eZ8⟩ : ∃ zz, zz = zup Z1 116 (Z1 100 26) x1 := ⟨_, rfl⟩
      have v := v Z8 eZ8
      refine z_as (by rfl) ln_116 c7 ?_
      show TZ (d + 1) 269 44 [some (.inr 100), some (.inl x1), some (.inl r2)] [] (zup Z1 116 (Z1 100 26) x1) _
      rw [← eZ8]
      refine z0 (op := 5) (a := 0) (b := 0) (by rfl) (by rfl) (?_ : TZ (d + 1) 269 45 [some (.inr 100), some (.inl x1), some (.inl r2)] [.inr 100] Z8 (zri Q))
      refine z0 (op := 15) (a := 0) (b := 0) (by rfl) (by rfl) (?_ : TZ (d + 1) 269 46 [some (.inr 100), some (.inl x1), some (.inl r2)] [.inr 100, .inr 100] Z8 (zri Q))
      refine z_fi (by rfl) fi120_100 (?_ : TZ (d + 1) 269 49 [some (.inr 100), some (.inl x1), some (.inl r2)] [.inl (Z8 100 26), .inr 100] Z8 (zri Q))
      refine z0 (op := 0) (a := 0) (b := 1) (by rfl) (by rfl) (?_ : TZ (d + 1) 269 50 [some (.inr 100), some (.inl x1), some (.inl r2)] [.inl 1, .inl (Z8 100 26), .inr 100] Z8 (zri Q))
      refine z0 (op := 12) (a := 0) (b := 0) (by rfl) (by rfl) (?_ : TZ (d + 1) 269 51 [some (.inr 100), some (.inl x1), some (.inl r2)] [.inl ((Z8 100 26) + 1), .inr 100] Z8 (zri Q))
      obtain ⟨Z9, eZ9⟩ : ∃ zz, zz = zup Z8 100 26 ((Z8 100 26) + 1) := ⟨_, rfl⟩
      have v := v Z9 eZ9
      refine z_pf (by rfl) pf120_100 (fun h => nomatch h) ?_
      show TZ (d + 1) 269 54 [some (.inr 100), some (.inl x1), some (.inl r2)] [] (zup Z8 100 26 ((Z8 100 26) + 1)) _
      rw [← eZ9]
      refine z0 (op := 5) (a := 0) (b := 0) (by rfl) (by rfl) (?_ : TZ (d + 1) 269 55 [some (.inr 100), some (.inl x1), some (.inl r2)] [.inr 100] Z9 (zri Q))
      refine z_fi (by rfl) fi120_100 (?_ : TZ (d + 1) 269 58 [some (.inr 100), some (.inl x1), some (.inl r2)] [.inl (Z9 100 26)] Z9 (zri Q))
      exact z_reti (by rfl) (by rfl) v
    · have v := v2 h6; clear v1 v2
      show TZ (d + 1) 269 28 [some (.inr 100), some (.inl x1), some (.inl r2)] [] Z1 (zri Q)
      refine z0 (op := 5) (a := 0) (b := 0) (by rfl) (by rfl) (?_ : TZ (d + 1) 269 29 [some (.inr 100), some (.inl x1), some (.inl r2)] [.inr 100] Z1 (zri Q))
      refine z0 (op := 3) (a := 2) (b := 0) (by rfl) (by rfl) (?_ : TZ (d + 1) 269 30 [some (.inr 100), some (.inl x1), some (.inl r2)] [.inl r2, .inr 100] Z1 (zri Q))
      refine z_vi (by rfl) (by rfl) cl_100 (TI.mono v fun r11 Z10 v => ?_)
      show TZ (d + 1) 269 33 [some (.inr 100), some (.inl x1), some (.inl r2)] [.inl r11] Z10 (zri Q)
      exact z_reti (by rfl) (by rfl) v
  · have v := v2 h4; clear v1 v2
    show TZ (d + 1) 269 12 [some (.inr 100), some (.inl x1), some (.inl r2)] [] Z1 (zri Q)
    refine z0 (op := 5) (a := 0) (b := 0) (by rfl) (by rfl) (?_ : TZ (d + 1) 269 13 [some (.inr 100), some (.inl x1), some (.inl r2)] [.inr 100] Z1 (zri Q))
    refine z_fi (by rfl) fi120_100 (?_ : TZ (d + 1) 269 16 [some (.inr 100), some (.inl x1), some (.inl r2)] [.inl (Z1 100 26)] Z1 (zri Q))
    refine z0 (op := 1) (a := 0) (b := 12) (by rfl) (by rfl) (?_ : TZ (d + 1) 269 18 [some (.inr 100), some (.inl x1), some (.inl r2)] [.inl 12, .inl (Z1 100 26)] Z1 (zri Q))
    obtain ⟨c12, v1, v2⟩ := v
    refine z_if2 (a := 1) (t := 24) (by rfl) (by rfl) c12 (by decide) (fun h13 => ?_) (fun h13 => ?_)
    · have v := v1 h13; clear v1 v2
      show TZ (d + 1) 269 24 [some (.inr 100), some (.inl x1), some (.inl r2)] [] Z1 (zri Q)
      refine z0 (op := 3) (a := 2) (b := 0) (by rfl) (by rfl) (?_ : TZ (d + 1) 269 25 [some (.inr 100), some (.inl x1), some (.inl r2)] [.inl r2] Z1 (zri Q))
      obtain ⟨c14, v1, v2⟩ := v
      refine z_if0 (a := 0) (t := 34) (by rfl) (by rfl) c14 (fun h15 => ?_) (fun h15 => ?_)
      · have v := v1 h15; clear v1 v2
        show TZ (d + 1) 269 34 [some (.inr 100), some (.inl x1), some (.inl r2)] [] Z1 (zri Q)
        refine z0 (op := 5) (a := 0) (b := 0) (by rfl) (by rfl) (?_ : TZ (d + 1) 269 35 [some (.inr 100), some (.inl x1), some (.inl r2)] [.inr 100] Z1 (zri Q))
        refine z_fr (by rfl) fr103_100 (?_ : TZ (d + 1) 269 38 [some (.inr 100), some (.inl x1), some (.inl r2)] [.inr 116] Z1 (zri Q))
        refine z0 (op := 5) (a := 0) (b := 0) (by rfl) (by rfl) (?_ : TZ (d + 1) 269 39 [some (.inr 100), some (.inl x1), some (.inl r2)] [.inr 100, .inr 116] Z1 (zri Q))
        refine z_fi (by rfl) fi120_100 (?_ : TZ (d + 1) 269 42 [some (.inr 100), some (.inl x1), some (.inl r2)] [.inl (Z1 100 26), .inr 116] Z1 (zri Q))
        refine z0 (op := 3) (a := 1) (b := 0) (by rfl) (by rfl) (?_ : TZ (d + 1) 269 43 [some (.inr 100), some (.inl x1), some (.inl r2)] [.inl x1, .inl (Z1 100 26), .inr 116] Z1 (zri Q))
        obtain ⟨c16, v⟩ := v
        obtain ⟨Z17, eZ17⟩ : ∃ zz, zz = zup Z1 116 (Z1 100 26) x1 := ⟨_, rfl⟩
        have v := v Z17 eZ17
        refine z_as (by rfl) ln_116 c16 ?_
        show TZ (d + 1) 269 44 [some (.inr 100), some (.inl x1), some (.inl r2)] [] (zup Z1 116 (Z1 100 26) x1) _
        rw [← eZ17]
        refine z0 (op := 5) (a := 0) (b := 0) (by rfl) (by rfl) (?_ : TZ (d + 1) 269 45 [some (.inr 100), some (.inl x1), some (.inl r2)] [.inr 100] Z17 (zri Q))
        refine z0 (op := 15) (a := 0) (b := 0) (by rfl) (by rfl) (?_ : TZ (d + 1) 269 46 [some (.inr 100), some (.inl x1), some (.inl r2)] [.inr 100, .inr 100] Z17 (zri Q))
        refine z_fi (by rfl) fi120_100 (?_ : TZ (d + 1) 269 49 [some (.inr 100), some (.inl x1), some (.inl r2)] [.inl (Z17 100 26), .inr 100] Z17 (zri Q))
        refine z0 (op := 0) (a := 0) (b := 1) (by rfl) (by rfl) (?_ : TZ (d + 1) 269 50 [some (.inr 100), some (.inl x1), some (.inl r2)] [.inl 1, .inl (Z17 100 26), .inr 100] Z17 (zri Q))
        refine z0 (op := 12) (a := 0) (b := 0) (by rfl) (by rfl) (?_ : TZ (d + 1) 269 51 [some (.inr 100), some (.inl x1), some (.inl r2)] [.inl ((Z17 100 26) + 1), .inr 100] Z17 (zri Q))
        obtain ⟨Z18, eZ18⟩ : ∃ zz, zz = zup Z17 100 26 ((Z17 100 26) + 1) := ⟨_, rfl⟩
        have v := v Z18 eZ18
        refine z_pf (by rfl) pf120_100 (fun h => nomatch h) ?_
        show TZ (d + 1) 269 54 [some (.inr 100), some (.inl x1), some (.inl r2)] [] (zup Z17 100 26 ((Z17 100 26) + 1)) _
        rw [← eZ18]
        refine z0 (op := 5) (a := 0) (b := 0) (by rfl) (by rfl) (?_ : TZ (d + 1) 269 55 [some (.inr 100), some (.inl x1), some (.inl r2)] [.inr 100] Z18 (zri Q))
        refine z_fi (by rfl) fi120_100 (?_ : TZ (d + 1) 269 58 [some (.inr 100), some (.inl x1), some (.inl r2)] [.inl (Z18 100 26)] Z18 (zri Q))
        exact z_reti (by rfl) (by rfl) v
      · have v := v2 h15; clear v1 v2
        show TZ (d + 1) 269 28 [some (.inr 100), some (.inl x1), some (.inl r2)] [] Z1 (zri Q)
        refine z0 (op := 5) (a := 0) (b := 0) (by rfl) (by rfl) (?_ : TZ (d + 1) 269 29 [some (.inr 100), some (.inl x1), some (.inl r2)] [.inr 100] Z1 (zri Q))
        refine z0 (op := 3) (a := 2) (b := 0) (by rfl) (by rfl) (?_ : TZ (d + 1) 269 30 [some (.inr 100), some (.inl x1), some (.inl r2)] [.inl r2, .inr 100] Z1 (zri Q))
        refine z_vi (by rfl) (by rfl) cl_100 (TI.mono v fun r20 Z19 v => ?_)
        show TZ (d + 1) 269 33 [some (.inr 100), some (.inl x1), some (.inl r2)] [.inl r20] Z19 (zri Q)
        exact z_reti (by rfl) (by rfl) v
    · have v := v2 h13; clear v1 v2
      show TZ (d + 1) 269 21 [some (.inr 100), some (.inl x1), some (.inl r2)] [] Z1 (zri Q)
      refine z0 (op := 1) (a := 0) (b := (-6)) (by rfl) (by rfl) (?_ : TZ (d + 1) 269 23 [some (.inr 100), some (.inl x1), some (.inl r2)] [.inl (-6)] Z1 (zri Q))
      refine z0 (op := 7) (a := 2) (b := 0) (by rfl) (by rfl) (?_ : TZ (d + 1) 269 24 [some (.inr 100), some (.inl x1), some (.inl (-6))] [] Z1 (zri Q))
      refine z0 (op := 3) (a := 2) (b := 0) (by rfl) (by rfl) (?_ : TZ (d + 1) 269 25 [some (.inr 100), some (.inl x1), some (.inl (-6))] [.inl (-6)] Z1 (zri Q))
      refine z_if0 (a := 0) (t := 34) (by rfl) (by rfl) (by decide) (fun h => absurd (show ((-6) : Int) = (0 : Int) from h) (by decide)) (fun _ => ?_)
      show TZ (d + 1) 269 28 [some (.inr 100), some (.inl x1), some (.inl (-6))] [] Z1 (zri Q)
      refine z0 (op := 5) (a := 0) (b := 0) (by rfl) (by rfl) (?_ : TZ (d + 1) 269 29 [some (.inr 100), some (.inl x1), some (.inl (-6))] [.inr 100] Z1 (zri Q))
      refine z0 (op := 3) (a := 2) (b := 0) (by rfl) (by rfl) (?_ : TZ (d + 1) 269 30 [some (.inr 100), some (.inl x1), some (.inl (-6))] [.inl (-6), .inr 100] Z1 (zri Q))
      refine z_vi (by rfl) (by rfl) cl_100 (TI.mono v fun r22 Z21 v => ?_)
      show TZ (d + 1) 269 33 [some (.inr 100), some (.inl x1), some (.inl (-6))] [.inl r22] Z21 (zri Q)
      exact z_reti (by rfl) (by rfl) v
theorem w270_0 {d : Nat} {Z : zM} {Q : Int → zM → Prop}
    (v : ∀ Z1, Z1 = zup Z 100 26 0 →
      TV d 205 [.inr 100, .inl (Z 100 26)] Z1 (fun Z2 =>
      TZ (d + 1) 270 17 [some (.inr 100), some (.inl (Z 100 26)), some (.inl 0)] [] Z2 (zri Q))) :
    TZ (d + 1) 270 0 [some (.inr 100), none, none] [] Z (zri Q) := by
  refine z0 (op := 5) (a := 0) (b := 0) (by rfl) (by rfl) (?_ : TZ (d + 1) 270 1 [some (.inr 100), none, none] [.inr 100] Z (zri Q))
  refine z_fi (by rfl) fi120_100 (?_ : TZ (d + 1) 270 4 [some (.inr 100), none, none] [.inl (Z 100 26)] Z (zri Q))
  refine z0 (op := 7) (a := 1) (b := 0) (by rfl) (by rfl) (?_ : TZ (d + 1) 270 5 [some (.inr 100), some (.inl (Z 100 26)), none] [] Z (zri Q))
  refine z0 (op := 5) (a := 0) (b := 0) (by rfl) (by rfl) (?_ : TZ (d + 1) 270 6 [some (.inr 100), some (.inl (Z 100 26)), none] [.inr 100] Z (zri Q))
  refine z0 (op := 0) (a := 0) (b := 0) (by rfl) (by rfl) (?_ : TZ (d + 1) 270 7 [some (.inr 100), some (.inl (Z 100 26)), none] [.inl 0, .inr 100] Z (zri Q))
  obtain ⟨Z1, eZ1⟩ : ∃ zz, zz = zup Z 100 26 0 := ⟨_, rfl⟩
  have v := v Z1 eZ1
  refine z_pf (by rfl) pf120_100 (fun h => nomatch h) ?_
  show TZ (d + 1) 270 10 [some (.inr 100), some (.inl (Z 100 26)), none] [] (zup Z 100 26 0) _
  rw [← eZ1]
  refine z0 (op := 5) (a := 0) (b := 0) (by rfl) (by rfl) (?_ : TZ (d + 1) 270 11 [some (.inr 100), some (.inl (Z 100 26)), none] [.inr 100] Z1 (zri Q))
  refine z0 (op := 3) (a := 1) (b := 0) (by rfl) (by rfl) (?_ : TZ (d + 1) 270 12 [some (.inr 100), some (.inl (Z 100 26)), none] [.inl (Z 100 26), .inr 100] Z1 (zri Q))
  refine z_vv (by rfl) (by rfl) cl_100 (TV.mono v fun Z2 v => ?_)
  show TZ (d + 1) 270 15 [some (.inr 100), some (.inl (Z 100 26)), none] [] Z2 (zri Q)
  refine z0 (op := 0) (a := 0) (b := 0) (by rfl) (by rfl) (?_ : TZ (d + 1) 270 16 [some (.inr 100), some (.inl (Z 100 26)), none] [.inl 0] Z2 (zri Q))
  refine z0 (op := 7) (a := 2) (b := 0) (by rfl) (by rfl) (?_ : TZ (d + 1) 270 17 [some (.inr 100), some (.inl (Z 100 26)), some (.inl 0)] [] Z2 (zri Q))
  exact v
theorem w270_17 {d : Nat} {x1 x2 : Int} {Z : zM} {Q : Int → zM → Prop}
    (v : zR x2 ∧
      zR x1 ∧
      (x1 ≤ x2 → Q (-9) Z) ∧
      (¬ x1 ≤ x2 → ((0 ≤ x2 ∧ x2 < 64) ∧
          (0 ≤ x2 ∧ x2 < 12) ∧
          zR (Z 111 x2) ∧
          zR (Z 116 x2) ∧
          ((Z 111 x2) = (Z 116 x2) → TZ d 270 17 [some (.inr 100), some (.inl x1), some (.inl (x2 + 1))] [] Z (zri Q)) ∧
          (¬ (Z 111 x2) = (Z 116 x2) → Q x2 Z)))) :
    TZ d 270 17 [some (.inr 100), some (.inl x1), some (.inl x2)] [] Z (zri Q) := by
  refine z0 (op := 3) (a := 2) (b := 0) (by rfl) (by rfl) (?_ : TZ d 270 18 [some (.inr 100), some (.inl x1), some (.inl x2)] [.inl x2] Z (zri Q))
  refine z0 (op := 3) (a := 1) (b := 0) (by rfl) (by rfl) (?_ : TZ d 270 19 [some (.inr 100), some (.inl x1), some (.inl x2)] [.inl x1, .inl x2] Z (zri Q))
  obtain ⟨c1, c2, v1, v2⟩ := v
  refine z_if2 (a := 3) (t := 45) (by rfl) (by rfl) c1 c2 (fun h3 => ?_) (fun h3 => ?_)
  · have v := v1 h3; clear v1 v2
    show TZ d 270 45 [some (.inr 100), some (.inl x1), some (.inl x2)] [] Z (zri Q)
    refine z0 (op := 1) (a := 0) (b := (-9)) (by rfl) (by rfl) (?_ : TZ d 270 47 [some (.inr 100), some (.inl x1), some (.inl x2)] [.inl (-9)] Z (zri Q))
    exact z_reti (by rfl) (by rfl) v
  · have v := v2 h3; clear v1 v2
    show TZ d 270 22 [some (.inr 100), some (.inl x1), some (.inl x2)] [] Z (zri Q)
    refine z0 (op := 5) (a := 0) (b := 0) (by rfl) (by rfl) (?_ : TZ d 270 23 [some (.inr 100), some (.inl x1), some (.inl x2)] [.inr 100] Z (zri Q))
    refine z_fr (by rfl) fr98_100 (?_ : TZ d 270 26 [some (.inr 100), some (.inl x1), some (.inl x2)] [.inr 111] Z (zri Q))
    refine z0 (op := 3) (a := 2) (b := 0) (by rfl) (by rfl) (?_ : TZ d 270 27 [some (.inr 100), some (.inl x1), some (.inl x2)] [.inl x2, .inr 111] Z (zri Q))
    obtain ⟨c4, v⟩ := v
    refine z_al (by rfl) ln_111 c4 (?_ : TZ d 270 28 [some (.inr 100), some (.inl x1), some (.inl x2)] [.inl (Z 111 x2)] Z (zri Q))
    refine z0 (op := 5) (a := 0) (b := 0) (by rfl) (by rfl) (?_ : TZ d 270 29 [some (.inr 100), some (.inl x1), some (.inl x2)] [.inr 100, .inl (Z 111 x2)] Z (zri Q))
    refine z_fr (by rfl) fr103_100 (?_ : TZ d 270 32 [some (.inr 100), some (.inl x1), some (.inl x2)] [.inr 116, .inl (Z 111 x2)] Z (zri Q))
    refine z0 (op := 3) (a := 2) (b := 0) (by rfl) (by rfl) (?_ : TZ d 270 33 [some (.inr 100), some (.inl x1), some (.inl x2)] [.inl x2, .inr 116, .inl (Z 111 x2)] Z (zri Q))
    obtain ⟨c5, v⟩ := v
    refine z_al (by rfl) ln_116 c5 (?_ : TZ d 270 34 [some (.inr 100), some (.inl x1), some (.inl x2)] [.inl (Z 116 x2), .inl (Z 111 x2)] Z (zri Q))
    obtain ⟨c6, c7, v1, v2⟩ := v
    refine z_if2 (a := 0) (t := 39) (by rfl) (by rfl) c6 c7 (fun h8 => ?_) (fun h8 => ?_)
    · have v := v1 h8; clear v1 v2
      show TZ d 270 39 [some (.inr 100), some (.inl x1), some (.inl x2)] [] Z (zri Q)
      refine z0 (op := 11) (a := 2) (b := 1) (by rfl) (by rfl) (?_ : TZ d 270 42 [some (.inr 100), some (.inl x1), some (.inl (x2 + 1))] [] Z (zri Q))
      refine z_goto (t := 17) (by rfl) (by rfl) (?_ : TZ d 270 17 [some (.inr 100), some (.inl x1), some (.inl (x2 + 1))] [] Z (zri Q))
      exact v
    · have v := v2 h8; clear v1 v2
      show TZ d 270 37 [some (.inr 100), some (.inl x1), some (.inl x2)] [] Z (zri Q)
      refine z0 (op := 3) (a := 2) (b := 0) (by rfl) (by rfl) (?_ : TZ d 270 38 [some (.inr 100), some (.inl x1), some (.inl x2)] [.inl x2] Z (zri Q))
      exact z_reti (by rfl) (by rfl) v
theorem w271_0 {d : Nat} {Z : zM} {Q : Int → zM → Prop}
    (v : ∀ Z1, Z1 = zup Z 100 26 0 →
      Q (Z 100 26) Z1) :
    TZ d 271 0 [some (.inr 100), none] [] Z (zri Q) := by
  refine z0 (op := 5) (a := 0) (b := 0) (by rfl) (by rfl) (?_ : TZ d 271 1 [some (.inr 100), none] [.inr 100] Z (zri Q))
  refine z_fi (by rfl) fi120_100 (?_ : TZ d 271 4 [some (.inr 100), none] [.inl (Z 100 26)] Z (zri Q))
  refine z0 (op := 7) (a := 1) (b := 0) (by rfl) (by rfl) (?_ : TZ d 271 5 [some (.inr 100), some (.inl (Z 100 26))] [] Z (zri Q))
  refine z0 (op := 5) (a := 0) (b := 0) (by rfl) (by rfl) (?_ : TZ d 271 6 [some (.inr 100), some (.inl (Z 100 26))] [.inr 100] Z (zri Q))
  refine z0 (op := 0) (a := 0) (b := 0) (by rfl) (by rfl) (?_ : TZ d 271 7 [some (.inr 100), some (.inl (Z 100 26))] [.inl 0, .inr 100] Z (zri Q))
  obtain ⟨Z1, eZ1⟩ : ∃ zz, zz = zup Z 100 26 0 := ⟨_, rfl⟩
  have v := v Z1 eZ1
  refine z_pf (by rfl) pf120_100 (fun h => nomatch h) ?_
  show TZ d 271 10 [some (.inr 100), some (.inl (Z 100 26))] [] (zup Z 100 26 0) _
  rw [← eZ1]
  refine z0 (op := 3) (a := 1) (b := 0) (by rfl) (by rfl) (?_ : TZ d 271 11 [some (.inr 100), some (.inl (Z 100 26))] [.inl (Z 100 26)] Z1 (zri Q))
  exact z_reti (by rfl) (by rfl) v
theorem w272_0 {d : Nat} {x1 x2 x3 : Int} {Z : zM} {Q : Int → zM → Prop}
    (v : TI d 156 [.inl x1, .inl 1, .inl 20] Z (fun r2 Z1 =>
      zR r2 ∧
        (r2 ≠ 0 → (zR r2 ∧
            (r2 = 0 → TZ (d + 1) 272 51 [some (.inr 100), some (.inl x1), some (.inl x2), some (.inl x3), some (.inl r2), some (.inl x2), some (.inl 0), some (.inl 0), some (.inl 0), none] [] Z1 (zri Q)) ∧
            (¬ r2 = 0 → TI d 154 [.inr 100, .inl r2] Z1 (fun r8 Z7 =>
                Q r8 Z7)))) ∧
        (¬ r2 ≠ 0 → TI d 155 [.inl x3, .inl 0, .inl 1] Z1 (fun r10 Z9 =>
            zR r10 ∧
              (r10 ≠ 0 → (zR r2 ∧
                  (r2 = 0 → TZ (d + 1) 272 51 [some (.inr 100), some (.inl x1), some (.inl x2), some (.inl x3), some (.inl r2), some (.inl x2), some (.inl 0), some (.inl 0), some (.inl 0), none] [] Z9 (zri Q)) ∧
                  (¬ r2 = 0 → TI d 154 [.inr 100, .inl r2] Z9 (fun r16 Z15 =>
                      Q r16 Z15)))) ∧
              (¬ r10 ≠ 0 → TI d 154 [.inr 100, .inl (-2)] Z9 (fun r18 Z17 =>
                  Q r18 Z17)))))) :
    TZ (d + 1) 272 0 [some (.inr 100), some (.inl x1), some (.inl x2), some (.inl x3), none, none, none, none, none, none] [] Z (zri Q) := by
  refine z0 (op := 3) (a := 1) (b := 0) (by rfl) (by rfl) (?_ : TZ (d + 1) 272 1 [some (.inr 100), some (.inl x1), some (.inl x2), some (.inl x3), none, none, none, none, none, none] [.inl x1] Z (zri Q))
  refine z0 (op := 0) (a := 0) (b := 1) (by rfl) (by rfl) (?_ : TZ (d + 1) 272 2 [some (.inr 100), some (.inl x1), some (.inl x2), some (.inl x3), none, none, none, none, none, none] [.inl 1, .inl x1] Z (zri Q))
  refine z0 (op := 1) (a := 0) (b := 20) (by rfl) (by rfl) (?_ : TZ (d + 1) 272 4 [some (.inr 100), some (.inl x1), some (.inl x2), some (.inl x3), none, none, none, none, none, none] [.inl 20, .inl 1, .inl x1] Z (zri Q))
  refine z_si (by rfl) (by rfl) (TI.mono v fun r2 Z1 v => ?_)
  show TZ (d + 1) 272 7 [some (.inr 100), some (.inl x1), some (.inl x2), some (.inl x3), none, none, none, none, none, none] [.inl r2] Z1 (zri Q)
  refine z0 (op := 8) (a := 4) (b := 0) (by rfl) (by rfl) (?_ : TZ (d + 1) 272 9 [some (.inr 100), some (.inl x1), some (.inl x2), some (.inl x3), some (.inl r2), none, none, none, none, none] [] Z1 (zri Q))
  refine z0 (op := 4) (a := 4) (b := 0) (by rfl) (by rfl) (?_ : TZ (d + 1) 272 11 [some (.inr 100), some (.inl x1), some (.inl x2), some (.inl x3), some (.inl r2), none, none, none, none, none] [.inl r2] Z1 (zri Q))
  obtain ⟨c3, v1, v2⟩ := v
  refine z_if0 (a := 1) (t := 27) (by rfl) (by rfl) c3 (fun h4 => ?_) (fun h4 => ?_)
  · have v := v1 h4; clear v1 v2
    show TZ (d + 1) 272 27 [some (.inr 100), some (.inl x1), some (.inl x2), some (.inl x3), some (.inl r2), none, none, none, none, none] [] Z1 (zri Q)
    refine z0 (op := 4) (a := 4) (b := 0) (by rfl) (by rfl) (?_ : TZ (d + 1) 272 29 [some (.inr 100), some (.inl x1), some (.inl x2), some (.inl x3), some (.inl r2), none, none, none, none, none] [.inl r2] Z1 (zri Q))
    obtain ⟨c5, v1, v2⟩ := v
    refine z_if0 (a := 0) (t := 39) (by rfl) (by rfl) c5 (fun h6 => ?_) (fun h6 => ?_)
    · have v := v1 h6; clear v1 v2
      show TZ (d + 1) 272 39 [some (.inr 100), some (.inl x1), some (.inl x2), some (.inl x3), some (.inl r2), none, none, none, none, none] [] Z1 (zri Q)
      refine z0 (op := 3) (a := 2) (b := 0) (by rfl) (by rfl) (?_ : TZ (d + 1) 272 40 [some (.inr 100), some (.inl x1), some (.inl x2), some (.inl x3), some (.inl r2), none, none, none, none, none] [.inl x2] Z1 (zri Q))
      refine z0 (op := 8) (a := 5) (b := 0) (by rfl) (by rfl) (?_ : TZ (d + 1) 272 42 [some (.inr 100), some (.inl x1), some (.inl x2), some (.inl x3), some (.inl r2), some (.inl x2), none, none, none, none] [] Z1 (zri Q))
      refine z0 (op := 0) (a := 0) (b := 0) (by rfl) (by rfl) (?_ : TZ (d + 1) 272 43 [some (.inr 100), some (.inl x1), some (.inl x2), some (.inl x3), some (.inl r2), some (.inl x2), none, none, none, none] [.inl 0] Z1 (zri Q))
      refine z0 (op := 8) (a := 6) (b := 0) (by rfl) (by rfl) (?_ : TZ (d + 1) 272 45 [some (.inr 100), some (.inl x1), some (.inl x2), some (.inl x3), some (.inl r2), some (.inl x2), some (.inl 0), none, none, none] [] Z1 (zri Q))
      refine z0 (op := 0) (a := 0) (b := 0) (by rfl) (by rfl) (?_ : TZ (d + 1) 272 46 [some (.inr 100), some (.inl x1), some (.inl x2), some (.inl x3), some (.inl r2), some (.inl x2), some (.inl 0), none, none, none] [.inl 0] Z1 (zri Q))
      refine z0 (op := 8) (a := 7) (b := 0) (by rfl) (by rfl) (?_ : TZ (d + 1) 272 48 [some (.inr 100), some (.inl x1), some (.inl x2), some (.inl x3), some (.inl r2), some (.inl x2), some (.inl 0), some (.inl 0), none, none] [] Z1 (zri Q))
      refine z0 (op := 0) (a := 0) (b := 0) (by rfl) (by rfl) (?_ : TZ (d + 1) 272 49 [some (.inr 100), some (.inl x1), some (.inl x2), some (.inl x3), some (.inl r2), some (.inl x2), some (.inl 0), some (.inl 0), none, none] [.inl 0] Z1 (zri Q))
      refine z0 (op := 8) (a := 8) (b := 0) (by rfl) (by rfl) (?_ : TZ (d + 1) 272 51 [some (.inr 100), some (.inl x1), some (.inl x2), some (.inl x3), some (.inl r2), some (.inl x2), some (.inl 0), some (.inl 0), some (.inl 0), none] [] Z1 (zri Q))
      exact v
    · have v := v2 h6; clear v1 v2
      show TZ (d + 1) 272 32 [some (.inr 100), some (.inl x1), some (.inl x2), some (.inl x3), some (.inl r2), none, none, none, none, none] [] Z1 (zri Q)
      refine z0 (op := 5) (a := 0) (b := 0) (by rfl) (by rfl) (?_ : TZ (d + 1) 272 33 [some (.inr 100), some (.inl x1), some (.inl x2), some (.inl x3), some (.inl r2), none, none, none, none, none] [.inr 100] Z1 (zri Q))
      refine z0 (op := 4) (a := 4) (b := 0) (by rfl) (by rfl) (?_ : TZ (d + 1) 272 35 [some (.inr 100), some (.inl x1), some (.inl x2), some (.inl x3), some (.inl r2), none, none, none, none, none] [.inl r2, .inr 100] Z1 (zri Q))
      refine z_vi (by rfl) (by rfl) cl_100 (TI.mono v fun r8 Z7 v => ?_)
      show TZ (d + 1) 272 38 [some (.inr 100), some (.inl x1), some (.inl x2), some (.inl x3), some (.inl r2), none, none, none, none, none] [.inl r8] Z7 (zri Q)
      exact z_reti (by rfl) (by rfl) v
  · have v := v2 h4; clear v1 v2
    show TZ (d + 1) 272 14 [some (.inr 100), some (.inl x1), some (.inl x2), some (.inl x3), some (.inl r2), none, none, none, none, none] [] Z1 (zri Q)
    refine z0 (op := 3) (a := 3) (b := 0) (by rfl) (by rfl) (?_ : TZ (d + 1) 272 15 [some (.inr 100), some (.inl x1), some (.inl x2), some (.inl x3), some (.inl r2), none, none, none, none, none] [.inl x3] Z1 (zri Q))
    refine z0 (op := 0) (a := 0) (b := 0) (by rfl) (by rfl) (?_ : TZ (d + 1) 272 16 [some (.inr 100), some (.inl x1), some (.inl x2), some (.inl x3), some (.inl r2), none, none, none, none, none] [.inl 0, .inl x3] Z1 (zri Q))
    refine z0 (op := 0) (a := 0) (b := 1) (by rfl) (by rfl) (?_ : TZ (d + 1) 272 17 [some (.inr 100), some (.inl x1), some (.inl x2), some (.inl x3), some (.inl r2), none, none, none, none, none] [.inl 1, .inl 0, .inl x3] Z1 (zri Q))
    refine z_si (by rfl) (by rfl) (TI.mono v fun r10 Z9 v => ?_)
    show TZ (d + 1) 272 20 [some (.inr 100), some (.inl x1), some (.inl x2), some (.inl x3), some (.inl r2), none, none, none, none, none] [.inl r10] Z9 (zri Q)
    obtain ⟨c11, v1, v2⟩ := v
    refine z_if0 (a := 1) (t := 27) (by rfl) (by rfl) c11 (fun h12 => ?_) (fun h12 => ?_)
    · have v := v1 h12; clear v1 v2
      show TZ (d + 1) 272 27 [some (.inr 100), some (.inl x1), some (.inl x2), some (.inl x3), some (.inl r2), none, none, none, none, none] [] Z9 (zri Q)
      refine z0 (op := 4) (a := 4) (b := 0) (by rfl) (by rfl) (?_ : TZ (d + 1) 272 29 [some (.inr 100), some (.inl x1), some (.inl x2), some (.inl x3), some (.inl r2), none, none, none, none, none] [.inl r2] Z9 (zri Q))
      obtain ⟨c13, v1, v2⟩ := v
      refine z_if0 (a := 0) (t := 39) (by rfl) (by rfl) c13 (fun h14 => ?_) (fun h14 => ?_)
      · have v := v1 h14; clear v1 v2
        show TZ (d + 1) 272 39 [some (.inr 100), some (.inl x1), some (.inl x2), some (.inl x3), some (.inl r2), none, none, none, none, none] [] Z9 (zri Q)
        refine z0 (op := 3) (a := 2) (b := 0) (by rfl) (by rfl) (?_ : TZ (d + 1) 272 40 [some (.inr 100), some (.inl x1), some (.inl x2), some (.inl x3), some (.inl r2), none, none, none, none, none] [.inl x2] Z9 (zri Q))
        refine z0 (op := 8) (a := 5) (b := 0) (by rfl) (by rfl) (?_ : TZ (d + 1) 272 42 [some (.inr 100), some (.inl x1), some (.inl x2), some (.inl x3), some (.inl r2), some (.inl x2), none, none, none, none] [] Z9 (zri Q))
        refine z0 (op := 0) (a := 0) (b := 0) (by rfl) (by rfl) (?_ : TZ (d + 1) 272 43 [some (.inr 100), some (.inl x1), some (.inl x2), some (.inl x3), some (.inl r2), some (.inl x2), none, none, none, none] [.inl 0] Z9 (zri Q))
        refine z0 (op := 8) (a := 6) (b := 0) (by rfl) (by rfl) (?_ : TZ (d + 1) 272 45 [some (.inr 100), some (.inl x1), some (.inl x2), some (.inl x3), some (.inl r2), some (.inl x2), some (.inl 0), none, none, none] [] Z9 (zri Q))
        refine z0 (op := 0) (a := 0) (b := 0) (by rfl) (by rfl) (?_ : TZ (d + 1) 272 46 [some (.inr 100), some (.inl x1), some (.inl x2), some (.inl x3), some (.inl r2), some (.inl x2), some (.inl 0), none, none, none] [.inl 0] Z9 (zri Q))
        refine z0 (op := 8) (a := 7) (b := 0) (by rfl) (by rfl) (?_ : TZ (d + 1) 272 48 [some (.inr 100), some (.inl x1), some (.inl x2), some (.inl x3), some (.inl r2), some (.inl x2), some (.inl 0), some (.inl 0), none, none] [] Z9 (zri Q))
        refine z0 (op := 0) (a := 0) (b := 0) (by rfl) (by rfl) (?_ : TZ (d + 1) 272 49 [some (.inr 100), some (.inl x1), some (.inl x2), some (.inl x3), some (.inl r2), some (.inl x2), some (.inl 0), some (.inl 0), none, none] [.inl 0] Z9 (zri Q))
        refine z0 (op := 8) (a := 8) (b := 0) (by rfl) (by rfl) (?_ : TZ (d + 1) 272 51 [some (.inr 100), some (.inl x1), some (.inl x2), some (.inl x3), some (.inl r2), some (.inl x2), some (.inl 0), some (.inl 0), some (.inl 0), none] [] Z9 (zri Q))
        exact v
      · have v := v2 h14; clear v1 v2
        show TZ (d + 1) 272 32 [some (.inr 100), some (.inl x1), some (.inl x2), some (.inl x3), some (.inl r2), none, none, none, none, none] [] Z9 (zri Q)
        refine z0 (op := 5) (a := 0) (b := 0) (by rfl) (by rfl) (?_ : TZ (d + 1) 272 33 [some (.inr 100), some (.inl x1), some (.inl x2), some (.inl x3), some (.inl r2), none, none, none, none, none] [.inr 100] Z9 (zri Q))
        refine z0 (op := 4) (a := 4) (b := 0) (by rfl) (by rfl) (?_ : TZ (d + 1) 272 35 [some (.inr 100), some (.inl x1), some (.inl x2), some (.inl x3), some (.inl r2), none, none, none, none, none] [.inl r2, .inr 100] Z9 (zri Q))
        refine z_vi (by rfl) (by rfl) cl_100 (TI.mono v fun r16 Z15 v => ?_)
        show TZ (d + 1) 272 38 [some (.inr 100), some (.inl x1), some (.inl x2), some (.inl x3), some (.inl r2), none, none, none, none, none] [.inl r16] Z15 (zri Q)
        exact z_reti (by rfl) (by rfl) v
    · have v := v2 h12; clear v1 v2
      show TZ (d + 1) 272 23 [some (.inr 100), some (.inl x1), some (.inl x2), some (.inl x3), some (.inl r2), none, none, none, none, none] [] Z9 (zri Q)
      refine z0 (op := 1) (a := 0) (b := (-2)) (by rfl) (by rfl) (?_ : TZ (d + 1) 272 25 [some (.inr 100), some (.inl x1), some (.inl x2), some (.inl x3), some (.inl r2), none, none, none, none, none] [.inl (-2)] Z9 (zri Q))
      refine z0 (op := 8) (a := 4) (b := 0) (by rfl) (by rfl) (?_ : TZ (d + 1) 272 27 [some (.inr 100), some (.inl x1), some (.inl x2), some (.inl x3), some (.inl (-2)), none, none, none, none, none] [] Z9 (zri Q))
      refine z0 (op := 4) (a := 4) (b := 0) (by rfl) (by rfl) (?_ : TZ (d + 1) 272 29 [some (.inr 100), some (.inl x1), some (.inl x2), some (.inl x3), some (.inl (-2)), none, none, none, none, none] [.inl (-2)] Z9 (zri Q))
      refine z_if0 (a := 0) (t := 39) (by rfl) (by rfl) (by decide) (fun h => absurd (show ((-2) : Int) = (0 : Int) from h) (by decide)) (fun _ => ?_)
      show TZ (d + 1) 272 32 [some (.inr 100), some (.inl x1), some (.inl x2), some (.inl x3), some (.inl (-2)), none, none, none, none, none] [] Z9 (zri Q)
      refine z0 (op := 5) (a := 0) (b := 0) (by rfl) (by rfl) (?_ : TZ (d + 1) 272 33 [some (.inr 100), some (.inl x1), some (.inl x2), some (.inl x3), some (.inl (-2)), none, none, none, none, none] [.inr 100] Z9 (zri Q))
      refine z0 (op := 4) (a := 4) (b := 0) (by rfl) (by rfl) (?_ : TZ (d + 1) 272 35 [some (.inr 100), some (.inl x1), some (.inl x2), some (.inl x3), some (.inl (-2)), none, none, none, none, none] [.inl (-2), .inr 100] Z9 (zri Q))
      refine z_vi (by rfl) (by rfl) cl_100 (TI.mono v fun r18 Z17 v => ?_)
      show TZ (d + 1) 272 38 [some (.inr 100), some (.inl x1), some (.inl x2), some (.inl x3), some (.inl (-2)), none, none, none, none, none] [.inl r18] Z17 (zri Q)
      exact z_reti (by rfl) (by rfl) v
theorem w272_51 {d : Nat} {x1 x2 x3 x4 x5 x6 x7 x8 : Int} {o9 : Option zV} {Z : zM} {Q : Int → zM → Prop}
    (v : zR x8 ∧
      zR x1 ∧
      (x1 ≤ x8 → (zR x3 ∧
          (x3 ≠ 0 → Q x7 Z) ∧
          (¬ x3 ≠ 0 → Q x6 Z))) ∧
      (¬ x1 ≤ x8 → TV d 179 [.inr 100] Z (fun Z6 =>
          TZ (d + 1) 272 64 [some (.inr 100), some (.inl x1), some (.inl x2), some (.inl x3), some (.inl x4), some (.inl x5), some (.inl x6), some (.inl x7), some (.inl x8), some (.inl 0)] [] Z6 (zri Q)))) :
    TZ (d + 1) 272 51 [some (.inr 100), some (.inl x1), some (.inl x2), some (.inl x3), some (.inl x4), some (.inl x5), some (.inl x6), some (.inl x7), some (.inl x8), o9] [] Z (zri Q) := by
  refine z0 (op := 4) (a := 8) (b := 0) (by rfl) (by rfl) (?_ : TZ (d + 1) 272 53 [some (.inr 100), some (.inl x1), some (.inl x2), some (.inl x3), some (.inl x4), some (.inl x5), some (.inl x6), some (.inl x7), some (.inl x8), o9] [.inl x8] Z (zri Q))
  refine z0 (op := 3) (a := 1) (b := 0) (by rfl) (by rfl) (?_ : TZ (d + 1) 272 54 [some (.inr 100), some (.inl x1), some (.inl x2), some (.inl x3), some (.inl x4), some (.inl x5), some (.inl x6), some (.inl x7), some (.inl x8), o9] [.inl x1, .inl x8] Z (zri Q))
  obtain ⟨c1, c2, v1, v2⟩ := v
  refine z_if2 (a := 3) (t := 148) (by rfl) (by rfl) c1 c2 (fun h3 => ?_) (fun h3 => ?_)
  · have v := v1 h3; clear v1 v2
    show TZ (d + 1) 272 148 [some (.inr 100), some (.inl x1), some (.inl x2), some (.inl x3), some (.inl x4), some (.inl x5), some (.inl x6), some (.inl x7), some (.inl x8), o9] [] Z (zri Q)
    refine z0 (op := 3) (a := 3) (b := 0) (by rfl) (by rfl) (?_ : TZ (d + 1) 272 149 [some (.inr 100), some (.inl x1), some (.inl x2), some (.inl x3), some (.inl x4), some (.inl x5), some (.inl x6), some (.inl x7), some (.inl x8), o9] [.inl x3] Z (zri Q))
    obtain ⟨c4, v1, v2⟩ := v
    refine z_if0 (a := 1) (t := 157) (by rfl) (by rfl) c4 (fun h5 => ?_) (fun h5 => ?_)
    · have v := v1 h5; clear v1 v2
      show TZ (d + 1) 272 157 [some (.inr 100), some (.inl x1), some (.inl x2), some (.inl x3), some (.inl x4), some (.inl x5), some (.inl x6), some (.inl x7), some (.inl x8), o9] [] Z (zri Q)
      refine z0 (op := 4) (a := 7) (b := 0) (by rfl) (by rfl) (?_ : TZ (d + 1) 272 159 [some (.inr 100), some (.inl x1), some (.inl x2), some (.inl x3), some (.inl x4), some (.inl x5), some (.inl x6), some (.inl x7), some (.inl x8), o9] [.inl x7] Z (zri Q))
      exact z_reti (by rfl) (by rfl) v
    · have v := v2 h5; clear v1 v2
      show TZ (d + 1) 272 152 [some (.inr 100), some (.inl x1), some (.inl x2), some (.inl x3), some (.inl x4), some (.inl x5), some (.inl x6), some (.inl x7), some (.inl x8), o9] [] Z (zri Q)
      refine z0 (op := 4) (a := 6) (b := 0) (by rfl) (by rfl) (?_ : TZ (d + 1) 272 154 [some (.inr 100), some (.inl x1), some (.inl x2), some (.inl x3), some (.inl x4), some (.inl x5), some (.inl x6), some (.inl x7), some (.inl x8), o9] [.inl x6] Z (zri Q))
      refine z_goto (t := 159) (by rfl) (by rfl) (?_ : TZ (d + 1) 272 159 [some (.inr 100), some (.inl x1), some (.inl x2), some (.inl x3), some (.inl x4), some (.inl x5), some (.inl x6), some (.inl x7), some (.inl x8), o9] [.inl x6] Z (zri Q))
      exact z_reti (by rfl) (by rfl) v
  · have v := v2 h3; clear v1 v2
    show TZ (d + 1) 272 57 [some (.inr 100), some (.inl x1), some (.inl x2), some (.inl x3), some (.inl x4), some (.inl x5), some (.inl x6), some (.inl x7), some (.inl x8), o9] [] Z (zri Q)
    refine z0 (op := 5) (a := 0) (b := 0) (by rfl) (by rfl) (?_ : TZ (d + 1) 272 58 [some (.inr 100), some (.inl x1), some (.inl x2), some (.inl x3), some (.inl x4), some (.inl x5), some (.inl x6), some (.inl x7), some (.inl x8), o9] [.inr 100] Z (zri Q))
    refine z_vv (by rfl) (by rfl) cl_100 (TV.mono v fun Z6 v => ?_)
    show TZ (d + 1) 272 61 [some (.inr 100), some (.inl x1), some (.inl x2), some (.inl x3), some (.inl x4), some (.inl x5), some (.inl x6), some (.inl x7), some (.inl x8), o9] [] Z6 (zri Q)
    refine z0 (op := 0) (a := 0) (b := 0) (by rfl) (by rfl) (?_ : TZ (d + 1) 272 62 [some (.inr 100), some (.inl x1), some (.inl x2), some (.inl x3), some (.inl x4), some (.inl x5), some (.inl x6), some (.inl x7), some (.inl x8), o9] [.inl 0] Z6 (zri Q))
    refine z0 (op := 8) (a := 9) (b := 0) (by rfl) (by rfl) (?_ : TZ (d + 1) 272 64 [some (.inr 100), some (.inl x1), some (.inl x2), some (.inl x3), some (.inl x4), some (.inl x5), some (.inl x6), some (.inl x7), some (.inl x8), some (.inl 0)] [] Z6 (zri Q))
    exact v
theorem w272_64 {d : Nat} {x1 x2 x3 x4 x5 x6 x7 x8 x9 : Int} {Z : zM} {Q : Int → zM → Prop}
    (v : zR x9 ∧
      (20 ≤ x9 → TV d 180 [.inr 100] Z (fun Z3 =>
          TZ (d + 1) 272 51 [some (.inr 100), some (.inl x1), some (.inl x2), some (.inl x3), some (.inl x4), some (.inl x5), some (.inl x6), some (.inl x7), some (.inl (x8 + 1)), some (.inl x9)] [] Z3 (zri Q))) ∧
      (¬ 20 ≤ x9 → (zR (zbit 3 ((x5 * 1103515245) + 12345) 2147483647) ∧
          zR (Int.tdiv (zbit 3 ((x5 * 1103515245) + 12345) 2147483647) 65536) ∧
          TV d 195 [.inr 100, .inl (Int.tmod (Int.tdiv (zbit 3 ((x5 * 1103515245) + 12345) 2147483647) 65536) 8)] Z (fun Z6 =>
          TI d 188 [.inr 100, .inl (-1)] Z6 (fun r8 Z7 =>
            TI d 162 [.inr 100] Z7 (fun r10 Z9 =>
              TI d 162 [.inr 100] Z9 (fun r12 Z11 =>
                zR r12 ∧
                  (r12 ≠ 0 → TZ (d + 1) 272 64 [some (.inr 100), some (.inl x1), some (.inl x2), some (.inl x3), some (.inl x4), some (.inl ((x5 * 1103515245) + 12345)), some (.inl (x6 + r10)), some (.inl (x7 + 0)), some (.inl x8), some (.inl (x9 + 1))] [] Z11 (zri Q)) ∧
                  (¬ r12 ≠ 0 → TZ (d + 1) 272 64 [some (.inr 100), some (.inl x1), some (.inl x2), some (.inl x3), some (.inl x4), some (.inl ((x5 * 1103515245) + 12345)), some (.inl (x6 + r10)), some (.inl (x7 + 1)), some (.inl x8), some (.inl (x9 + 1))] [] Z11 (zri Q))))))))) :
    TZ (d + 1) 272 64 [some (.inr 100), some (.inl x1), some (.inl x2), some (.inl x3), some (.inl x4), some (.inl x5), some (.inl x6), some (.inl x7), some (.inl x8), some (.inl x9)] [] Z (zri Q) := by
  refine z0 (op := 4) (a := 9) (b := 0) (by rfl) (by rfl) (?_ : TZ (d + 1) 272 66 [some (.inr 100), some (.inl x1), some (.inl x2), some (.inl x3), some (.inl x4), some (.inl x5), some (.inl x6), some (.inl x7), some (.inl x8), some (.inl x9)] [.inl x9] Z (zri Q))
  refine z0 (op := 1) (a := 0) (b := 20) (by rfl) (by rfl) (?_ : TZ (d + 1) 272 68 [some (.inr 100), some (.inl x1), some (.inl x2), some (.inl x3), some (.inl x4), some (.inl x5), some (.inl x6), some (.inl x7), some (.inl x8), some (.inl x9)] [.inl 20, .inl x9] Z (zri Q))
  obtain ⟨c1, v1, v2⟩ := v
  refine z_if2 (a := 3) (t := 138) (by rfl) (by rfl) c1 (by decide) (fun h2 => ?_) (fun h2 => ?_)
  · have v := v1 h2; clear v1 v2
    show TZ (d + 1) 272 138 [some (.inr 100), some (.inl x1), some (.inl x2), some (.inl x3), some (.inl x4), some (.inl x5), some (.inl x6), some (.inl x7), some (.inl x8), some (.inl x9)] [] Z (zri Q)
    refine z0 (op := 5) (a := 0) (b := 0) (by rfl) (by rfl) (?_ : TZ (d + 1) 272 139 [some (.inr 100), some (.inl x1), some (.inl x2), some (.inl x3), some (.inl x4), some (.inl x5), some (.inl x6), some (.inl x7), some (.inl x8), some (.inl x9)] [.inr 100] Z (zri Q))
    refine z_vv (by rfl) (by rfl) cl_100 (TV.mono v fun Z3 v => ?_)
    show TZ (d + 1) 272 142 [some (.inr 100), some (.inl x1), some (.inl x2), some (.inl x3), some (.inl x4), some (.inl x5), some (.inl x6), some (.inl x7), some (.inl x8), some (.inl x9)] [] Z3 (zri Q)
    refine z0 (op := 11) (a := 8) (b := 1) (by rfl) (by rfl) (?_ : TZ (d + 1) 272 145 [some (.inr 100), some (.inl x1), some (.inl x2), some (.inl x3), some (.inl x4), some (.inl x5), some (.inl x6), some (.inl x7), some (.inl (x8 + 1)), some (.inl x9)] [] Z3 (zri Q))
    refine z_goto (t := 51) (by rfl) (by rfl) (?_ : TZ (d + 1) 272 51 [some (.inr 100), some (.inl x1), some (.inl x2), some (.inl x3), some (.inl x4), some (.inl x5), some (.inl x6), some (.inl x7), some (.inl (x8 + 1)), some (.inl x9)] [] Z3 (zri Q))
    exact v
  · have v := v2 h2; clear v1 v2
    show TZ (d + 1) 272 71 [some (.inr 100), some (.inl x1), some (.inl x2), some (.inl x3), some (.inl x4), some (.inl x5), some (.inl x6), some (.inl x7), some (.inl x8), some (.inl x9)] [] Z (zri Q)
    refine z0 (op := 4) (a := 5) (b := 0) (by rfl) (by rfl) (?_ : TZ (d + 1) 272 73 [some (.inr 100), some (.inl x1), some (.inl x2), some (.inl x3), some (.inl x4), some (.inl x5), some (.inl x6), some (.inl x7), some (.inl x8), some (.inl x9)] [.inl x5] Z (zri Q))
    refine z_con (op := 1) (a := 12) (b := 0) (by rfl) (by rfl) (by decide) (?_ : TZ (d + 1) 272 76 [some (.inr 100), some (.inl x1), some (.inl x2), some (.inl x3), some (.inl x4), some (.inl x5), some (.inl x6), some (.inl x7), some (.inl x8), some (.inl x9)] [.inl 1103515245, .inl x5] Z (zri Q))
    refine z0 (op := 12) (a := 2) (b := 0) (by rfl) (by rfl) (?_ : TZ (d + 1) 272 77 [some (.inr 100), some (.inl x1), some (.inl x2), some (.inl x3), some (.inl x4), some (.inl x5), some (.inl x6), some (.inl x7), some (.inl x8), some (.inl x9)] [.inl (x5 * 1103515245)] Z (zri Q))
    refine z0 (op := 2) (a := 0) (b := 12345) (by rfl) (by rfl) (?_ : TZ (d + 1) 272 80 [some (.inr 100), some (.inl x1), some (.inl x2), some (.inl x3), some (.inl x4), some (.inl x5), some (.inl x6), some (.inl x7), some (.inl x8), some (.inl x9)] [.inl 12345, .inl (x5 * 1103515245)] Z (zri Q))
    refine z0 (op := 12) (a := 0) (b := 0) (by rfl) (by rfl) (?_ : TZ (d + 1) 272 81 [some (.inr 100), some (.inl x1), some (.inl x2), some (.inl x3), some (.inl x4), some (.inl x5), some (.inl x6), some (.inl x7), some (.inl x8), some (.inl x9)] [.inl ((x5 * 1103515245) + 12345)] Z (zri Q))
    refine z0 (op := 8) (a := 5) (b := 0) (by rfl) (by rfl) (?_ : TZ (d + 1) 272 83 [some (.inr 100), some (.inl x1), some (.inl x2), some (.inl x3), some (.inl x4), some (.inl ((x5 * 1103515245) + 12345)), some (.inl x6), some (.inl x7), some (.inl x8), some (.inl x9)] [] Z (zri Q))
    refine z0 (op := 5) (a := 0) (b := 0) (by rfl) (by rfl) (?_ : TZ (d + 1) 272 84 [some (.inr 100), some (.inl x1), some (.inl x2), some (.inl x3), some (.inl x4), some (.inl ((x5 * 1103515245) + 12345)), some (.inl x6), some (.inl x7), some (.inl x8), some (.inl x9)] [.inr 100] Z (zri Q))
    refine z0 (op := 4) (a := 5) (b := 0) (by rfl) (by rfl) (?_ : TZ (d + 1) 272 86 [some (.inr 100), some (.inl x1), some (.inl x2), some (.inl x3), some (.inl x4), some (.inl ((x5 * 1103515245) + 12345)), some (.inl x6), some (.inl x7), some (.inl x8), some (.inl x9)] [.inl ((x5 * 1103515245) + 12345), .inr 100] Z (zri Q))
    refine z_con (op := 1) (a := 13) (b := 0) (by rfl) (by rfl) (by decide) (?_ : TZ (d + 1) 272 89 [some (.inr 100), some (.inl x1), some (.inl x2), some (.inl x3), some (.inl x4), some (.inl ((x5 * 1103515245) + 12345)), some (.inl x6), some (.inl x7), some (.inl x8), some (.inl x9)] [.inl 2147483647, .inl ((x5 * 1103515245) + 12345), .inr 100] Z (zri Q))
    refine z0 (op := 12) (a := 3) (b := 0) (by rfl) (by rfl) (?_ : TZ (d + 1) 272 90 [some (.inr 100), some (.inl x1), some (.inl x2), some (.inl x3), some (.inl x4), some (.inl ((x5 * 1103515245) + 12345)), some (.inl x6), some (.inl x7), some (.inl x8), some (.inl x9)] [.inl (zbit 3 ((x5 * 1103515245) + 12345) 2147483647), .inr 100] Z (zri Q))
    refine z_con (op := 1) (a := 14) (b := 0) (by rfl) (by rfl) (by decide) (?_ : TZ (d + 1) 272 93 [some (.inr 100), some (.inl x1), some (.inl x2), some (.inl x3), some (.inl x4), some (.inl ((x5 * 1103515245) + 12345)), some (.inl x6), some (.inl x7), some (.inl x8), some (.inl x9)] [.inl 65536, .inl (zbit 3 ((x5 * 1103515245) + 12345) 2147483647), .inr 100] Z (zri Q))
    obtain ⟨c4, v⟩ := v
    refine z_div (by rfl) c4 (by decide) (?_ : TZ (d + 1) 272 94 [some (.inr 100), some (.inl x1), some (.inl x2), some (.inl x3), some (.inl x4), some (.inl ((x5 * 1103515245) + 12345)), some (.inl x6), some (.inl x7), some (.inl x8), some (.inl x9)] [.inl (Int.tdiv (zbit 3 ((x5 * 1103515245) + 12345) 2147483647) 65536), .inr 100] Z (zri Q))
    refine z0 (op := 1) (a := 0) (b := 8) (by rfl) (by rfl) (?_ : TZ (d + 1) 272 96 [some (.inr 100), some (.inl x1), some (.inl x2), some (.inl x3), some (.inl x4), some (.inl ((x5 * 1103515245) + 12345)), some (.inl x6), some (.inl x7), some (.inl x8), some (.inl x9)] [.inl 8, .inl (Int.tdiv (zbit 3 ((x5 * 1103515245) + 12345) 2147483647) 65536), .inr 100] Z (zri Q))
    obtain ⟨c5, v⟩ := v
    refine z_rem (by rfl) c5 (by decide) (?_ : TZ (d + 1) 272 97 [some (.inr 100), some (.inl x1), some (.inl x2), some (.inl x3), some (.inl x4), some (.inl ((x5 * 1103515245) + 12345)), some (.inl x6), some (.inl x7), some (.inl x8), some (.inl x9)] [.inl (Int.tmod (Int.tdiv (zbit 3 ((x5 * 1103515245) + 12345) 2147483647) 65536) 8), .inr 100] Z (zri Q))
    refine z_vv (by rfl) (by rfl) cl_100 (TV.mono v fun Z6 v => ?_)
    show TZ (d + 1) 272 100 [some (.inr 100), some (.inl x1), some (.inl x2), some (.inl x3), some (.inl x4), some (.inl ((x5 * 1103515245) + 12345)), some (.inl x6), some (.inl x7), some (.inl x8), some (.inl x9)] [] Z6 (zri Q)
    refine z0 (op := 5) (a := 0) (b := 0) (by rfl) (by rfl) (?_ : TZ (d + 1) 272 101 [some (.inr 100), some (.inl x1), some (.inl x2), some (.inl x3), some (.inl x4), some (.inl ((x5 * 1103515245) + 12345)), some (.inl x6), some (.inl x7), some (.inl x8), some (.inl x9)] [.inr 100] Z6 (zri Q))
    refine z0 (op := 0) (a := 0) (b := (-1)) (by rfl) (by rfl) (?_ : TZ (d + 1) 272 102 [some (.inr 100), some (.inl x1), some (.inl x2), some (.inl x3), some (.inl x4), some (.inl ((x5 * 1103515245) + 12345)), some (.inl x6), some (.inl x7), some (.inl x8), some (.inl x9)] [.inl (-1), .inr 100] Z6 (zri Q))
    refine z_vi (by rfl) (by rfl) cl_100 (TI.mono v fun r8 Z7 v => ?_)
    show TZ (d + 1) 272 105 [some (.inr 100), some (.inl x1), some (.inl x2), some (.inl x3), some (.inl x4), some (.inl ((x5 * 1103515245) + 12345)), some (.inl x6), some (.inl x7), some (.inl x8), some (.inl x9)] [.inl r8] Z7 (zri Q)
    refine z0 (op := 14) (a := 0) (b := 0) (by rfl) (by rfl) (?_ : TZ (d + 1) 272 106 [some (.inr 100), some (.inl x1), some (.inl x2), some (.inl x3), some (.inl x4), some (.inl ((x5 * 1103515245) + 12345)), some (.inl x6), some (.inl x7), some (.inl x8), some (.inl x9)] [] Z7 (zri Q))
    refine z0 (op := 4) (a := 6) (b := 0) (by rfl) (by rfl) (?_ : TZ (d + 1) 272 108 [some (.inr 100), some (.inl x1), some (.inl x2), some (.inl x3), some (.inl x4), some (.inl ((x5 * 1103515245) + 12345)), some (.inl x6), some (.inl x7), some (.inl x8), some (.inl x9)] [.inl x6] Z7 (zri Q))
    refine z0 (op := 5) (a := 0) (b := 0) (by rfl) (by rfl) (?_ : TZ (d + 1) 272 109 [some (.inr 100), some (.inl x1), some (.inl x2), some (.inl x3), some (.inl x4), some (.inl ((x5 * 1103515245) + 12345)), some (.inl x6), some (.inl x7), some (.inl x8), some (.inl x9)] [.inr 100, .inl x6] Z7 (zri Q))
    refine z_vi (by rfl) (by rfl) cl_100 (TI.mono v fun r10 Z9 v => ?_)
    show TZ (d + 1) 272 112 [some (.inr 100), some (.inl x1), some (.inl x2), some (.inl x3), some (.inl x4), some (.inl ((x5 * 1103515245) + 12345)), some (.inl x6), some (.inl x7), some (.inl x8), some (.inl x9)] [.inl r10, .inl x6] Z9 (zri Q)
    refine z0 (op := 12) (a := 0) (b := 0) (by rfl) (by rfl) (?_ : TZ (d + 1) 272 113 [some (.inr 100), some (.inl x1), some (.inl x2), some (.inl x3), some (.inl x4), some (.inl ((x5 * 1103515245) + 12345)), some (.inl x6), some (.inl x7), some (.inl x8), some (.inl x9)] [.inl (x6 + r10)] Z9 (zri Q))
    refine z0 (op := 8) (a := 6) (b := 0) (by rfl) (by rfl) (?_ : TZ (d + 1) 272 115 [some (.inr 100), some (.inl x1), some (.inl x2), some (.inl x3), some (.inl x4), some (.inl ((x5 * 1103515245) + 12345)), some (.inl (x6 + r10)), some (.inl x7), some (.inl x8), some (.inl x9)] [] Z9 (zri Q))
    refine z0 (op := 4) (a := 7) (b := 0) (by rfl) (by rfl) (?_ : TZ (d + 1) 272 117 [some (.inr 100), some (.inl x1), some (.inl x2), some (.inl x3), some (.inl x4), some (.inl ((x5 * 1103515245) + 12345)), some (.inl (x6 + r10)), some (.inl x7), some (.inl x8), some (.inl x9)] [.inl x7] Z9 (zri Q))
    refine z0 (op := 5) (a := 0) (b := 0) (by rfl) (by rfl) (?_ : TZ (d + 1) 272 118 [some (.inr 100), some (.inl x1), some (.inl x2), some (.inl x3), some (.inl x4), some (.inl ((x5 * 1103515245) + 12345)), some (.inl (x6 + r10)), some (.inl x7), some (.inl x8), some (.inl x9)] [.inr 100, .inl x7] Z9 (zri Q))
    refine z_vi (by rfl) (by rfl) cl_100 (TI.mono v fun r12 Z11 v => ?_)
    show TZ (d + 1) 272 121 [some (.inr 100), some (.inl x1), some (.inl x2), some (.inl x3), some (.inl x4), some (.inl ((x5 * 1103515245) + 12345)), some (.inl (x6 + r10)), some (.inl x7), some (.inl x8), some (.inl x9)] [.inl r12, .inl x7] Z11 (zri Q)
    obtain ⟨c13, v1, v2⟩ := v
    refine z_if0 (a := 1) (t := 128) (by rfl) (by rfl) c13 (fun h14 => ?_) (fun h14 => ?_)
    · have v := v1 h14; clear v1 v2
      show TZ (d + 1) 272 128 [some (.inr 100), some (.inl x1), some (.inl x2), some (.inl x3), some (.inl x4), some (.inl ((x5 * 1103515245) + 12345)), some (.inl (x6 + r10)), some (.inl x7), some (.inl x8), some (.inl x9)] [.inl x7] Z11 (zri Q)
      refine z0 (op := 0) (a := 0) (b := 0) (by rfl) (by rfl) (?_ : TZ (d + 1) 272 129 [some (.inr 100), some (.inl x1), some (.inl x2), some (.inl x3), some (.inl x4), some (.inl ((x5 * 1103515245) + 12345)), some (.inl (x6 + r10)), some (.inl x7), some (.inl x8), some (.inl x9)] [.inl 0, .inl x7] Z11 (zri Q))
      refine z0 (op := 12) (a := 0) (b := 0) (by rfl) (by rfl) (?_ : TZ (d + 1) 272 130 [some (.inr 100), some (.inl x1), some (.inl x2), some (.inl x3), some (.inl x4), some (.inl ((x5 * 1103515245) + 12345)), some (.inl (x6 + r10)), some (.inl x7), some (.inl x8), some (.inl x9)] [.inl (x7 + 0)] Z11 (zri Q))
      refine z0 (op := 8) (a := 7) (b := 0) (by rfl) (by rfl) (?_ : TZ (d + 1) 272 132 [some (.inr 100), some (.inl x1), some (.inl x2), some (.inl x3), some (.inl x4), some (.inl ((x5 * 1103515245) + 12345)), some (.inl (x6 + r10)), some (.inl (x7 + 0)), some (.inl x8), some (.inl x9)] [] Z11 (zri Q))
      refine z0 (op := 11) (a := 9) (b := 1) (by rfl) (by rfl) (?_ : TZ (d + 1) 272 135 [some (.inr 100), some (.inl x1), some (.inl x2), some (.inl x3), some (.inl x4), some (.inl ((x5 * 1103515245) + 12345)), some (.inl (x6 + r10)), some (.inl (x7 + 0)), some (.inl x8), some (.inl (x9 + 1))] [] Z11 (zri Q))
      refine z_goto (t := 64) (by rfl) (by rfl) (?_ : TZ (d + 1) 272 64 [some (.inr 100), some (.inl x1), some (.inl x2), some (.inl x3), some (.inl x4), some (.inl ((x5 * 1103515245) + 12345)), some (.inl (x6 + r10)), some (.inl (x7 + 0)), some (.inl x8), some (.inl (x9 + 1))] [] Z11 (zri Q))
      exact v
    · have v := v2 h14; clear v1 v2
      show TZ (d + 1) 272 124 [some (.inr 100), some (.inl x1), some (.inl x2), some (.inl x3), some (.inl x4), some (.inl ((x5 * 1103515245) + 12345)), some (.inl (x6 + r10)), some (.inl x7), some (.inl x8), some (.inl x9)] [.inl x7] Z11 (zri Q)
      refine z0 (op := 0) (a := 0) (b := 1) (by rfl) (by rfl) (?_ : TZ (d + 1) 272 125 [some (.inr 100), some (.inl x1), some (.inl x2), some (.inl x3), some (.inl x4), some (.inl ((x5 * 1103515245) + 12345)), some (.inl (x6 + r10)), some (.inl x7), some (.inl x8), some (.inl x9)] [.inl 1, .inl x7] Z11 (zri Q))
      refine z_goto (t := 129) (by rfl) (by rfl) (?_ : TZ (d + 1) 272 129 [some (.inr 100), some (.inl x1), some (.inl x2), some (.inl x3), some (.inl x4), some (.inl ((x5 * 1103515245) + 12345)), some (.inl (x6 + r10)), some (.inl x7), some (.inl x8), some (.inl x9)] [.inl 1, .inl x7] Z11 (zri Q))
      refine z0 (op := 12) (a := 0) (b := 0) (by rfl) (by rfl) (?_ : TZ (d + 1) 272 130 [some (.inr 100), some (.inl x1), some (.inl x2), some (.inl x3), some (.inl x4), some (.inl ((x5 * 1103515245) + 12345)), some (.inl (x6 + r10)), some (.inl x7), some (.inl x8), some (.inl x9)] [.inl (x7 + 1)] Z11 (zri Q))
      refine z0 (op := 8) (a := 7) (b := 0) (by rfl) (by rfl) (?_ : TZ (d + 1) 272 132 [some (.inr 100), some (.inl x1), some (.inl x2), some (.inl x3), some (.inl x4), some (.inl ((x5 * 1103515245) + 12345)), some (.inl (x6 + r10)), some (.inl (x7 + 1)), some (.inl x8), some (.inl x9)] [] Z11 (zri Q))
      refine z0 (op := 11) (a := 9) (b := 1) (by rfl) (by rfl) (?_ : TZ (d + 1) 272 135 [some (.inr 100), some (.inl x1), some (.inl x2), some (.inl x3), some (.inl x4), some (.inl ((x5 * 1103515245) + 12345)), some (.inl (x6 + r10)), some (.inl (x7 + 1)), some (.inl x8), some (.inl (x9 + 1))] [] Z11 (zri Q))
      refine z_goto (t := 64) (by rfl) (by rfl) (?_ : TZ (d + 1) 272 64 [some (.inr 100), some (.inl x1), some (.inl x2), some (.inl x3), some (.inl x4), some (.inl ((x5 * 1103515245) + 12345)), some (.inl (x6 + r10)), some (.inl (x7 + 1)), some (.inl x8), some (.inl (x9 + 1))] [] Z11 (zri Q))
      exact v
