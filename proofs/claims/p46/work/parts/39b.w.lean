/-! what stretches of code need of integers -/
theorem w232_70 {d : Nat} {x1 x2 x3 : Int} {Z : zM} {Q : zM → Prop}
    (v : zR x3 ∧
      (4 < x3 → TZ d 232 62 [some (.inr 100), some (.inl x1), some (.inl (x2 + 1)), some (.inl x3)] [] Z (zrv Q)) ∧
      (¬ 4 < x3 → (zR x2 ∧
          zR ((Int.tdiv x2 12) + x3) ∧
          zR (Z 100 5) ∧
          ((Z 100 5) < ((Int.tdiv x2 12) + x3) → TZ d 232 62 [some (.inr 100), some (.inl x1), some (.inl (x2 + 1)), some (.inl x3)] [] Z (zrv Q)) ∧
          (¬ (Z 100 5) < ((Int.tdiv x2 12) + x3) → (zR x2 ∧
              zR x2 ∧
              (0 ≤ x1 ∧ x1 < 6) ∧
              zR ((Int.tmod x2 12) + (x3 * (Z 102 x1))) ∧
              (0 ≤ ((12 * ((Int.tdiv x2 12) + x3)) + (Int.tmod ((Int.tmod x2 12) + (x3 * (Z 102 x1))) 12)) ∧ ((12 * ((Int.tdiv x2 12) + x3)) + (Int.tmod ((Int.tmod x2 12) + (x3 * (Z 102 x1))) 12)) < 108) ∧
              (0 ≤ x2 ∧ x2 < 108) ∧
              (0 ≤ ((12 * ((Int.tdiv x2 12) + x3)) + (Int.tmod ((Int.tmod x2 12) + (x3 * (Z 102 x1))) 12)) ∧ ((12 * ((Int.tdiv x2 12) + x3)) + (Int.tmod ((Int.tmod x2 12) + (x3 * (Z 102 x1))) 12)) < 108) ∧
              ∀ Z14, Z14 = zup Z 119 ((12 * ((Int.tdiv x2 12) + x3)) + (Int.tmod ((Int.tmod x2 12) + (x3 * (Z 102 x1))) 12)) ((Z 119 ((12 * ((Int.tdiv x2 12) + x3)) + (Int.tmod ((Int.tmod x2 12) + (x3 * (Z 102 x1))) 12))) + (Z 118 x2)) →
              TZ d 232 70 [some (.inr 100), some (.inl x1), some (.inl x2), some (.inl (x3 + 1))] [] Z14 (zrv Q)))))) :
    TZ d 232 70 [some (.inr 100), some (.inl x1), some (.inl x2), some (.inl x3)] [] Z (zrv Q) := by
  refine z0 (op := 3) (a := 3) (b := 0) (by rfl) (by rfl) (?_ : TZ d 232 71 [some (.inr 100), some (.inl x1), some (.inl x2), some (.inl x3)] [.inl x3] Z (zrv Q))
  refine z0 (op := 0) (a := 0) (b := 4) (by rfl) (by rfl) (?_ : TZ d 232 72 [some (.inr 100), some (.inl x1), some (.inl x2), some (.inl x3)] [.inl 4, .inl x3] Z (zrv Q))
  obtain ⟨c1, v1, v2⟩ := v
  refine z_if2 (a := 4) (t := 134) (by rfl) (by rfl) c1 (by decide) (fun h2 => ?_) (fun h2 => ?_)
  · have v := v1 h2; clear v1 v2
    show TZ d 232 134 [some (.inr 100), some (.inl x1), some (.inl x2), some (.inl x3)] [] Z (zrv Q)
    refine z0 (op := 11) (a := 2) (b := 1) (by rfl) (by rfl) (?_ : TZ d 232 137 [some (.inr 100), some (.inl x1), some (.inl (x2 + 1)), some (.inl x3)] [] Z (zrv Q))
    refine z_goto (t := 62) (by rfl) (by rfl) (?_ : TZ d 232 62 [some (.inr 100), some (.inl x1), some (.inl (x2 + 1)), some (.inl x3)] [] Z (zrv Q))
    exact v
  · have v := v2 h2; clear v1 v2
    show TZ d 232 75 [some (.inr 100), some (.inl x1), some (.inl x2), some (.inl x3)] [] Z (zrv Q)
    refine z0 (op := 3) (a := 2) (b := 0) (by rfl) (by rfl) (?_ : TZ d 232 76 [some (.inr 100), some (.inl x1), some (.inl x2), some (.inl x3)] [.inl x2] Z (zrv Q))
    refine z0 (op := 1) (a := 0) (b := 12) (by rfl) (by rfl) (?_ : TZ d 232 78 [some (.inr 100), some (.inl x1), some (.inl x2), some (.inl x3)] [.inl 12, .inl x2] Z (zrv Q))
    obtain ⟨c3, v⟩ := v
    refine z_div (by rfl) c3 (by decide) (?_ : TZ d 232 79 [some (.inr 100), some (.inl x1), some (.inl x2), some (.inl x3)] [.inl (Int.tdiv x2 12)] Z (zrv Q))
    refine z0 (op := 3) (a := 3) (b := 0) (by rfl) (by rfl) (?_ : TZ d 232 80 [some (.inr 100), some (.inl x1), some (.inl x2), some (.inl x3)] [.inl x3, .inl (Int.tdiv x2 12)] Z (zrv Q))
    refine z0 (op := 12) (a := 0) (b := 0) (by rfl) (by rfl) (?_ : TZ d 232 81 [some (.inr 100), some (.inl x1), some (.inl x2), some (.inl x3)] [.inl ((Int.tdiv x2 12) + x3)] Z (zrv Q))
    refine z0 (op := 5) (a := 0) (b := 0) (by rfl) (by rfl) (?_ : TZ d 232 82 [some (.inr 100), some (.inl x1), some (.inl x2), some (.inl x3)] [.inr 100, .inl ((Int.tdiv x2 12) + x3)] Z (zrv Q))
    refine z_fi (by rfl) fi111_100 (?_ : TZ d 232 85 [some (.inr 100), some (.inl x1), some (.inl x2), some (.inl x3)] [.inl (Z 100 5), .inl ((Int.tdiv x2 12) + x3)] Z (zrv Q))
    obtain ⟨c4, c5, v1, v2⟩ := v
    refine z_if2 (a := 4) (t := 134) (by rfl) (by rfl) c4 c5 (fun h6 => ?_) (fun h6 => ?_)
    · have v := v1 h6; clear v1 v2
      show TZ d 232 134 [some (.inr 100), some (.inl x1), some (.inl x2), some (.inl x3)] [] Z (zrv Q)
      refine z0 (op := 11) (a := 2) (b := 1) (by rfl) (by rfl) (?_ : TZ d 232 137 [some (.inr 100), some (.inl x1), some (.inl (x2 + 1)), some (.inl x3)] [] Z (zrv Q))
      refine z_goto (t := 62) (by rfl) (by rfl) (?_ : TZ d 232 62 [some (.inr 100), some (.inl x1), some (.inl (x2 + 1)), some (.inl x3)] [] Z (zrv Q))
      exact v
    · have v := v2 h6; clear v1 v2
      show TZ d 232 88 [some (.inr 100), some (.inl x1), some (.inl x2), some (.inl x3)] [] Z (zrv Q)
      refine z0 (op := 5) (a := 0) (b := 0) (by rfl) (by rfl) (?_ : TZ d 232 89 [some (.inr 100), some (.inl x1), some (.inl x2), some (.inl x3)] [.inr 100] Z (zrv Q))
      refine z_fr (by rfl) fr106_100 (?_ : TZ d 232 92 [some (.inr 100), some (.inl x1), some (.inl x2), some (.inl x3)] [.inr 119] Z (zrv Q))
      refine z0 (op := 1) (a := 0) (b := 12) (by rfl) (by rfl) (?_ : TZ d 232 94 [some (.inr 100), some (.inl x1), some (.inl x2), some (.inl x3)] [.inl 12, .inr 119] Z (zrv Q))
      refine z0 (op := 3) (a := 2) (b := 0) (by rfl) (by rfl) (?_ : TZ d 232 95 [some (.inr 100), some (.inl x1), some (.inl x2), some (.inl x3)] [.inl x2, .inl 12, .inr 119] Z (zrv Q))
      refine z0 (op := 1) (a := 0) (b := 12) (by rfl) (by rfl) (?_ : TZ d 232 97 [some (.inr 100), some (.inl x1), some (.inl x2), some (.inl x3)] [.inl 12, .inl x2, .inl 12, .inr 119] Z (zrv Q))
      obtain ⟨c7, v⟩ := v
      refine z_div (by rfl) c7 (by decide) (?_ : TZ d 232 98 [some (.inr 100), some (.inl x1), some (.inl x2), some (.inl x3)] [.inl (Int.tdiv x2 12), .inl 12, .inr 119] Z (zrv Q))
      refine z0 (op := 3) (a := 3) (b := 0) (by rfl) (by rfl) (?_ : TZ d 232 99 [some (.inr 100), some (.inl x1), some (.inl x2), some (.inl x3)] [.inl x3, .inl (Int.tdiv x2 12), .inl 12, .inr 119] Z (zrv Q))
      refine z0 (op := 12) (a := 0) (b := 0) (by rfl) (by rfl) (?_ : TZ d 232 100 [some (.inr 100), some (.inl x1), some (.inl x2), some (.inl x3)] [.inl ((Int.tdiv x2 12) + x3), .inl 12, .inr 119] Z (zrv Q))
      refine z0 (op := 12) (a := 2) (b := 0) (by rfl) (by rfl) (?_ : TZ d 232 101 [some (.inr 100), some (.inl x1), some (.inl x2), some (.inl x3)] [.inl (12 * ((Int.tdiv x2 12) + x3)), .inr 119] Z (zrv Q))
      refine z0 (op := 3) (a := 2) (b := 0) (by rfl) (by rfl) (?_ : TZ d 232 102 [some (.inr 100), some (.inl x1), some (.inl x2), some (.inl x3)] [.inl x2, .inl (12 * ((Int.tdiv x2 12) + x3)), .inr 119] Z (zrv Q))
      refine z0 (op := 1) (a := 0) (b := 12) (by rfl) (by rfl) (?_ : TZ d 232 104 [some (.inr 100), some (.inl x1), some (.inl x2), some (.inl x3)] [.inl 12, .inl x2, .inl (12 * ((Int.tdiv x2 12) + x3)), .inr 119] Z (zrv Q))
      obtain ⟨c8, v⟩ := v
      refine z_rem (by rfl) c8 (by decide) (?_ : TZ d 232 105 [some (.inr 100), some (.inl x1), some (.inl x2), some (.inl x3)] [.inl (Int.tmod x2 12), .inl (12 * ((Int.tdiv x2 12) + x3)), .inr 119] Z (zrv Q))
      refine z0 (op := 3) (a := 3) (b := 0) (by rfl) (by rfl) (?_ : TZ d 232 106 [some (.inr 100), some (.inl x1), some (.inl x2), some (.inl x3)] [.inl x3, .inl (Int.tmod x2 12), .inl (12 * ((Int.tdiv x2 12) + x3)), .inr 119] Z (zrv Q))
      refine z0 (op := 5) (a := 0) (b := 0) (by rfl) (by rfl) (?_ : TZ d 232 107 [some (.inr 100), some (.inl x1), some (.inl x2), some (.inl x3)] [.inr 100, .inl x3, .inl (Int.tmod x2 12), .inl (12 * ((Int.tdiv x2 12) + x3)), .inr 119] Z (zrv Q))
      refine z_fr (by rfl) fr89_100 (?_ : TZ d 232 110 [some (.inr 100), some (.inl x1), some (.inl x2), some (.inl x3)] [.inr 102, .inl x3, .inl (Int.tmod x2 12), .inl (12 * ((Int.tdiv x2 12) + x3)), .inr 119] Z (zrv Q))
      refine z0 (op := 3) (a := 1) (b := 0) (by rfl) (by rfl) (?_ : TZ d 232 111 [some (.inr 100), some (.inl x1), some (.inl x2), some (.inl x3)] [.inl x1, .inr 102, .inl x3, .inl (Int.tmod x2 12), .inl (12 * ((Int.tdiv x2 12) + x3)), .inr 119] Z (zrv Q))
      obtain ⟨c9, v⟩ := v
      refine z_al (by rfl) ln_102 c9 (?_ : TZ d 232 112 [some (.inr 100), some (.inl x1), some (.inl x2), some (.inl x3)] [.inl (Z 102 x1), .inl x3, .inl (Int.tmod x2 12), .inl (12 * ((Int.tdiv x2 12) + x3)), .inr 119] Z (zrv Q))
      refine z0 (op := 12) (a := 2) (b := 0) (by rfl) (by rfl) (?_ : TZ d 232 113 [some (.inr 100), some (.inl x1), some (.inl x2), some (.inl x3)] [.inl (x3 * (Z 102 x1)), .inl (Int.tmod x2 12), .inl (12 * ((Int.tdiv x2 12) + x3)), .inr 119] Z (zrv Q))
      refine z0 (op := 12) (a := 0) (b := 0) (by rfl) (by rfl) (?_ : TZ d 232 114 [some (.inr 100), some (.inl x1), some (.inl x2), some (.inl x3)] [.inl ((Int.tmod x2 12) + (x3 * (Z 102 x1))), .inl (12 * ((Int.tdiv x2 12) + x3)), .inr 119] Z (zrv Q))
      refine z0 (op := 1) (a := 0) (b := 12) (by rfl) (by rfl) (?_ : TZ d 232 116 [some (.inr 100), some (.inl x1), some (.inl x2), some (.inl x3)] [.inl 12, .inl ((Int.tmod x2 12) + (x3 * (Z 102 x1))), .inl (12 * ((Int.tdiv x2 12) + x3)), .inr 119] Z (zrv Q))
      obtain ⟨c10, v⟩ := v
      refine z_rem (by rfl) c10 (by decide) (?_ : TZ d 232 117 [some (.inr 100), some (.inl x1), some (.inl x2), some (.inl x3)] [.inl (Int.tmod ((Int.tmod x2 12) + (x3 * (Z 102 x1))) 12), .inl (12 * ((Int.tdiv x2 12) + x3)), .inr 119] Z (zrv Q))
      refine z0 (op := 12) (a := 0) (b := 0) (by rfl) (by rfl) (?_ : TZ d 232 118 [some (.inr 100), some (.inl x1), some (.inl x2), some (.inl x3)] [.inl ((12 * ((Int.tdiv x2 12) + x3)) + (Int.tmod ((Int.tmod x2 12) + (x3 * (Z 102 x1))) 12)), .inr 119] Z (zrv Q))
      refine z0 (op := 16) (a := 0) (b := 0) (by rfl) (by rfl) (?_ : TZ d 232 119 [some (.inr 100), some (.inl x1), some (.inl x2), some (.inl x3)] [.inl ((12 * ((Int.tdiv x2 12) + x3)) + (Int.tmod ((Int.tmod x2 12) + (x3 * (Z 102 x1))) 12)), .inr 119, .inl ((12 * ((Int.tdiv x2 12) + x3)) + (Int.tmod ((Int.tmod x2 12) + (x3 * (Z 102 x1))) 12)), .inr 119] Z (zrv Q))
      obtain ⟨c11, v⟩ := v
      refine z_al (by rfl) ln_119 c11 (?_ : TZ d 232 120 [some (.inr 100), some (.inl x1), some (.inl x2), some (.inl x3)] [.inl (Z 119 ((12 * ((Int.tdiv x2 12) + x3)) + (Int.tmod ((Int.tmod x2 12) + (x3 * (Z 102 x1))) 12))), .inl ((12 * ((Int.tdiv x2 12) + x3)) + (Int.tmod ((Int.tmod x2 12) + (x3 * (Z 102 x1))) 12)), .inr 119] Z (zrv Q))
      refine z0 (op := 5) (a := 0) (b := 0) (by rfl) (by rfl) (?_ : TZ d 232 121 [some (.inr 100), some (.inl x1), some (.inl x2), some (.inl x3)] [.inr 100, .inl (Z 119 ((12 * ((Int.tdiv x2 12) + x3)) + (Int.tmod ((Int.tmod x2 12) + (x3 * (Z 102 x1))) 12))), .inl ((12 * ((Int.tdiv x2 12) + x3)) + (Int.tmod ((Int.tmod x2 12) + (x3 * (Z 102 x1))) 12)), .inr 119] Z (zrv Q))
      refine z_fr (by rfl) fr105_100 (?_ : TZ d 232 124 [some (.inr 100), some (.inl x1), some (.inl x2), some (.inl x3)] [.inr 118, .inl (Z 119 ((12 * ((Int.tdiv x2 12) + x3)) + (Int.tmod ((Int.tmod x2 12) + (x3 * (Z 102 x1))) 12))), .inl ((12 * ((Int.tdiv x2 12) + x3)) + (Int.tmod ((Int.tmod x2 12) + (x3 * (Z 102 x1))) 12)), .inr 119] Z (zrv Q))
      refine z0 (op := 3) (a := 2) (b := 0) (by rfl) (by rfl) (?_ : TZ d 232 125 [some (.inr 100), some (.inl x1), some (.inl x2), some (.inl x3)] [.inl x2, .inr 118, .inl (Z 119 ((12 * ((Int.tdiv x2 12) + x3)) + (Int.tmod ((Int.tmod x2 12) + (x3 * (Z 102 x1))) 12))), .inl ((12 * ((Int.tdiv x2 12) + x3)) + (Int.tmod ((Int.tmod x2 12) + (x3 * (Z 102 x1))) 12)), .inr 119] Z (zrv Q))
      obtain ⟨c12, v⟩ := v
      refine z_al (by rfl) ln_118 c12 (?_ : TZ d 232 126 [some (.inr 100), some (.inl x1), some (.inl x2), some (.inl x3)] [.inl (Z 118 x2), .inl (Z 119 ((12 * ((Int.tdiv x2 12) + x3)) + (Int.tmod ((Int.tmod x2 12) + (x3 * (Z 102 x1))) 12))), .inl ((12 * ((Int.tdiv x2 12) + x3)) + (Int.tmod ((Int.tmod x2 12) + (x3 * (Z 102 x1))) 12)), .inr 119] Z (zrv Q))
      refine z0 (op := 12) (a := 0) (b := 0) (by rfl) (by rfl) (?_ : TZ d 232 127 [some (.inr 100), some (.inl x1), some (.inl x2), some (.inl x3)] [.inl ((Z 119 ((12 * ((Int.tdiv x2 12) + x3)) + (Int.tmod ((Int.tmod x2 12) + (x3 * (Z 102 x1))) 12))) + (Z 118 x2)), .inl ((12 * ((Int.tdiv x2 12) + x3)) + (Int.tmod ((Int.tmod x2 12) + (x3 * (Z 102 x1))) 12)), .inr 119] Z (zrv Q))
      obtain ⟨c13, v⟩ := v
      obtain ⟨Z14, eZ14⟩ : ∃ zz, zz = zup Z 119 ((12 * ((Int.tdiv x2 12) + x3)) + (Int.tmod ((Int.tmod x2 12) + (x3 * (Z 102 x1))) 12)) ((Z 119 ((12 * ((Int.tdiv x2 12) + x3)) + (Int.tmod ((Int.tmod x2 12) + (x3 * (Z 102 x1))) 12))) + (Z 118 x2)) := ⟨_, rfl⟩
      have v := v Z14 eZ14
      refine z_as (by rfl) ln_119 c13 ?_
      show TZ d 232 128 [some (.inr 100), some (.inl x1), some (.inl x2), some (.inl x3)] [] (zup Z 119 ((12 * ((Int.tdiv x2 12) + x3)) + (Int.tmod ((Int.tmod x2 12) + (x3 * (Z 102 x1))) 12)) ((Z 119 ((12 * ((Int.tdiv x2 12) + x3)) + (Int.tmod ((Int.tmod x2 12) + (x3 * (Z 102 x1))) 12))) + (Z 118 x2))) _
      rw [← eZ14]
      refine z0 (op := 11) (a := 3) (b := 1) (by rfl) (by rfl) (?_ : TZ d 232 131 [some (.inr 100), some (.inl x1), some (.inl x2), some (.inl (x3 + 1))] [] Z14 (zrv Q))
      refine z_goto (t := 70) (by rfl) (by rfl) (?_ : TZ d 232 70 [some (.inr 100), some (.inl x1), some (.inl x2), some (.inl (x3 + 1))] [] Z14 (zrv Q))
      exact v
theorem w232_142 {d : Nat} {x1 x2 : Int} {o3 : Option zV} {Z : zM} {Q : zM → Prop}
    (v : zR x2 ∧
      (108 ≤ x2 → TZ d 232 31 [some (.inr 100), some (.inl (x1 + 1)), some (.inl x2), o3] [] Z (zrv Q)) ∧
      (¬ 108 ≤ x2 → ((0 ≤ x2 ∧ x2 < 108) ∧
          (0 ≤ x2 ∧ x2 < 108) ∧
          ∀ Z5, Z5 = zup Z 118 x2 (Z 119 x2) →
          TZ d 232 142 [some (.inr 100), some (.inl x1), some (.inl (x2 + 1)), o3] [] Z5 (zrv Q)))) :
    TZ d 232 142 [some (.inr 100), some (.inl x1), some (.inl x2), o3] [] Z (zrv Q) := by
  refine z0 (op := 3) (a := 2) (b := 0) (by rfl) (by rfl) (?_ : TZ d 232 143 [some (.inr 100), some (.inl x1), some (.inl x2), o3] [.inl x2] Z (zrv Q))
  refine z0 (op := 1) (a := 0) (b := 108) (by rfl) (by rfl) (?_ : TZ d 232 145 [some (.inr 100), some (.inl x1), some (.inl x2), o3] [.inl 108, .inl x2] Z (zrv Q))
  obtain ⟨c1, v1, v2⟩ := v
  refine z_if2 (a := 3) (t := 166) (by rfl) (by rfl) c1 (by decide) (fun h2 => ?_) (fun h2 => ?_)
  · have v := v1 h2; clear v1 v2
    show TZ d 232 166 [some (.inr 100), some (.inl x1), some (.inl x2), o3] [] Z (zrv Q)
    refine z0 (op := 11) (a := 1) (b := 1) (by rfl) (by rfl) (?_ : TZ d 232 169 [some (.inr 100), some (.inl (x1 + 1)), some (.inl x2), o3] [] Z (zrv Q))
    refine z_goto (t := 31) (by rfl) (by rfl) (?_ : TZ d 232 31 [some (.inr 100), some (.inl (x1 + 1)), some (.inl x2), o3] [] Z (zrv Q))
    exact v
  · have v := v2 h2; clear v1 v2
    show TZ d 232 148 [some (.inr 100), some (.inl x1), some (.inl x2), o3] [] Z (zrv Q)
    refine z0 (op := 5) (a := 0) (b := 0) (by rfl) (by rfl) (?_ : TZ d 232 149 [some (.inr 100), some (.inl x1), some (.inl x2), o3] [.inr 100] Z (zrv Q))
    refine z_fr (by rfl) fr105_100 (?_ : TZ d 232 152 [some (.inr 100), some (.inl x1), some (.inl x2), o3] [.inr 118] Z (zrv Q))
    refine z0 (op := 3) (a := 2) (b := 0) (by rfl) (by rfl) (?_ : TZ d 232 153 [some (.inr 100), some (.inl x1), some (.inl x2), o3] [.inl x2, .inr 118] Z (zrv Q))
    refine z0 (op := 5) (a := 0) (b := 0) (by rfl) (by rfl) (?_ : TZ d 232 154 [some (.inr 100), some (.inl x1), some (.inl x2), o3] [.inr 100, .inl x2, .inr 118] Z (zrv Q))
    refine z_fr (by rfl) fr106_100 (?_ : TZ d 232 157 [some (.inr 100), some (.inl x1), some (.inl x2), o3] [.inr 119, .inl x2, .inr 118] Z (zrv Q))
    refine z0 (op := 3) (a := 2) (b := 0) (by rfl) (by rfl) (?_ : TZ d 232 158 [some (.inr 100), some (.inl x1), some (.inl x2), o3] [.inl x2, .inr 119, .inl x2, .inr 118] Z (zrv Q))
    obtain ⟨c3, v⟩ := v
    refine z_al (by rfl) ln_119 c3 (?_ : TZ d 232 159 [some (.inr 100), some (.inl x1), some (.inl x2), o3] [.inl (Z 119 x2), .inl x2, .inr 118] Z (zrv Q))
    obtain ⟨c4, v⟩ := v
    obtain ⟨Z5, eZ5⟩ : ∃ zz, zz = zup Z 118 x2 (Z 119 x2) := ⟨_, rfl⟩
    have v := v Z5 eZ5
    refine z_as (by rfl) ln_118 c4 ?_
    show TZ d 232 160 [some (.inr 100), some (.inl x1), some (.inl x2), o3] [] (zup Z 118 x2 (Z 119 x2)) _
    rw [← eZ5]
    refine z0 (op := 11) (a := 2) (b := 1) (by rfl) (by rfl) (?_ : TZ d 232 163 [some (.inr 100), some (.inl x1), some (.inl (x2 + 1)), o3] [] Z5 (zrv Q))
    refine z_goto (t := 142) (by rfl) (by rfl) (?_ : TZ d 232 142 [some (.inr 100), some (.inl x1), some (.inl (x2 + 1)), o3] [] Z5 (zrv Q))
    exact v
theorem w233_0 {d : Nat} {x1 : Int} {Z : zM} {Q : Int → zM → Prop}
    (v : TI d 155 [.inl x1, .inl 0, .inl 1] Z (fun r2 Z1 =>
      zR r2 ∧
        (r2 ≠ 0 → TV d 232 [.inr 100] Z1 (fun Z5 =>
            TZ (d + 1) 233 24 [some (.inr 100), some (.inl x1), some (.inl 0), some (.inl 0)] [] Z5 (zri Q))) ∧
        (¬ r2 ≠ 0 → TI d 154 [.inr 100, .inl (-2)] Z1 (fun r7 Z6 =>
            Q r7 Z6)))) :
    TZ (d + 1) 233 0 [some (.inr 100), some (.inl x1), none, none] [] Z (zri Q) := by
  refine z0 (op := 3) (a := 1) (b := 0) (by rfl) (by rfl) (?_ : TZ (d + 1) 233 1 [some (.inr 100), some (.inl x1), none, none] [.inl x1] Z (zri Q))
  refine z0 (op := 0) (a := 0) (b := 0) (by rfl) (by rfl) (?_ : TZ (d + 1) 233 2 [some (.inr 100), some (.inl x1), none, none] [.inl 0, .inl x1] Z (zri Q))
  refine z0 (op := 0) (a := 0) (b := 1) (by rfl) (by rfl) (?_ : TZ (d + 1) 233 3 [some (.inr 100), some (.inl x1), none, none] [.inl 1, .inl 0, .inl x1] Z (zri Q))
  refine z_si (by rfl) (by rfl) (TI.mono v fun r2 Z1 v => ?_)
  show TZ (d + 1) 233 6 [some (.inr 100), some (.inl x1), none, none] [.inl r2] Z1 (zri Q)
  obtain ⟨c3, v1, v2⟩ := v
  refine z_if0 (a := 1) (t := 16) (by rfl) (by rfl) c3 (fun h4 => ?_) (fun h4 => ?_)
  · have v := v1 h4; clear v1 v2
    show TZ (d + 1) 233 16 [some (.inr 100), some (.inl x1), none, none] [] Z1 (zri Q)
    refine z0 (op := 5) (a := 0) (b := 0) (by rfl) (by rfl) (?_ : TZ (d + 1) 233 17 [some (.inr 100), some (.inl x1), none, none] [.inr 100] Z1 (zri Q))
    refine z_vv (by rfl) (by rfl) cl_100 (TV.mono v fun Z5 v => ?_)
    show TZ (d + 1) 233 20 [some (.inr 100), some (.inl x1), none, none] [] Z5 (zri Q)
    refine z0 (op := 0) (a := 0) (b := 0) (by rfl) (by rfl) (?_ : TZ (d + 1) 233 21 [some (.inr 100), some (.inl x1), none, none] [.inl 0] Z5 (zri Q))
    refine z0 (op := 7) (a := 2) (b := 0) (by rfl) (by rfl) (?_ : TZ (d + 1) 233 22 [some (.inr 100), some (.inl x1), some (.inl 0), none] [] Z5 (zri Q))
    refine z0 (op := 0) (a := 0) (b := 0) (by rfl) (by rfl) (?_ : TZ (d + 1) 233 23 [some (.inr 100), some (.inl x1), some (.inl 0), none] [.inl 0] Z5 (zri Q))
    refine z0 (op := 7) (a := 3) (b := 0) (by rfl) (by rfl) (?_ : TZ (d + 1) 233 24 [some (.inr 100), some (.inl x1), some (.inl 0), some (.inl 0)] [] Z5 (zri Q))
    exact v
  · have v := v2 h4; clear v1 v2
    show TZ (d + 1) 233 9 [some (.inr 100), some (.inl x1), none, none] [] Z1 (zri Q)
    refine z0 (op := 5) (a := 0) (b := 0) (by rfl) (by rfl) (?_ : TZ (d + 1) 233 10 [some (.inr 100), some (.inl x1), none, none] [.inr 100] Z1 (zri Q))
    refine z0 (op := 1) (a := 0) (b := (-2)) (by rfl) (by rfl) (?_ : TZ (d + 1) 233 12 [some (.inr 100), some (.inl x1), none, none] [.inl (-2), .inr 100] Z1 (zri Q))
    refine z_vi (by rfl) (by rfl) cl_100 (TI.mono v fun r7 Z6 v => ?_)
    show TZ (d + 1) 233 15 [some (.inr 100), some (.inl x1), none, none] [.inl r7] Z6 (zri Q)
    exact z_reti (by rfl) (by rfl) v
theorem w233_24 {d : Nat} {x1 x2 x3 : Int} {Z : zM} {Q : Int → zM → Prop}
    (v : zR x3 ∧
      (12 ≤ x3 → (zR x1 ∧
          (x1 ≠ 0 → Q x2 Z) ∧
          (¬ x1 ≠ 0 → TI d 161 [.inr 100] Z (fun r6 Z5 =>
              (0 ≤ ((12 * (Z 100 5)) + r6) ∧ ((12 * (Z 100 5)) + r6) < 108) ∧ Q (Z5 118 ((12 * (Z 100 5)) + r6)) Z5)))) ∧
      (¬ 12 ≤ x3 → ((0 ≤ ((12 * (Z 100 5)) + x3) ∧ ((12 * (Z 100 5)) + x3) < 108) ∧
          zR (Z 118 ((12 * (Z 100 5)) + x3)) ∧
          ((Z 118 ((12 * (Z 100 5)) + x3)) ≤ 0 → TZ (d + 1) 233 24 [some (.inr 100), some (.inl x1), some (.inl (zbit 4 x2 0)), some (.inl (x3 + 1))] [] Z (zri Q)) ∧
          (¬ (Z 118 ((12 * (Z 100 5)) + x3)) ≤ 0 → TZ (d + 1) 233 24 [some (.inr 100), some (.inl x1), some (.inl (zbit 4 x2 (zbit 6 1 x3))), some (.inl (x3 + 1))] [] Z (zri Q))))) :
    TZ (d + 1) 233 24 [some (.inr 100), some (.inl x1), some (.inl x2), some (.inl x3)] [] Z (zri Q) := by
  refine z0 (op := 3) (a := 3) (b := 0) (by rfl) (by rfl) (?_ : TZ (d + 1) 233 25 [some (.inr 100), some (.inl x1), some (.inl x2), some (.inl x3)] [.inl x3] Z (zri Q))
  refine z0 (op := 1) (a := 0) (b := 12) (by rfl) (by rfl) (?_ : TZ (d + 1) 233 27 [some (.inr 100), some (.inl x1), some (.inl x2), some (.inl x3)] [.inl 12, .inl x3] Z (zri Q))
  obtain ⟨c1, v1, v2⟩ := v
  refine z_if2 (a := 3) (t := 63) (by rfl) (by rfl) c1 (by decide) (fun h2 => ?_) (fun h2 => ?_)
  · have v := v1 h2; clear v1 v2
    show TZ (d + 1) 233 63 [some (.inr 100), some (.inl x1), some (.inl x2), some (.inl x3)] [] Z (zri Q)
    refine z0 (op := 3) (a := 1) (b := 0) (by rfl) (by rfl) (?_ : TZ (d + 1) 233 64 [some (.inr 100), some (.inl x1), some (.inl x2), some (.inl x3)] [.inl x1] Z (zri Q))
    obtain ⟨c3, v1, v2⟩ := v
    refine z_if0 (a := 1) (t := 87) (by rfl) (by rfl) c3 (fun h4 => ?_) (fun h4 => ?_)
    · have v := v1 h4; clear v1 v2
      show TZ (d + 1) 233 87 [some (.inr 100), some (.inl x1), some (.inl x2), some (.inl x3)] [] Z (zri Q)
      refine z0 (op := 3) (a := 2) (b := 0) (by rfl) (by rfl) (?_ : TZ (d + 1) 233 88 [some (.inr 100), some (.inl x1), some (.inl x2), some (.inl x3)] [.inl x2] Z (zri Q))
      exact z_reti (by rfl) (by rfl) v
    · have v := v2 h4; clear v1 v2
      show TZ (d + 1) 233 67 [some (.inr 100), some (.inl x1), some (.inl x2), some (.inl x3)] [] Z (zri Q)
      refine z0 (op := 5) (a := 0) (b := 0) (by rfl) (by rfl) (?_ : TZ (d + 1) 233 68 [some (.inr 100), some (.inl x1), some (.inl x2), some (.inl x3)] [.inr 100] Z (zri Q))
      refine z_fr (by rfl) fr105_100 (?_ : TZ (d + 1) 233 71 [some (.inr 100), some (.inl x1), some (.inl x2), some (.inl x3)] [.inr 118] Z (zri Q))
      refine z0 (op := 1) (a := 0) (b := 12) (by rfl) (by rfl) (?_ : TZ (d + 1) 233 73 [some (.inr 100), some (.inl x1), some (.inl x2), some (.inl x3)] [.inl 12, .inr 118] Z (zri Q))
      refine z0 (op := 5) (a := 0) (b := 0) (by rfl) (by rfl) (?_ : TZ (d + 1) 233 74 [some (.inr 100), some (.inl x1), some (.inl x2), some (.inl x3)] [.inr 100, .inl 12, .inr 118] Z (zri Q))
      refine z_fi (by rfl) fi111_100 (?_ : TZ (d + 1) 233 77 [some (.inr 100), some (.inl x1), some (.inl x2), some (.inl x3)] [.inl (Z 100 5), .inl 12, .inr 118] Z (zri Q))
      refine z0 (op := 12) (a := 2) (b := 0) (by rfl) (by rfl) (?_ : TZ (d + 1) 233 78 [some (.inr 100), some (.inl x1), some (.inl x2), some (.inl x3)] [.inl (12 * (Z 100 5)), .inr 118] Z (zri Q))
      refine z0 (op := 5) (a := 0) (b := 0) (by rfl) (by rfl) (?_ : TZ (d + 1) 233 79 [some (.inr 100), some (.inl x1), some (.inl x2), some (.inl x3)] [.inr 100, .inl (12 * (Z 100 5)), .inr 118] Z (zri Q))
      refine z_vi (by rfl) (by rfl) cl_100 (TI.mono v fun r6 Z5 v => ?_)
      show TZ (d + 1) 233 82 [some (.inr 100), some (.inl x1), some (.inl x2), some (.inl x3)] [.inl r6, .inl (12 * (Z 100 5)), .inr 118] Z5 (zri Q)
      refine z0 (op := 12) (a := 0) (b := 0) (by rfl) (by rfl) (?_ : TZ (d + 1) 233 83 [some (.inr 100), some (.inl x1), some (.inl x2), some (.inl x3)] [.inl ((12 * (Z 100 5)) + r6), .inr 118] Z5 (zri Q))
      obtain ⟨c7, v⟩ := v
      refine z_al (by rfl) ln_118 c7 (?_ : TZ (d + 1) 233 84 [some (.inr 100), some (.inl x1), some (.inl x2), some (.inl x3)] [.inl (Z5 118 ((12 * (Z 100 5)) + r6))] Z5 (zri Q))
      refine z_goto (t := 88) (by rfl) (by rfl) (?_ : TZ (d + 1) 233 88 [some (.inr 100), some (.inl x1), some (.inl x2), some (.inl x3)] [.inl (Z5 118 ((12 * (Z 100 5)) + r6))] Z5 (zri Q))
      exact z_reti (by rfl) (by rfl) v
  · have v := v2 h2; clear v1 v2
    show TZ (d + 1) 233 30 [some (.inr 100), some (.inl x1), some (.inl x2), some (.inl x3)] [] Z (zri Q)
    refine z0 (op := 3) (a := 2) (b := 0) (by rfl) (by rfl) (?_ : TZ (d + 1) 233 31 [some (.inr 100), some (.inl x1), some (.inl x2), some (.inl x3)] [.inl x2] Z (zri Q))
    refine z0 (op := 5) (a := 0) (b := 0) (by rfl) (by rfl) (?_ : TZ (d + 1) 233 32 [some (.inr 100), some (.inl x1), some (.inl x2), some (.inl x3)] [.inr 100, .inl x2] Z (zri Q))
    refine z_fr (by rfl) fr105_100 (?_ : TZ (d + 1) 233 35 [some (.inr 100), some (.inl x1), some (.inl x2), some (.inl x3)] [.inr 118, .inl x2] Z (zri Q))
    refine z0 (op := 1) (a := 0) (b := 12) (by rfl) (by rfl) (?_ : TZ (d + 1) 233 37 [some (.inr 100), some (.inl x1), some (.inl x2), some (.inl x3)] [.inl 12, .inr 118, .inl x2] Z (zri Q))
    refine z0 (op := 5) (a := 0) (b := 0) (by rfl) (by rfl) (?_ : TZ (d + 1) 233 38 [some (.inr 100), some (.inl x1), some (.inl x2), some (.inl x3)] [.inr 100, .inl 12, .inr 118, .inl x2] Z (zri Q))
    refine z_fi (by rfl) fi111_100 (?_ : TZ (d + 1) 233 41 [some (.inr 100), some (.inl x1), some (.inl x2), some (.inl x3)] [.inl (Z 100 5), .inl 12, .inr 118, .inl x2] Z (zri Q))
    refine z0 (op := 12) (a := 2) (b := 0) (by rfl) (by rfl) (?_ : TZ (d + 1) 233 42 [some (.inr 100), some (.inl x1), some (.inl x2), some (.inl x3)] [.inl (12 * (Z 100 5)), .inr 118, .inl x2] Z (zri Q))
    refine z0 (op := 3) (a := 3) (b := 0) (by rfl) (by rfl) (?_ : TZ (d + 1) 233 43 [some (.inr 100), some (.inl x1), some (.inl x2), some (.inl x3)] [.inl x3, .inl (12 * (Z 100 5)), .inr 118, .inl x2] Z (zri Q))
    refine z0 (op := 12) (a := 0) (b := 0) (by rfl) (by rfl) (?_ : TZ (d + 1) 233 44 [some (.inr 100), some (.inl x1), some (.inl x2), some (.inl x3)] [.inl ((12 * (Z 100 5)) + x3), .inr 118, .inl x2] Z (zri Q))
    obtain ⟨c8, v⟩ := v
    refine z_al (by rfl) ln_118 c8 (?_ : TZ (d + 1) 233 45 [some (.inr 100), some (.inl x1), some (.inl x2), some (.inl x3)] [.inl (Z 118 ((12 * (Z 100 5)) + x3)), .inl x2] Z (zri Q))
    obtain ⟨c9, v1, v2⟩ := v
    refine z_if0 (a := 5) (t := 54) (by rfl) (by rfl) c9 (fun h10 => ?_) (fun h10 => ?_)
    · have v := v1 h10; clear v1 v2
      show TZ (d + 1) 233 54 [some (.inr 100), some (.inl x1), some (.inl x2), some (.inl x3)] [.inl x2] Z (zri Q)
      refine z0 (op := 0) (a := 0) (b := 0) (by rfl) (by rfl) (?_ : TZ (d + 1) 233 55 [some (.inr 100), some (.inl x1), some (.inl x2), some (.inl x3)] [.inl 0, .inl x2] Z (zri Q))
      refine z0 (op := 12) (a := 4) (b := 0) (by rfl) (by rfl) (?_ : TZ (d + 1) 233 56 [some (.inr 100), some (.inl x1), some (.inl x2), some (.inl x3)] [.inl (zbit 4 x2 0)] Z (zri Q))
      refine z0 (op := 7) (a := 2) (b := 0) (by rfl) (by rfl) (?_ : TZ (d + 1) 233 57 [some (.inr 100), some (.inl x1), some (.inl (zbit 4 x2 0)), some (.inl x3)] [] Z (zri Q))
      refine z0 (op := 11) (a := 3) (b := 1) (by rfl) (by rfl) (?_ : TZ (d + 1) 233 60 [some (.inr 100), some (.inl x1), some (.inl (zbit 4 x2 0)), some (.inl (x3 + 1))] [] Z (zri Q))
      refine z_goto (t := 24) (by rfl) (by rfl) (?_ : TZ (d + 1) 233 24 [some (.inr 100), some (.inl x1), some (.inl (zbit 4 x2 0)), some (.inl (x3 + 1))] [] Z (zri Q))
      exact v
    · have v := v2 h10; clear v1 v2
      show TZ (d + 1) 233 48 [some (.inr 100), some (.inl x1), some (.inl x2), some (.inl x3)] [.inl x2] Z (zri Q)
      refine z0 (op := 0) (a := 0) (b := 1) (by rfl) (by rfl) (?_ : TZ (d + 1) 233 49 [some (.inr 100), some (.inl x1), some (.inl x2), some (.inl x3)] [.inl 1, .inl x2] Z (zri Q))
      refine z0 (op := 3) (a := 3) (b := 0) (by rfl) (by rfl) (?_ : TZ (d + 1) 233 50 [some (.inr 100), some (.inl x1), some (.inl x2), some (.inl x3)] [.inl x3, .inl 1, .inl x2] Z (zri Q))
      refine z0 (op := 12) (a := 6) (b := 0) (by rfl) (by rfl) (?_ : TZ (d + 1) 233 51 [some (.inr 100), some (.inl x1), some (.inl x2), some (.inl x3)] [.inl (zbit 6 1 x3), .inl x2] Z (zri Q))
      refine z_goto (t := 55) (by rfl) (by rfl) (?_ : TZ (d + 1) 233 55 [some (.inr 100), some (.inl x1), some (.inl x2), some (.inl x3)] [.inl (zbit 6 1 x3), .inl x2] Z (zri Q))
      refine z0 (op := 12) (a := 4) (b := 0) (by rfl) (by rfl) (?_ : TZ (d + 1) 233 56 [some (.inr 100), some (.inl x1), some (.inl x2), some (.inl x3)] [.inl (zbit 4 x2 (zbit 6 1 x3))] Z (zri Q))
      refine z0 (op := 7) (a := 2) (b := 0) (by rfl) (by rfl) (?_ : TZ (d + 1) 233 57 [some (.inr 100), some (.inl x1), some (.inl (zbit 4 x2 (zbit 6 1 x3))), some (.inl x3)] [] Z (zri Q))
      refine z0 (op := 11) (a := 3) (b := 1) (by rfl) (by rfl) (?_ : TZ (d + 1) 233 60 [some (.inr 100), some (.inl x1), some (.inl (zbit 4 x2 (zbit 6 1 x3))), some (.inl (x3 + 1))] [] Z (zri Q))
      refine z_goto (t := 24) (by rfl) (by rfl) (?_ : TZ (d + 1) 233 24 [some (.inr 100), some (.inl x1), some (.inl (zbit 4 x2 (zbit 6 1 x3))), some (.inl (x3 + 1))] [] Z (zri Q))
      exact v
theorem w234_0 {d : Nat} {x1 : Int} {Z : zM} {Q : Int → zM → Prop}
    (v : TI d 156 [.inl x1, .inl 1, .inl 20] Z (fun r2 Z1 =>
      zR r2 ∧
        (r2 = 0 → TI d 210 [.inr 100, .inl x1] Z1 (fun r6 Z5 =>
            TZ (d + 1) 234 31 [some (.inr 100), some (.inl x1), some (.inl r2), some (.inl r6), some (.inl (-9)), some (.inl 0), none, none, none] [] Z5 (zri Q))) ∧
        (¬ r2 = 0 → TI d 154 [.inr 100, .inl r2] Z1 (fun r8 Z7 =>
            Q r8 Z7)))) :
    TZ (d + 1) 234 0 [some (.inr 100), some (.inl x1), none, none, none, none, none, none, none] [] Z (zri Q) := by
  refine z0 (op := 3) (a := 1) (b := 0) (by rfl) (by rfl) (?_ : TZ (d + 1) 234 1 [some (.inr 100), some (.inl x1), none, none, none, none, none, none, none] [.inl x1] Z (zri Q))
  refine z0 (op := 0) (a := 0) (b := 1) (by rfl) (by rfl) (?_ : TZ (d + 1) 234 2 [some (.inr 100), some (.inl x1), none, none, none, none, none, none, none] [.inl 1, .inl x1] Z (zri Q))
  refine z0 (op := 1) (a := 0) (b := 20) (by rfl) (by rfl) (?_ : TZ (d + 1) 234 4 [some (.inr 100), some (.inl x1), none, none, none, none, none, none, none] [.inl 20, .inl 1, .inl x1] Z (zri Q))
  refine z_si (by rfl) (by rfl) (TI.mono v fun r2 Z1 v => ?_)
  show TZ (d + 1) 234 7 [some (.inr 100), some (.inl x1), none, none, none, none, none, none, none] [.inl r2] Z1 (zri Q)
  refine z0 (op := 7) (a := 2) (b := 0) (by rfl) (by rfl) (?_ : TZ (d + 1) 234 8 [some (.inr 100), some (.inl x1), some (.inl r2), none, none, none, none, none, none] [] Z1 (zri Q))
  refine z0 (op := 3) (a := 2) (b := 0) (by rfl) (by rfl) (?_ : TZ (d + 1) 234 9 [some (.inr 100), some (.inl x1), some (.inl r2), none, none, none, none, none, none] [.inl r2] Z1 (zri Q))
  obtain ⟨c3, v1, v2⟩ := v
  refine z_if0 (a := 0) (t := 18) (by rfl) (by rfl) c3 (fun h4 => ?_) (fun h4 => ?_)
  · have v := v1 h4; clear v1 v2
    show TZ (d + 1) 234 18 [some (.inr 100), some (.inl x1), some (.inl r2), none, none, none, none, none, none] [] Z1 (zri Q)
    refine z0 (op := 5) (a := 0) (b := 0) (by rfl) (by rfl) (?_ : TZ (d + 1) 234 19 [some (.inr 100), some (.inl x1), some (.inl r2), none, none, none, none, none, none] [.inr 100] Z1 (zri Q))
    refine z0 (op := 3) (a := 1) (b := 0) (by rfl) (by rfl) (?_ : TZ (d + 1) 234 20 [some (.inr 100), some (.inl x1), some (.inl r2), none, none, none, none, none, none] [.inl x1, .inr 100] Z1 (zri Q))
    refine z_vi (by rfl) (by rfl) cl_100 (TI.mono v fun r6 Z5 v => ?_)
    show TZ (d + 1) 234 23 [some (.inr 100), some (.inl x1), some (.inl r2), none, none, none, none, none, none] [.inl r6] Z5 (zri Q)
    refine z0 (op := 7) (a := 3) (b := 0) (by rfl) (by rfl) (?_ : TZ (d + 1) 234 24 [some (.inr 100), some (.inl x1), some (.inl r2), some (.inl r6), none, none, none, none, none] [] Z5 (zri Q))
    refine z0 (op := 1) (a := 0) (b := (-9)) (by rfl) (by rfl) (?_ : TZ (d + 1) 234 26 [some (.inr 100), some (.inl x1), some (.inl r2), some (.inl r6), none, none, none, none, none] [.inl (-9)] Z5 (zri Q))
    refine z0 (op := 8) (a := 4) (b := 0) (by rfl) (by rfl) (?_ : TZ (d + 1) 234 28 [some (.inr 100), some (.inl x1), some (.inl r2), some (.inl r6), some (.inl (-9)), none, none, none, none] [] Z5 (zri Q))
    refine z0 (op := 0) (a := 0) (b := 0) (by rfl) (by rfl) (?_ : TZ (d + 1) 234 29 [some (.inr 100), some (.inl x1), some (.inl r2), some (.inl r6), some (.inl (-9)), none, none, none, none] [.inl 0] Z5 (zri Q))
    refine z0 (op := 8) (a := 5) (b := 0) (by rfl) (by rfl) (?_ : TZ (d + 1) 234 31 [some (.inr 100), some (.inl x1), some (.inl r2), some (.inl r6), some (.inl (-9)), some (.inl 0), none, none, none] [] Z5 (zri Q))
    exact v
  · have v := v2 h4; clear v1 v2
    show TZ (d + 1) 234 12 [some (.inr 100), some (.inl x1), some (.inl r2), none, none, none, none, none, none] [] Z1 (zri Q)
    refine z0 (op := 5) (a := 0) (b := 0) (by rfl) (by rfl) (?_ : TZ (d + 1) 234 13 [some (.inr 100), some (.inl x1), some (.inl r2), none, none, none, none, none, none] [.inr 100] Z1 (zri Q))
    refine z0 (op := 3) (a := 2) (b := 0) (by rfl) (by rfl) (?_ : TZ (d + 1) 234 14 [some (.inr 100), some (.inl x1), some (.inl r2), none, none, none, none, none, none] [.inl r2, .inr 100] Z1 (zri Q))
    refine z_vi (by rfl) (by rfl) cl_100 (TI.mono v fun r8 Z7 v => ?_)
    show TZ (d + 1) 234 17 [some (.inr 100), some (.inl x1), some (.inl r2), none, none, none, none, none, none] [.inl r8] Z7 (zri Q)
    exact z_reti (by rfl) (by rfl) v
theorem w234_31 {d : Nat} {x1 x2 x3 x4 x5 : Int} {o6 o7 o8 : Option zV} {Z : zM} {Q : Int → zM → Prop}
    (v : zR x5 ∧
      zR (Z 100 6) ∧
      ((Z 100 6) ≤ x5 → Q x4 Z) ∧
      (¬ (Z 100 6) ≤ x5 → ((0 ≤ x5 ∧ x5 < 6) ∧ TZ d 234 52 [some (.inr 100), some (.inl x1), some (.inl x2), some (.inl x3), some (.inl x4), some (.inl x5), some (.inl (Z 102 x5)), some (.inl 0), o8] [] Z (zri Q)))) :
    TZ d 234 31 [some (.inr 100), some (.inl x1), some (.inl x2), some (.inl x3), some (.inl x4), some (.inl x5), o6, o7, o8] [] Z (zri Q) := by
  refine z0 (op := 4) (a := 5) (b := 0) (by rfl) (by rfl) (?_ : TZ d 234 33 [some (.inr 100), some (.inl x1), some (.inl x2), some (.inl x3), some (.inl x4), some (.inl x5), o6, o7, o8] [.inl x5] Z (zri Q))
  refine z0 (op := 5) (a := 0) (b := 0) (by rfl) (by rfl) (?_ : TZ d 234 34 [some (.inr 100), some (.inl x1), some (.inl x2), some (.inl x3), some (.inl x4), some (.inl x5), o6, o7, o8] [.inr 100, .inl x5] Z (zri Q))
  refine z_fi (by rfl) fi110_100 (?_ : TZ d 234 37 [some (.inr 100), some (.inl x1), some (.inl x2), some (.inl x3), some (.inl x4), some (.inl x5), o6, o7, o8] [.inl (Z 100 6), .inl x5] Z (zri Q))
  obtain ⟨c1, c2, v1, v2⟩ := v
  refine z_if2 (a := 3) (t := 118) (by rfl) (by rfl) c1 c2 (fun h3 => ?_) (fun h3 => ?_)
  · have v := v1 h3; clear v1 v2
    show TZ d 234 118 [some (.inr 100), some (.inl x1), some (.inl x2), some (.inl x3), some (.inl x4), some (.inl x5), o6, o7, o8] [] Z (zri Q)
    refine z0 (op := 4) (a := 4) (b := 0) (by rfl) (by rfl) (?_ : TZ d 234 120 [some (.inr 100), some (.inl x1), some (.inl x2), some (.inl x3), some (.inl x4), some (.inl x5), o6, o7, o8] [.inl x4] Z (zri Q))
    exact z_reti (by rfl) (by rfl) v
  · have v := v2 h3; clear v1 v2
    show TZ d 234 40 [some (.inr 100), some (.inl x1), some (.inl x2), some (.inl x3), some (.inl x4), some (.inl x5), o6, o7, o8] [] Z (zri Q)
    refine z0 (op := 5) (a := 0) (b := 0) (by rfl) (by rfl) (?_ : TZ d 234 41 [some (.inr 100), some (.inl x1), some (.inl x2), some (.inl x3), some (.inl x4), some (.inl x5), o6, o7, o8] [.inr 100] Z (zri Q))
    refine z_fr (by rfl) fr89_100 (?_ : TZ d 234 44 [some (.inr 100), some (.inl x1), some (.inl x2), some (.inl x3), some (.inl x4), some (.inl x5), o6, o7, o8] [.inr 102] Z (zri Q))
    refine z0 (op := 4) (a := 5) (b := 0) (by rfl) (by rfl) (?_ : TZ d 234 46 [some (.inr 100), some (.inl x1), some (.inl x2), some (.inl x3), some (.inl x4), some (.inl x5), o6, o7, o8] [.inl x5, .inr 102] Z (zri Q))
    obtain ⟨c4, v⟩ := v
    refine z_al (by rfl) ln_102 c4 (?_ : TZ d 234 47 [some (.inr 100), some (.inl x1), some (.inl x2), some (.inl x3), some (.inl x4), some (.inl x5), o6, o7, o8] [.inl (Z 102 x5)] Z (zri Q))
    refine z0 (op := 8) (a := 6) (b := 0) (by rfl) (by rfl) (?_ : TZ d 234 49 [some (.inr 100), some (.inl x1), some (.inl x2), some (.inl x3), some (.inl x4), some (.inl x5), some (.inl (Z 102 x5)), o7, o8] [] Z (zri Q))
    refine z0 (op := 0) (a := 0) (b := 0) (by rfl) (by rfl) (?_ : TZ d 234 50 [some (.inr 100), some (.inl x1), some (.inl x2), some (.inl x3), some (.inl x4), some (.inl x5), some (.inl (Z 102 x5)), o7, o8] [.inl 0] Z (zri Q))
    refine z0 (op := 8) (a := 7) (b := 0) (by rfl) (by rfl) (?_ : TZ d 234 52 [some (.inr 100), some (.inl x1), some (.inl x2), some (.inl x3), some (.inl x4), some (.inl x5), some (.inl (Z 102 x5)), some (.inl 0), o8] [] Z (zri Q))
    exact v
theorem w234_52 {d : Nat} {x1 x2 x3 x4 x5 x6 x7 : Int} {o8 : Option zV} {Z : zM} {Q : Int → zM → Prop}
    (v : zR x7 ∧
      (12 ≤ x7 → TZ (d + 1) 234 31 [some (.inr 100), some (.inl x1), some (.inl x2), some (.inl x3), some (.inl x4), some (.inl (x5 + 1)), some (.inl x6), some (.inl x7), o8] [] Z (zri Q)) ∧
      (¬ 12 ≤ x7 → ((0 ≤ x5 ∧ x5 < 6) ∧
          ∀ Z4, Z4 = zup Z 102 x5 x7 →
          TI d 210 [.inr 100, .inl x1] Z4 (fun r6 Z5 =>
          (0 ≤ x5 ∧ x5 < 6) ∧
            ∀ Z8, Z8 = zup Z5 102 x5 x6 →
            zR r6 ∧
            zR x3 ∧
            (r6 < x3 → TZ (d + 1) 234 52 [some (.inr 100), some (.inl x1), some (.inl x2), some (.inl r6), some (.inl ((100 * x5) + x7)), some (.inl x5), some (.inl x6), some (.inl (x7 + 1)), some (.inl r6)] [] Z8 (zri Q)) ∧
            (¬ r6 < x3 → TZ (d + 1) 234 52 [some (.inr 100), some (.inl x1), some (.inl x2), some (.inl x3), some (.inl x4), some (.inl x5), some (.inl x6), some (.inl (x7 + 1)), some (.inl r6)] [] Z8 (zri Q)))))) :
    TZ (d + 1) 234 52 [some (.inr 100), some (.inl x1), some (.inl x2), some (.inl x3), some (.inl x4), some (.inl x5), some (.inl x6), some (.inl x7), o8] [] Z (zri Q) := by
  refine z0 (op := 4) (a := 7) (b := 0) (by rfl) (by rfl) (?_ : TZ (d + 1) 234 54 [some (.inr 100), some (.inl x1), some (.inl x2), some (.inl x3), some (.inl x4), some (.inl x5), some (.inl x6), some (.inl x7), o8] [.inl x7] Z (zri Q))
  refine z0 (op := 1) (a := 0) (b := 12) (by rfl) (by rfl) (?_ : TZ (d + 1) 234 56 [some (.inr 100), some (.inl x1), some (.inl x2), some (.inl x3), some (.inl x4), some (.inl x5), some (.inl x6), some (.inl x7), o8] [.inl 12, .inl x7] Z (zri Q))
  obtain ⟨c1, v1, v2⟩ := v
  refine z_if2 (a := 3) (t := 112) (by rfl) (by rfl) c1 (by decide) (fun h2 => ?_) (fun h2 => ?_)
  · have v := v1 h2; clear v1 v2
    show TZ (d + 1) 234 112 [some (.inr 100), some (.inl x1), some (.inl x2), some (.inl x3), some (.inl x4), some (.inl x5), some (.inl x6), some (.inl x7), o8] [] Z (zri Q)
    refine z0 (op := 11) (a := 5) (b := 1) (by rfl) (by rfl) (?_ : TZ (d + 1) 234 115 [some (.inr 100), some (.inl x1), some (.inl x2), some (.inl x3), some (.inl x4), some (.inl (x5 + 1)), some (.inl x6), some (.inl x7), o8] [] Z (zri Q))
    refine z_goto (t := 31) (by rfl) (by rfl) (?_ : TZ (d + 1) 234 31 [some (.inr 100), some (.inl x1), some (.inl x2), some (.inl x3), some (.inl x4), some (.inl (x5 + 1)), some (.inl x6), some (.inl x7), o8] [] Z (zri Q))
    exact v
  · have v := v2 h2; clear v1 v2
    show TZ (d + 1) 234 59 [some (.inr 100), some (.inl x1), some (.inl x2), some (.inl x3), some (.inl x4), some (.inl x5), some (.inl x6), some (.inl x7), o8] [] Z (zri Q)
    refine z0 (op := 5) (a := 0) (b := 0) (by rfl) (by rfl) (?_ : TZ (d + 1) 234 60 [some (.inr 100), some (.inl x1), some (.inl x2), some (.inl x3), some (.inl x4), some (.inl x5), some (.inl x6), some (.inl x7), o8] [.inr 100] Z (zri Q))
    refine z_fr (by rfl) fr89_100 (?_ : TZ (d + 1) 234 63 [some (.inr 100), some (.inl x1), some (.inl x2), some (.inl x3), some (.inl x4), some (.inl x5), some (.inl x6), some (.inl x7), o8] [.inr 102] Z (zri Q))
    refine z0 (op := 4) (a := 5) (b := 0) (by rfl) (by rfl) (?_ : TZ (d + 1) 234 65 [some (.inr 100), some (.inl x1), some (.inl x2), some (.inl x3), some (.inl x4), some (.inl x5), some (.inl x6), some (.inl x7), o8] [.inl x5, .inr 102] Z (zri Q))
    refine z0 (op := 4) (a := 7) (b := 0) (by rfl) (by rfl) (?_ : TZ (d + 1) 234 67 [some (.inr 100), some (.inl x1), some (.inl x2), some (.inl x3), some (.inl x4), some (.inl x5), some (.inl x6), some (.inl x7), o8] [.inl x7, .inl x5, .inr 102] Z (zri Q))
    obtain ⟨c3, v⟩ := v
    obtain ⟨Z4, eZ4⟩ : ∃ zz, zz = zup Z 102 x5 x7 := ⟨_, rfl⟩
    have v := v Z4 eZ4
    refine z_as (by rfl) ln_102 c3 ?_
    show TZ (d + 1) 234 68 [some (.inr 100), some (.inl x1), some (.inl x2), some (.inl x3), some (.inl x4), some (.inl x5), some (.inl x6), some (.inl x7), o8] [] (zup Z 102 x5 x7) _
    rw [← eZ4]
    refine z0 (op := 5) (a := 0) (b := 0) (by rfl) (by rfl) (?_ : TZ (d + 1) 234 69 [some (.inr 100), some (.inl x1), some (.inl x2), some (.inl x3), some (.inl x4), some (.inl x5), some (.inl x6), some (.inl x7), o8] [.inr 100] Z4 (zri Q))
    refine z0 (op := 3) (a := 1) (b := 0) (by rfl) (by rfl) (?_ : TZ (d + 1) 234 70 [some (.inr 100), some (.inl x1), some (.inl x2), some (.inl x3), some (.inl x4), some (.inl x5), some (.inl x6), some (.inl x7), o8] [.inl x1, .inr 100] Z4 (zri Q))
    refine z_vi (by rfl) (by rfl) cl_100 (TI.mono v fun r6 Z5 v => ?_)
    show TZ (d + 1) 234 73 [some (.inr 100), some (.inl x1), some (.inl x2), some (.inl x3), some (.inl x4), some (.inl x5), some (.inl x6), some (.inl x7), o8] [.inl r6] Z5 (zri Q)
    refine z0 (op := 8) (a := 8) (b := 0) (by rfl) (by rfl) (?_ : TZ (d + 1) 234 75 [some (.inr 100), some (.inl x1), some (.inl x2), some (.inl x3), some (.inl x4), some (.inl x5), some (.inl x6), some (.inl x7), some (.inl r6)] [] Z5 (zri Q))
    refine z0 (op := 5) (a := 0) (b := 0) (by rfl) (by rfl) (?_ : TZ (d + 1) 234 76 [some (.inr 100), some (.inl x1), some (.inl x2), some (.inl x3), some (.inl x4), some (.inl x5), some (.inl x6), some (.inl x7), some (.inl r6)] [.inr 100] Z5 (zri Q))
    refine z_fr (by rfl) fr89_100 (?_ : TZ (d + 1) 234 79 [some (.inr 100), some (.inl x1), some (.inl x2), some (.inl x3), some (.inl x4), some (.inl x5), some (.inl x6), some (.inl x7), some (.inl r6)] [.inr 102] Z5 (zri Q))
    refine z0 (op := 4) (a := 5) (b := 0) (by rfl) (by rfl) (?_ : TZ (d + 1) 234 81 [some (.inr 100), some (.inl x1), some (.inl x2), some (.inl x3), some (.inl x4), some (.inl x5), some (.inl x6), some (.inl x7), some (.inl r6)] [.inl x5, .inr 102] Z5 (zri Q))
    refine z0 (op := 4) (a := 6) (b := 0) (by rfl) (by rfl) (?_ : TZ (d + 1) 234 83 [some (.inr 100), some (.inl x1), some (.inl x2), some (.inl x3), some (.inl x4), some (.inl x5), some (.inl x6), some (.inl x7), some (.inl r6)] [.inl x6, .inl x5, .inr 102] Z5 (zri Q))
    obtain ⟨c7, v⟩ := v
    obtain ⟨Z8, eZ8⟩ : ∃ zz, zz = zup Z5 102 x5 x6 := ⟨_, rfl⟩
    have v := v Z8 eZ8
    refine z_as (by rfl) ln_102 c7 ?_
    show TZ (d + 1) 234 84 [some (.inr 100), some (.inl x1), some (.inl x2), some (.inl x3), some (.inl x4), some (.inl x5), some (.inl x6), some (.inl x7), some (.inl r6)] [] (zup Z5 102 x5 x6) _
    rw [← eZ8]
    refine z0 (op := 4) (a := 8) (b := 0) (by rfl) (by rfl) (?_ : TZ (d + 1) 234 86 [some (.inr 100), some (.inl x1), some (.inl x2), some (.inl x3), some (.inl x4), some (.inl x5), some (.inl x6), some (.inl x7), some (.inl r6)] [.inl r6] Z8 (zri Q))
    refine z0 (op := 3) (a := 3) (b := 0) (by rfl) (by rfl) (?_ : TZ (d + 1) 234 87 [some (.inr 100), some (.inl x1), some (.inl x2), some (.inl x3), some (.inl x4), some (.inl x5), some (.inl x6), some (.inl x7), some (.inl r6)] [.inl x3, .inl r6] Z8 (zri Q))
    obtain ⟨c9, c10, v1, v2⟩ := v
    refine z_if2 (a := 2) (t := 93) (by rfl) (by rfl) c9 c10 (fun h11 => ?_) (fun h11 => ?_)
    · have v := v1 h11; clear v1 v2
      show TZ (d + 1) 234 93 [some (.inr 100), some (.inl x1), some (.inl x2), some (.inl x3), some (.inl x4), some (.inl x5), some (.inl x6), some (.inl x7), some (.inl r6)] [] Z8 (zri Q)
      refine z0 (op := 1) (a := 0) (b := 100) (by rfl) (by rfl) (?_ : TZ (d + 1) 234 95 [some (.inr 100), some (.inl x1), some (.inl x2), some (.inl x3), some (.inl x4), some (.inl x5), some (.inl x6), some (.inl x7), some (.inl r6)] [.inl 100] Z8 (zri Q))
      refine z0 (op := 4) (a := 5) (b := 0) (by rfl) (by rfl) (?_ : TZ (d + 1) 234 97 [some (.inr 100), some (.inl x1), some (.inl x2), some (.inl x3), some (.inl x4), some (.inl x5), some (.inl x6), some (.inl x7), some (.inl r6)] [.inl x5, .inl 100] Z8 (zri Q))
      refine z0 (op := 12) (a := 2) (b := 0) (by rfl) (by rfl) (?_ : TZ (d + 1) 234 98 [some (.inr 100), some (.inl x1), some (.inl x2), some (.inl x3), some (.inl x4), some (.inl x5), some (.inl x6), some (.inl x7), some (.inl r6)] [.inl (100 * x5)] Z8 (zri Q))
      refine z0 (op := 4) (a := 7) (b := 0) (by rfl) (by rfl) (?_ : TZ (d + 1) 234 100 [some (.inr 100), some (.inl x1), some (.inl x2), some (.inl x3), some (.inl x4), some (.inl x5), some (.inl x6), some (.inl x7), some (.inl r6)] [.inl x7, .inl (100 * x5)] Z8 (zri Q))
      refine z0 (op := 12) (a := 0) (b := 0) (by rfl) (by rfl) (?_ : TZ (d + 1) 234 101 [some (.inr 100), some (.inl x1), some (.inl x2), some (.inl x3), some (.inl x4), some (.inl x5), some (.inl x6), some (.inl x7), some (.inl r6)] [.inl ((100 * x5) + x7)] Z8 (zri Q))
      refine z0 (op := 8) (a := 4) (b := 0) (by rfl) (by rfl) (?_ : TZ (d + 1) 234 103 [some (.inr 100), some (.inl x1), some (.inl x2), some (.inl x3), some (.inl ((100 * x5) + x7)), some (.inl x5), some (.inl x6), some (.inl x7), some (.inl r6)] [] Z8 (zri Q))
      refine z0 (op := 4) (a := 8) (b := 0) (by rfl) (by rfl) (?_ : TZ (d + 1) 234 105 [some (.inr 100), some (.inl x1), some (.inl x2), some (.inl x3), some (.inl ((100 * x5) + x7)), some (.inl x5), some (.inl x6), some (.inl x7), some (.inl r6)] [.inl r6] Z8 (zri Q))
      refine z0 (op := 7) (a := 3) (b := 0) (by rfl) (by rfl) (?_ : TZ (d + 1) 234 106 [some (.inr 100), some (.inl x1), some (.inl x2), some (.inl r6), some (.inl ((100 * x5) + x7)), some (.inl x5), some (.inl x6), some (.inl x7), some (.inl r6)] [] Z8 (zri Q))
      refine z0 (op := 11) (a := 7) (b := 1) (by rfl) (by rfl) (?_ : TZ (d + 1) 234 109 [some (.inr 100), some (.inl x1), some (.inl x2), some (.inl r6), some (.inl ((100 * x5) + x7)), some (.inl x5), some (.inl x6), some (.inl (x7 + 1)), some (.inl r6)] [] Z8 (zri Q))
      refine z_goto (t := 52) (by rfl) (by rfl) (?_ : TZ (d + 1) 234 52 [some (.inr 100), some (.inl x1), some (.inl x2), some (.inl r6), some (.inl ((100 * x5) + x7)), some (.inl x5), some (.inl x6), some (.inl (x7 + 1)), some (.inl r6)] [] Z8 (zri Q))
      exact v
    · have v := v2 h11; clear v1 v2
      show TZ (d + 1) 234 90 [some (.inr 100), some (.inl x1), some (.inl x2), some (.inl x3), some (.inl x4), some (.inl x5), some (.inl x6), some (.inl x7), some (.inl r6)] [] Z8 (zri Q)
      refine z_goto (t := 106) (by rfl) (by rfl) (?_ : TZ (d + 1) 234 106 [some (.inr 100), some (.inl x1), some (.inl x2), some (.inl x3), some (.inl x4), some (.inl x5), some (.inl x6), some (.inl x7), some (.inl r6)] [] Z8 (zri Q))
      refine z0 (op := 11) (a := 7) (b := 1) (by rfl) (by rfl) (?_ : TZ (d + 1) 234 109 [some (.inr 100), some (.inl x1), some (.inl x2), some (.inl x3), some (.inl x4), some (.inl x5), some (.inl x6), some (.inl (x7 + 1)), some (.inl r6)] [] Z8 (zri Q))
      refine z_goto (t := 52) (by rfl) (by rfl) (?_ : TZ (d + 1) 234 52 [some (.inr 100), some (.inl x1), some (.inl x2), some (.inl x3), some (.inl x4), some (.inl x5), some (.inl x6), some (.inl (x7 + 1)), some (.inl r6)] [] Z8 (zri Q))
      exact v
theorem w235_0 {d : Nat} {x1 x2 : Int} {Z : zM} {Q : Int → zM → Prop}
    (v : (0 ≤ x1 ∧ x1 < 8) ∧
      (0 ≤ x1 ∧ x1 < 8) ∧
      ∀ Z3, Z3 = zup Z 105 x1 x2 →
      TI d 162 [.inr 100] Z3 (fun r5 Z4 =>
      (0 ≤ x1 ∧ x1 < 8) ∧
        ∀ Z7, Z7 = zup Z4 105 x1 (Z 105 x1) →
        Q r5 Z7)) :
    TZ (d + 1) 235 0 [some (.inr 100), some (.inl x1), some (.inl x2), none, none] [] Z (zri Q) := by
  refine z0 (op := 5) (a := 0) (b := 0) (by rfl) (by rfl) (?_ : TZ (d + 1) 235 1 [some (.inr 100), some (.inl x1), some (.inl x2), none, none] [.inr 100] Z (zri Q))
  refine z_fr (by rfl) fr92_100 (?_ : TZ (d + 1) 235 4 [some (.inr 100), some (.inl x1), some (.inl x2), none, none] [.inr 105] Z (zri Q))
  refine z0 (op := 3) (a := 1) (b := 0) (by rfl) (by rfl) (?_ : TZ (d + 1) 235 5 [some (.inr 100), some (.inl x1), some (.inl x2), none, none] [.inl x1, .inr 105] Z (zri Q))
  obtain ⟨c1, v⟩ := v
  refine z_al (by rfl) ln_105 c1 (?_ : TZ (d + 1) 235 6 [some (.inr 100), some (.inl x1), some (.inl x2), none, none] [.inl (Z 105 x1)] Z (zri Q))
  refine z0 (op := 7) (a := 3) (b := 0) (by rfl) (by rfl) (?_ : TZ (d + 1) 235 7 [some (.inr 100), some (.inl x1), some (.inl x2), some (.inl (Z 105 x1)), none] [] Z (zri Q))
  refine z0 (op := 5) (a := 0) (b := 0) (by rfl) (by rfl) (?_ : TZ (d + 1) 235 8 [some (.inr 100), some (.inl x1), some (.inl x2), some (.inl (Z 105 x1)), none] [.inr 100] Z (zri Q))
  refine z_fr (by rfl) fr92_100 (?_ : TZ (d + 1) 235 11 [some (.inr 100), some (.inl x1), some (.inl x2), some (.inl (Z 105 x1)), none] [.inr 105] Z (zri Q))
  refine z0 (op := 3) (a := 1) (b := 0) (by rfl) (by rfl) (?_ : TZ (d + 1) 235 12 [some (.inr 100), some (.inl x1), some (.inl x2), some (.inl (Z 105 x1)), none] [.inl x1, .inr 105] Z (zri Q))
  refine z0 (op := 3) (a := 2) (b := 0) (by rfl) (by rfl) (?_ : TZ (d + 1) 235 13 [some (.inr 100), some (.inl x1), some (.inl x2), some (.inl (Z 105 x1)), none] [.inl x2, .inl x1, .inr 105] Z (zri Q))
  obtain ⟨c2, v⟩ := v
  obtain ⟨Z3, eZ3⟩ : ∃ zz, zz = zup Z 105 x1 x2 := ⟨_, rfl⟩
  have v := v Z3 eZ3
  refine z_as (by rfl) ln_105 c2 ?_
  show TZ (d + 1) 235 14 [some (.inr 100), some (.inl x1), some (.inl x2), some (.inl (Z 105 x1)), none] [] (zup Z 105 x1 x2) _
  rw [← eZ3]
  refine z0 (op := 5) (a := 0) (b := 0) (by rfl) (by rfl) (?_ : TZ (d + 1) 235 15 [some (.inr 100), some (.inl x1), some (.inl x2), some (.inl (Z 105 x1)), none] [.inr 100] Z3 (zri Q))
  refine z_vi (by rfl) (by rfl) cl_100 (TI.mono v fun r5 Z4 v => ?_)
  show TZ (d + 1) 235 18 [some (.inr 100), some (.inl x1), some (.inl x2), some (.inl (Z 105 x1)), none] [.inl r5] Z4 (zri Q)
  refine z0 (op := 8) (a := 4) (b := 0) (by rfl) (by rfl) (?_ : TZ (d + 1) 235 20 [some (.inr 100), some (.inl x1), some (.inl x2), some (.inl (Z 105 x1)), some (.inl r5)] [] Z4 (zri Q))
  refine z0 (op := 5) (a := 0) (b := 0) (by rfl) (by rfl) (?_ : TZ (d + 1) 235 21 [some (.inr 100), some (.inl x1), some (.inl x2), some (.inl (Z 105 x1)), some (.inl r5)] [.inr 100] Z4 (zri Q))
  refine z_fr (by rfl) fr92_100 (?_ : TZ (d + 1) 235 24 [some (.inr 100), some (.inl x1), some (.inl x2), some (.inl (Z 105 x1)), some (.inl r5)] [.inr 105] Z4 (zri Q))
  refine z0 (op := 3) (a := 1) (b := 0) (by rfl) (by rfl) (?_ : TZ (d + 1) 235 25 [some (.inr 100), some (.inl x1), some (.inl x2), some (.inl (Z 105 x1)), some (.inl r5)] [.inl x1, .inr 105] Z4 (zri Q))
  refine z0 (op := 3) (a := 3) (b := 0) (by rfl) (by rfl) (?_ : TZ (d + 1) 235 26 [some (.inr 100), some (.inl x1), some (.inl x2), some (.inl (Z 105 x1)), some (.inl r5)] [.inl (Z 105 x1), .inl x1, .inr 105] Z4 (zri Q))
  obtain ⟨c6, v⟩ := v
  obtain ⟨Z7, eZ7⟩ : ∃ zz, zz = zup Z4 105 x1 (Z 105 x1) := ⟨_, rfl⟩
  have v := v Z7 eZ7
  refine z_as (by rfl) ln_105 c6 ?_
  show TZ (d + 1) 235 27 [some (.inr 100), some (.inl x1), some (.inl x2), some (.inl (Z 105 x1)), some (.inl r5)] [] (zup Z4 105 x1 (Z 105 x1)) _
  rw [← eZ7]
  refine z0 (op := 4) (a := 4) (b := 0) (by rfl) (by rfl) (?_ : TZ (d + 1) 235 29 [some (.inr 100), some (.inl x1), some (.inl x2), some (.inl (Z 105 x1)), some (.inl r5)] [.inl r5] Z7 (zri Q))
  exact z_reti (by rfl) (by rfl) v
theorem w236_0 {d : Nat} {x1 x2 : Int} {Z : zM} {Q : Int → zM → Prop}
    (v : TI d 158 [.inr 100, .inl x1] Z (fun r2 Z1 =>
      zR r2 ∧
        (r2 ≠ 0 → TI d 155 [.inl x2, .inl 0, .inl 1] Z1 (fun r6 Z5 =>
            zR r6 ∧
              (r6 ≠ 0 → (zR x2 ∧
                  (x2 ≠ 1 → ((0 ≤ x1 ∧ x1 < 8) ∧ TZ (d + 1) 236 66 [some (.inr 100), some (.inl x1), some (.inl x2), some (.inl 0), some (.inl (Z5 105 x1)), some (.inl ((Z5 100 6) - 1))] [] Z5 (zri Q))) ∧
                  (¬ x2 ≠ 1 → TI d 235 [.inr 100, .inl x1, .inl (-1)] Z5 (fun r13 Z12 =>
                      Q r13 Z12)))) ∧
              (¬ r6 ≠ 0 → TI d 154 [.inr 100, .inl (-2)] Z5 (fun r15 Z14 =>
                  Q r15 Z14)))) ∧
        (¬ r2 ≠ 0 → TI d 154 [.inr 100, .inl (-1)] Z1 (fun r17 Z16 =>
            Q r17 Z16)))) :
    TZ (d + 1) 236 0 [some (.inr 100), some (.inl x1), some (.inl x2), none, none, none] [] Z (zri Q) := by
  refine z0 (op := 5) (a := 0) (b := 0) (by rfl) (by rfl) (?_ : TZ (d + 1) 236 1 [some (.inr 100), some (.inl x1), some (.inl x2), none, none, none] [.inr 100] Z (zri Q))
  refine z0 (op := 3) (a := 1) (b := 0) (by rfl) (by rfl) (?_ : TZ (d + 1) 236 2 [some (.inr 100), some (.inl x1), some (.inl x2), none, none, none] [.inl x1, .inr 100] Z (zri Q))
  refine z_vi (by rfl) (by rfl) cl_100 (TI.mono v fun r2 Z1 v => ?_)
  show TZ (d + 1) 236 5 [some (.inr 100), some (.inl x1), some (.inl x2), none, none, none] [.inl r2] Z1 (zri Q)
  obtain ⟨c3, v1, v2⟩ := v
  refine z_if0 (a := 1) (t := 12) (by rfl) (by rfl) c3 (fun h4 => ?_) (fun h4 => ?_)
  · have v := v1 h4; clear v1 v2
    show TZ (d + 1) 236 12 [some (.inr 100), some (.inl x1), some (.inl x2), none, none, none] [] Z1 (zri Q)
    refine z0 (op := 3) (a := 2) (b := 0) (by rfl) (by rfl) (?_ : TZ (d + 1) 236 13 [some (.inr 100), some (.inl x1), some (.inl x2), none, none, none] [.inl x2] Z1 (zri Q))
    refine z0 (op := 0) (a := 0) (b := 0) (by rfl) (by rfl) (?_ : TZ (d + 1) 236 14 [some (.inr 100), some (.inl x1), some (.inl x2), none, none, none] [.inl 0, .inl x2] Z1 (zri Q))
    refine z0 (op := 0) (a := 0) (b := 1) (by rfl) (by rfl) (?_ : TZ (d + 1) 236 15 [some (.inr 100), some (.inl x1), some (.inl x2), none, none, none] [.inl 1, .inl 0, .inl x2] Z1 (zri Q))
    refine z_si (by rfl) (by rfl) (TI.mono v fun r6 Z5 v => ?_)
    show TZ (d + 1) 236 18 [some (.inr 100), some (.inl x1), some (.inl x2), none, none, none] [.inl r6] Z5 (zri Q)
    obtain ⟨c7, v1, v2⟩ := v
    refine z_if0 (a := 1) (t := 26) (by rfl) (by rfl) c7 (fun h8 => ?_) (fun h8 => ?_)
    · have v := v1 h8; clear v1 v2
      show TZ (d + 1) 236 26 [some (.inr 100), some (.inl x1), some (.inl x2), none, none, none] [] Z5 (zri Q)
      refine z0 (op := 0) (a := 0) (b := 0) (by rfl) (by rfl) (?_ : TZ (d + 1) 236 27 [some (.inr 100), some (.inl x1), some (.inl x2), none, none, none] [.inl 0] Z5 (zri Q))
      refine z0 (op := 7) (a := 3) (b := 0) (by rfl) (by rfl) (?_ : TZ (d + 1) 236 28 [some (.inr 100), some (.inl x1), some (.inl x2), some (.inl 0), none, none] [] Z5 (zri Q))
      refine z0 (op := 3) (a := 3) (b := 0) (by rfl) (by rfl) (?_ : TZ (d + 1) 236 29 [some (.inr 100), some (.inl x1), some (.inl x2), some (.inl 0), none, none] [.inl 0] Z5 (zri Q))
      refine z_if0 (a := 0) (t := 38) (by rfl) (by rfl) (by decide) (fun _ => ?_) (fun h => absurd (show (0 : Int) = (0 : Int) by decide) h)
      show TZ (d + 1) 236 38 [some (.inr 100), some (.inl x1), some (.inl x2), some (.inl 0), none, none] [] Z5 (zri Q)
      refine z0 (op := 3) (a := 2) (b := 0) (by rfl) (by rfl) (?_ : TZ (d + 1) 236 39 [some (.inr 100), some (.inl x1), some (.inl x2), some (.inl 0), none, none] [.inl x2] Z5 (zri Q))
      refine z0 (op := 0) (a := 0) (b := 1) (by rfl) (by rfl) (?_ : TZ (d + 1) 236 40 [some (.inr 100), some (.inl x1), some (.inl x2), some (.inl 0), none, none] [.inl 1, .inl x2] Z5 (zri Q))
      obtain ⟨c9, v1, v2⟩ := v
      refine z_if2 (a := 1) (t := 50) (by rfl) (by rfl) c9 (by decide) (fun h10 => ?_) (fun h10 => ?_)
      · have v := v1 h10; clear v1 v2
        show TZ (d + 1) 236 50 [some (.inr 100), some (.inl x1), some (.inl x2), some (.inl 0), none, none] [] Z5 (zri Q)
        refine z0 (op := 5) (a := 0) (b := 0) (by rfl) (by rfl) (?_ : TZ (d + 1) 236 51 [some (.inr 100), some (.inl x1), some (.inl x2), some (.inl 0), none, none] [.inr 100] Z5 (zri Q))
        refine z_fr (by rfl) fr92_100 (?_ : TZ (d + 1) 236 54 [some (.inr 100), some (.inl x1), some (.inl x2), some (.inl 0), none, none] [.inr 105] Z5 (zri Q))
        refine z0 (op := 3) (a := 1) (b := 0) (by rfl) (by rfl) (?_ : TZ (d + 1) 236 55 [some (.inr 100), some (.inl x1), some (.inl x2), some (.inl 0), none, none] [.inl x1, .inr 105] Z5 (zri Q))
        obtain ⟨c11, v⟩ := v
        refine z_al (by rfl) ln_105 c11 (?_ : TZ (d + 1) 236 56 [some (.inr 100), some (.inl x1), some (.inl x2), some (.inl 0), none, none] [.inl (Z5 105 x1)] Z5 (zri Q))
        refine z0 (op := 8) (a := 4) (b := 0) (by rfl) (by rfl) (?_ : TZ (d + 1) 236 58 [some (.inr 100), some (.inl x1), some (.inl x2), some (.inl 0), some (.inl (Z5 105 x1)), none] [] Z5 (zri Q))
        refine z0 (op := 5) (a := 0) (b := 0) (by rfl) (by rfl) (?_ : TZ (d + 1) 236 59 [some (.inr 100), some (.inl x1), some (.inl x2), some (.inl 0), some (.inl (Z5 105 x1)), none] [.inr 100] Z5 (zri Q))
        refine z_fi (by rfl) fi110_100 (?_ : TZ (d + 1) 236 62 [some (.inr 100), some (.inl x1), some (.inl x2), some (.inl 0), some (.inl (Z5 105 x1)), none] [.inl (Z5 100 6)] Z5 (zri Q))
        refine z0 (op := 0) (a := 0) (b := 1) (by rfl) (by rfl) (?_ : TZ (d + 1) 236 63 [some (.inr 100), some (.inl x1), some (.inl x2), some (.inl 0), some (.inl (Z5 105 x1)), none] [.inl 1, .inl (Z5 100 6)] Z5 (zri Q))
        refine z0 (op := 12) (a := 1) (b := 0) (by rfl) (by rfl) (?_ : TZ (d + 1) 236 64 [some (.inr 100), some (.inl x1), some (.inl x2), some (.inl 0), some (.inl (Z5 105 x1)), none] [.inl ((Z5 100 6) - 1)] Z5 (zri Q))
        refine z0 (op := 8) (a := 5) (b := 0) (by rfl) (by rfl) (?_ : TZ (d + 1) 236 66 [some (.inr 100), some (.inl x1), some (.inl x2), some (.inl 0), some (.inl (Z5 105 x1)), some (.inl ((Z5 100 6) - 1))] [] Z5 (zri Q))
        exact v
      · have v := v2 h10; clear v1 v2
        show TZ (d + 1) 236 43 [some (.inr 100), some (.inl x1), some (.inl x2), some (.inl 0), none, none] [] Z5 (zri Q)
        refine z0 (op := 5) (a := 0) (b := 0) (by rfl) (by rfl) (?_ : TZ (d + 1) 236 44 [some (.inr 100), some (.inl x1), some (.inl x2), some (.inl 0), none, none] [.inr 100] Z5 (zri Q))
        refine z0 (op := 3) (a := 1) (b := 0) (by rfl) (by rfl) (?_ : TZ (d + 1) 236 45 [some (.inr 100), some (.inl x1), some (.inl x2), some (.inl 0), none, none] [.inl x1, .inr 100] Z5 (zri Q))
        refine z0 (op := 0) (a := 0) (b := (-1)) (by rfl) (by rfl) (?_ : TZ (d + 1) 236 46 [some (.inr 100), some (.inl x1), some (.inl x2), some (.inl 0), none, none] [.inl (-1), .inl x1, .inr 100] Z5 (zri Q))
        refine z_vi (by rfl) (by rfl) cl_100 (TI.mono v fun r13 Z12 v => ?_)
        show TZ (d + 1) 236 49 [some (.inr 100), some (.inl x1), some (.inl x2), some (.inl 0), none, none] [.inl r13] Z12 (zri Q)
        exact z_reti (by rfl) (by rfl) v
    · have v := v2 h8; clear v1 v2
      show TZ (d + 1) 236 21 [some (.inr 100), some (.inl x1), some (.inl x2), none, none, none] [] Z5 (zri Q)
      refine z0 (op := 1) (a := 0) (b := (-2)) (by rfl) (by rfl) (?_ : TZ (d + 1) 236 23 [some (.inr 100), some (.inl x1), some (.inl x2), none, none, none] [.inl (-2)] Z5 (zri Q))
      refine z_goto (t := 27) (by rfl) (by rfl) (?_ : TZ (d + 1) 236 27 [some (.inr 100), some (.inl x1), some (.inl x2), none, none, none] [.inl (-2)] Z5 (zri Q))
      refine z0 (op := 7) (a := 3) (b := 0) (by rfl) (by rfl) (?_ : TZ (d + 1) 236 28 [some (.inr 100), some (.inl x1), some (.inl x2), some (.inl (-2)), none, none] [] Z5 (zri Q))
      refine z0 (op := 3) (a := 3) (b := 0) (by rfl) (by rfl) (?_ : TZ (d + 1) 236 29 [some (.inr 100), some (.inl x1), some (.inl x2), some (.inl (-2)), none, none] [.inl (-2)] Z5 (zri Q))
      refine z_if0 (a := 0) (t := 38) (by rfl) (by rfl) (by decide) (fun h => absurd (show ((-2) : Int) = (0 : Int) from h) (by decide)) (fun _ => ?_)
      show TZ (d + 1) 236 32 [some (.inr 100), some (.inl x1), some (.inl x2), some (.inl (-2)), none, none] [] Z5 (zri Q)
      refine z0 (op := 5) (a := 0) (b := 0) (by rfl) (by rfl) (?_ : TZ (d + 1) 236 33 [some (.inr 100), some (.inl x1), some (.inl x2), some (.inl (-2)), none, none] [.inr 100] Z5 (zri Q))
      refine z0 (op := 3) (a := 3) (b := 0) (by rfl) (by rfl) (?_ : TZ (d + 1) 236 34 [some (.inr 100), some (.inl x1), some (.inl x2), some (.inl (-2)), none, none] [.inl (-2), .inr 100] Z5 (zri Q))
      refine z_vi (by rfl) (by rfl) cl_100 (TI.mono v fun r15 Z14 v => ?_)
      show TZ (d + 1) 236 37 [some (.inr 100), some (.inl x1), some (.inl x2), some (.inl (-2)), none, none] [.inl r15] Z14 (zri Q)
      exact z_reti (by rfl) (by rfl) v
  · have v := v2 h4; clear v1 v2
    show TZ (d + 1) 236 8 [some (.inr 100), some (.inl x1), some (.inl x2), none, none, none] [] Z1 (zri Q)
    refine z0 (op := 0) (a := 0) (b := (-1)) (by rfl) (by rfl) (?_ : TZ (d + 1) 236 9 [some (.inr 100), some (.inl x1), some (.inl x2), none, none, none] [.inl (-1)] Z1 (zri Q))
    refine z_goto (t := 27) (by rfl) (by rfl) (?_ : TZ (d + 1) 236 27 [some (.inr 100), some (.inl x1), some (.inl x2), none, none, none] [.inl (-1)] Z1 (zri Q))
    refine z0 (op := 7) (a := 3) (b := 0) (by rfl) (by rfl) (?_ : TZ (d + 1) 236 28 [some (.inr 100), some (.inl x1), some (.inl x2), some (.inl (-1)), none, none] [] Z1 (zri Q))
    refine z0 (op := 3) (a := 3) (b := 0) (by rfl) (by rfl) (?_ : TZ (d + 1) 236 29 [some (.inr 100), some (.inl x1), some (.inl x2), some (.inl (-1)), none, none] [.inl (-1)] Z1 (zri Q))
    refine z_if0 (a := 0) (t := 38) (by rfl) (by rfl) (by decide) (fun h => absurd (show ((-1) : Int) = (0 : Int) from h) (by decide)) (fun _ => ?_)
    show TZ (d + 1) 236 32 [some (.inr 100), some (.inl x1), some (.inl x2), some (.inl (-1)), none, none] [] Z1 (zri Q)
    refine z0 (op := 5) (a := 0) (b := 0) (by rfl) (by rfl) (?_ : TZ (d + 1) 236 33 [some (.inr 100), some (.inl x1), some (.inl x2), some (.inl (-1)), none, none] [.inr 100] Z1 (zri Q))
    refine z0 (op := 3) (a := 3) (b := 0) (by rfl) (by rfl) (?_ : TZ (d + 1) 236 34 [some (.inr 100), some (.inl x1), some (.inl x2), some (.inl (-1)), none, none] [.inl (-1), .inr 100] Z1 (zri Q))
    refine z_vi (by rfl) (by rfl) cl_100 (TI.mono v fun r17 Z16 v => ?_)
    show TZ (d + 1) 236 37 [some (.inr 100), some (.inl x1), some (.inl x2), some (.inl (-1)), none, none] [.inl r17] Z16 (zri Q)
    exact z_reti (by rfl) (by rfl) v
theorem w236_66 {d : Nat} {x1 x2 x3 x4 x5 : Int} {Z : zM} {Q : Int → zM → Prop}
    (v : zR x5 ∧
      (x5 < 0 → Q x4 Z) ∧
      (¬ x5 < 0 → ((0 ≤ x1 ∧ x1 < 8) ∧
          zR x5 ∧
          zR (Z 105 x1) ∧
          (x5 = (Z 105 x1) → TI d 235 [.inr 100, .inl x1, .inl x5] Z (fun r8 Z7 =>
              TI d 235 [.inr 100, .inl x1, .inl x4] Z7 (fun r10 Z9 =>
                zR r8 ∧
                  zR r10 ∧
                  (r10 < r8 → TZ (d + 1) 236 66 [some (.inr 100), some (.inl x1), some (.inl x2), some (.inl x3), some (.inl x4), some (.inl (x5 + (-1)))] [] Z9 (zri Q)) ∧
                  (¬ r10 < r8 → TZ (d + 1) 236 66 [some (.inr 100), some (.inl x1), some (.inl x2), some (.inl x3), some (.inl x5), some (.inl (x5 + (-1)))] [] Z9 (zri Q))))) ∧
          (¬ x5 = (Z 105 x1) → TI d 160 [.inr 100, .inl x5] Z (fun r15 Z14 =>
              zR r15 ∧
                (r15 = 0 → TZ (d + 1) 236 66 [some (.inr 100), some (.inl x1), some (.inl x2), some (.inl x3), some (.inl x4), some (.inl (x5 + (-1)))] [] Z14 (zri Q)) ∧
                (¬ r15 = 0 → TI d 235 [.inr 100, .inl x1, .inl x5] Z14 (fun r19 Z18 =>
                    TI d 235 [.inr 100, .inl x1, .inl x4] Z18 (fun r21 Z20 =>
                      zR r19 ∧
                        zR r21 ∧
                        (r21 < r19 → TZ (d + 1) 236 66 [some (.inr 100), some (.inl x1), some (.inl x2), some (.inl x3), some (.inl x4), some (.inl (x5 + (-1)))] [] Z20 (zri Q)) ∧
                        (¬ r21 < r19 → TZ (d + 1) 236 66 [some (.inr 100), some (.inl x1), some (.inl x2), some (.inl x3), some (.inl x5), some (.inl (x5 + (-1)))] [] Z20 (zri Q)))))))))) :
    TZ (d + 1) 236 66 [some (.inr 100), some (.inl x1), some (.inl x2), some (.inl x3), some (.inl x4), some (.inl x5)] [] Z (zri Q) := by
  refine z0 (op := 4) (a := 5) (b := 0) (by rfl) (by rfl) (?_ : TZ (d + 1) 236 68 [some (.inr 100), some (.inl x1), some (.inl x2), some (.inl x3), some (.inl x4), some (.inl x5)] [.inl x5] Z (zri Q))
  obtain ⟨c1, v1, v2⟩ := v
  refine z_if0 (a := 2) (t := 118) (by rfl) (by rfl) c1 (fun h2 => ?_) (fun h2 => ?_)
  · have v := v1 h2; clear v1 v2
    show TZ (d + 1) 236 118 [some (.inr 100), some (.inl x1), some (.inl x2), some (.inl x3), some (.inl x4), some (.inl x5)] [] Z (zri Q)
    refine z0 (op := 4) (a := 4) (b := 0) (by rfl) (by rfl) (?_ : TZ (d + 1) 236 120 [some (.inr 100), some (.inl x1), some (.inl x2), some (.inl x3), some (.inl x4), some (.inl x5)] [.inl x4] Z (zri Q))
    exact z_reti (by rfl) (by rfl) v
  · have v := v2 h2; clear v1 v2
    show TZ (d + 1) 236 71 [some (.inr 100), some (.inl x1), some (.inl x2), some (.inl x3), some (.inl x4), some (.inl x5)] [] Z (zri Q)
    refine z0 (op := 4) (a := 5) (b := 0) (by rfl) (by rfl) (?_ : TZ (d + 1) 236 73 [some (.inr 100), some (.inl x1), some (.inl x2), some (.inl x3), some (.inl x4), some (.inl x5)] [.inl x5] Z (zri Q))
    refine z0 (op := 5) (a := 0) (b := 0) (by rfl) (by rfl) (?_ : TZ (d + 1) 236 74 [some (.inr 100), some (.inl x1), some (.inl x2), some (.inl x3), some (.inl x4), some (.inl x5)] [.inr 100, .inl x5] Z (zri Q))
    refine z_fr (by rfl) fr92_100 (?_ : TZ (d + 1) 236 77 [some (.inr 100), some (.inl x1), some (.inl x2), some (.inl x3), some (.inl x4), some (.inl x5)] [.inr 105, .inl x5] Z (zri Q))
    refine z0 (op := 3) (a := 1) (b := 0) (by rfl) (by rfl) (?_ : TZ (d + 1) 236 78 [some (.inr 100), some (.inl x1), some (.inl x2), some (.inl x3), some (.inl x4), some (.inl x5)] [.inl x1, .inr 105, .inl x5] Z (zri Q))
    obtain ⟨c3, v⟩ := v
    refine z_al (by rfl) ln_105 c3 (?_ : TZ (d + 1) 236 79 [some (.inr 100), some (.inl x1), some (.inl x2), some (.inl x3), some (.inl x4), some (.inl x5)] [.inl (Z 105 x1), .inl x5] Z (zri Q))
    obtain ⟨c4, c5, v1, v2⟩ := v
    refine z_if2 (a := 0) (t := 91) (by rfl) (by rfl) c4 c5 (fun h6 => ?_) (fun h6 => ?_)
    · have v := v1 h6; clear v1 v2
      show TZ (d + 1) 236 91 [some (.inr 100), some (.inl x1), some (.inl x2), some (.inl x3), some (.inl x4), some (.inl x5)] [] Z (zri Q)
      refine z0 (op := 5) (a := 0) (b := 0) (by rfl) (by rfl) (?_ : TZ (d + 1) 236 92 [some (.inr 100), some (.inl x1), some (.inl x2), some (.inl x3), some (.inl x4), some (.inl x5)] [.inr 100] Z (zri Q))
      refine z0 (op := 3) (a := 1) (b := 0) (by rfl) (by rfl) (?_ : TZ (d + 1) 236 93 [some (.inr 100), some (.inl x1), some (.inl x2), some (.inl x3), some (.inl x4), some (.inl x5)] [.inl x1, .inr 100] Z (zri Q))
      refine z0 (op := 4) (a := 5) (b := 0) (by rfl) (by rfl) (?_ : TZ (d + 1) 236 95 [some (.inr 100), some (.inl x1), some (.inl x2), some (.inl x3), some (.inl x4), some (.inl x5)] [.inl x5, .inl x1, .inr 100] Z (zri Q))
      refine z_vi (by rfl) (by rfl) cl_100 (TI.mono v fun r8 Z7 v => ?_)
      show TZ (d + 1) 236 98 [some (.inr 100), some (.inl x1), some (.inl x2), some (.inl x3), some (.inl x4), some (.inl x5)] [.inl r8] Z7 (zri Q)
      refine z0 (op := 5) (a := 0) (b := 0) (by rfl) (by rfl) (?_ : TZ (d + 1) 236 99 [some (.inr 100), some (.inl x1), some (.inl x2), some (.inl x3), some (.inl x4), some (.inl x5)] [.inr 100, .inl r8] Z7 (zri Q))
      refine z0 (op := 3) (a := 1) (b := 0) (by rfl) (by rfl) (?_ : TZ (d + 1) 236 100 [some (.inr 100), some (.inl x1), some (.inl x2), some (.inl x3), some (.inl x4), some (.inl x5)] [.inl x1, .inr 100, .inl r8] Z7 (zri Q))
      refine z0 (op := 4) (a := 4) (b := 0) (by rfl) (by rfl) (?_ : TZ (d + 1) 236 102 [some (.inr 100), some (.inl x1), some (.inl x2), some (.inl x3), some (.inl x4), some (.inl x5)] [.inl x4, .inl x1, .inr 100, .inl r8] Z7 (zri Q))
      refine z_vi (by rfl) (by rfl) cl_100 (TI.mono v fun r10 Z9 v => ?_)
      show TZ (d + 1) 236 105 [some (.inr 100), some (.inl x1), some (.inl x2), some (.inl x3), some (.inl x4), some (.inl x5)] [.inl r10, .inl r8] Z9 (zri Q)
      obtain ⟨c11, c12, v1, v2⟩ := v
      refine z_if2 (a := 4) (t := 112) (by rfl) (by rfl) c11 c12 (fun h13 => ?_) (fun h13 => ?_)
      · have v := v1 h13; clear v1 v2
        show TZ (d + 1) 236 112 [some (.inr 100), some (.inl x1), some (.inl x2), some (.inl x3), some (.inl x4), some (.inl x5)] [] Z9 (zri Q)
        refine z0 (op := 11) (a := 5) (b := (-1)) (by rfl) (by rfl) (?_ : TZ (d + 1) 236 115 [some (.inr 100), some (.inl x1), some (.inl x2), some (.inl x3), some (.inl x4), some (.inl (x5 + (-1)))] [] Z9 (zri Q))
        refine z_goto (t := 66) (by rfl) (by rfl) (?_ : TZ (d + 1) 236 66 [some (.inr 100), some (.inl x1), some (.inl x2), some (.inl x3), some (.inl x4), some (.inl (x5 + (-1)))] [] Z9 (zri Q))
        exact v
      · have v := v2 h13; clear v1 v2
        show TZ (d + 1) 236 108 [some (.inr 100), some (.inl x1), some (.inl x2), some (.inl x3), some (.inl x4), some (.inl x5)] [] Z9 (zri Q)
        refine z0 (op := 4) (a := 5) (b := 0) (by rfl) (by rfl) (?_ : TZ (d + 1) 236 110 [some (.inr 100), some (.inl x1), some (.inl x2), some (.inl x3), some (.inl x4), some (.inl x5)] [.inl x5] Z9 (zri Q))
        refine z0 (op := 8) (a := 4) (b := 0) (by rfl) (by rfl) (?_ : TZ (d + 1) 236 112 [some (.inr 100), some (.inl x1), some (.inl x2), some (.inl x3), some (.inl x5), some (.inl x5)] [] Z9 (zri Q))
        refine z0 (op := 11) (a := 5) (b := (-1)) (by rfl) (by rfl) (?_ : TZ (d + 1) 236 115 [some (.inr 100), some (.inl x1), some (.inl x2), some (.inl x3), some (.inl x5), some (.inl (x5 + (-1)))] [] Z9 (zri Q))
        refine z_goto (t := 66) (by rfl) (by rfl) (?_ : TZ (d + 1) 236 66 [some (.inr 100), some (.inl x1), some (.inl x2), some (.inl x3), some (.inl x5), some (.inl (x5 + (-1)))] [] Z9 (zri Q))
        exact v
    · have v := v2 h6; clear v1 v2
      show TZ (d + 1) 236 82 [some (.inr 100), some (.inl x1), some (.inl x2), some (.inl x3), some (.inl x4), some (.inl x5)] [] Z (zri Q)
      refine z0 (op := 5) (a := 0) (b := 0) (by rfl) (by rfl) (?_ : TZ (d + 1) 236 83 [some (.inr 100), some (.inl x1), some (.inl x2), some (.inl x3), some (.inl x4), some (.inl x5)] [.inr 100] Z (zri Q))
      refine z0 (op := 4) (a := 5) (b := 0) (by rfl) (by rfl) (?_ : TZ (d + 1) 236 85 [some (.inr 100), some (.inl x1), some (.inl x2), some (.inl x3), some (.inl x4), some (.inl x5)] [.inl x5, .inr 100] Z (zri Q))
      refine z_vi (by rfl) (by rfl) cl_100 (TI.mono v fun r15 Z14 v => ?_)
      show TZ (d + 1) 236 88 [some (.inr 100), some (.inl x1), some (.inl x2), some (.inl x3), some (.inl x4), some (.inl x5)] [.inl r15] Z14 (zri Q)
      obtain ⟨c16, v1, v2⟩ := v
      refine z_if0 (a := 0) (t := 112) (by rfl) (by rfl) c16 (fun h17 => ?_) (fun h17 => ?_)
      · have v := v1 h17; clear v1 v2
        show TZ (d + 1) 236 112 [some (.inr 100), some (.inl x1), some (.inl x2), some (.inl x3), some (.inl x4), some (.inl x5)] [] Z14 (zri Q)
        refine z0 (op := 11) (a := 5) (b := (-1)) (by rfl) (by rfl) (?_ : TZ (d + 1) 236 115 [some (.inr 100), some (.inl x1), some (.inl x2), some (.inl x3), some (.inl x4), some (.inl (x5 + (-1)))] [] Z14 (zri Q))
        refine z_goto (t := 66) (by rfl) (by rfl) (?_ : TZ (d + 1) 236 66 [some (.inr 100), some (.inl x1), some (.inl x2), some (.inl x3), some (.inl x4), some (.inl (x5 + (-1)))] [] Z14 (zri Q))
        exact v
      · have v := v2 h17; clear v1 v2
        show TZ (d + 1) 236 91 [some (.inr 100), some (.inl x1), some (.inl x2), some (.inl x3), some (.inl x4), some (.inl x5)] [] Z14 (zri Q)
        refine z0 (op := 5) (a := 0) (b := 0) (by rfl) (by rfl) (?_ : TZ (d + 1) 236 92 [some (.inr 100), some (.inl x1), some (.inl x2), some (.inl x3), some (.inl x4), some (.inl x5)] [.inr 100] Z14 (zri Q))
        refine z0 (op := 3) (a := 1) (b := 0) (by rfl) (by rfl) (?_ : TZ (d + 1) 236 93 [some (.inr 100), some (.inl x1), some (.inl x2), some (.inl x3), some (.inl x4), some (.inl x5)] [.inl x1, .inr 100] Z14 (zri Q))
        refine z0 (op := 4) (a := 5) (b := 0) (by rfl) (by rfl) (?_ : TZ (d + 1) 236 95 [some (.inr 100), some (.inl x1), some (.inl x2), some (.inl x3), some (.inl x4), some (.inl x5)] [.inl x5, .inl x1, .inr 100] Z14 (zri Q))
        refine z_vi (by rfl) (by rfl) cl_100 (TI.mono v fun r19 Z18 v => ?_)
        show TZ (d + 1) 236 98 [some (.inr 100), some (.inl x1), some (.inl x2), some (.inl x3), some (.inl x4), some (.inl x5)] [.inl r19] Z18 (zri Q)
        refine z0 (op := 5) (a := 0) (b := 0) (by rfl) (by rfl) (?_ : TZ (d + 1) 236 99 [some (.inr 100), some (.inl x1), some (.inl x2), some (.inl x3), some (.inl x4), some (.inl x5)] [.inr 100, .inl r19] Z18 (zri Q))
        refine z0 (op := 3) (a := 1) (b := 0) (by rfl) (by rfl) (?_ : TZ (d + 1) 236 100 [some (.inr 100), some (.inl x1), some (.inl x2), some (.inl x3), some (.inl x4), some (.inl x5)] [.inl x1, .inr 100, .inl r19] Z18 (zri Q))
        refine z0 (op := 4) (a := 4) (b := 0) (by rfl) (by rfl) (?_ : TZ (d + 1) 236 102 [some (.inr 100), some (.inl x1), some (.inl x2), some (.inl x3), some (.inl x4), some (.inl x5)] [.inl x4, .inl x1, .inr 100, .inl r19] Z18 (zri Q))
        refine z_vi (by rfl) (by rfl) cl_100 (TI.mono v fun r21 Z20 v => ?_)
        show TZ (d + 1) 236 105 [some (.inr 100), some (.inl x1), some (.inl x2), some (.inl x3), some (.inl x4), some (.inl x5)] [.inl r21, .inl r19] Z20 (zri Q)
        obtain ⟨c22, c23, v1, v2⟩ := v
        refine z_if2 (a := 4) (t := 112) (by rfl) (by rfl) c22 c23 (fun h24 => ?_) (fun h24 => ?_)
        · have v := v1 h24; clear v1 v2
          show TZ (d + 1) 236 112 [some (.inr 100), some (.inl x1), some (.inl x2), some (.inl x3), some (.inl x4), some (.inl x5)] [] Z20 (zri Q)
          refine z0 (op := 11) (a := 5) (b := (-1)) (by rfl) (by rfl) (?_ : TZ (d + 1) 236 115 [some (.inr 100), some (.inl x1), some (.inl x2), some (.inl x3), some (.inl x4), some (.inl (x5 + (-1)))] [] Z20 (zri Q))
          refine z_goto (t := 66) (by rfl) (by rfl) (?_ : TZ (d + 1) 236 66 [some (.inr 100), some (.inl x1), some (.inl x2), some (.inl x3), some (.inl x4), some (.inl (x5 + (-1)))] [] Z20 (zri Q))
          exact v
        · have v := v2 h24; clear v1 v2
          show TZ (d + 1) 236 108 [some (.inr 100), some (.inl x1), some (.inl x2), some (.inl x3), some (.inl x4), some (.inl x5)] [] Z20 (zri Q)
          refine z0 (op := 4) (a := 5) (b := 0) (by rfl) (by rfl) (?_ : TZ (d + 1) 236 110 [some (.inr 100), some (.inl x1), some (.inl x2), some (.inl x3), some (.inl x4), some (.inl x5)] [.inl x5] Z20 (zri Q))
          refine z0 (op := 8) (a := 4) (b := 0) (by rfl) (by rfl) (?_ : TZ (d + 1) 236 112 [some (.inr 100), some (.inl x1), some (.inl x2), some (.inl x3), some (.inl x5), some (.inl x5)] [] Z20 (zri Q))
          refine z0 (op := 11) (a := 5) (b := (-1)) (by rfl) (by rfl) (?_ : TZ (d + 1) 236 115 [some (.inr 100), some (.inl x1), some (.inl x2), some (.inl x3), some (.inl x5), some (.inl (x5 + (-1)))] [] Z20 (zri Q))
          refine z_goto (t := 66) (by rfl) (by rfl) (?_ : TZ (d + 1) 236 66 [some (.inr 100), some (.inl x1), some (.inl x2), some (.inl x3), some (.inl x5), some (.inl (x5 + (-1)))] [] Z20 (zri Q))
          exact v
theorem w237_0 {d : Nat} {Z : zM} {Q : Int → zM → Prop}
    (v : TZ d 237 4 [some (.inr 100), some (.inl 0), some (.inl 0), none, none] [] Z (zri Q)) :
    TZ d 237 0 [some (.inr 100), none, none, none, none] [] Z (zri Q) := by
  refine z0 (op := 0) (a := 0) (b := 0) (by rfl) (by rfl) (?_ : TZ d 237 1 [some (.inr 100), none, none, none, none] [.inl 0] Z (zri Q))
  refine z0 (op := 7) (a := 1) (b := 0) (by rfl) (by rfl) (?_ : TZ d 237 2 [some (.inr 100), some (.inl 0), none, none, none] [] Z (zri Q))
  refine z0 (op := 0) (a := 0) (b := 0) (by rfl) (by rfl) (?_ : TZ d 237 3 [some (.inr 100), some (.inl 0), none, none, none] [.inl 0] Z (zri Q))
  refine z0 (op := 7) (a := 2) (b := 0) (by rfl) (by rfl) (?_ : TZ d 237 4 [some (.inr 100), some (.inl 0), some (.inl 0), none, none] [] Z (zri Q))
  exact v
theorem w237_4 {d : Nat} {x1 x2 : Int} {o3 o4 : Option zV} {Z : zM} {Q : Int → zM → Prop}
    (v : zR x2 ∧
      zR (Z 100 6) ∧
      ((Z 100 6) < x2 → Q x1 Z) ∧
      (¬ (Z 100 6) < x2 → TZ d 237 17 [some (.inr 100), some (.inl x1), some (.inl x2), some (.inl 1), some (.inl 0)] [] Z (zri Q))) :
    TZ d 237 4 [some (.inr 100), some (.inl x1), some (.inl x2), o3, o4] [] Z (zri Q) := by
  refine z0 (op := 3) (a := 2) (b := 0) (by rfl) (by rfl) (?_ : TZ d 237 5 [some (.inr 100), some (.inl x1), some (.inl x2), o3, o4] [.inl x2] Z (zri Q))
  refine z0 (op := 5) (a := 0) (b := 0) (by rfl) (by rfl) (?_ : TZ d 237 6 [some (.inr 100), some (.inl x1), some (.inl x2), o3, o4] [.inr 100, .inl x2] Z (zri Q))
  refine z_fi (by rfl) fi110_100 (?_ : TZ d 237 9 [some (.inr 100), some (.inl x1), some (.inl x2), o3, o4] [.inl (Z 100 6), .inl x2] Z (zri Q))
  obtain ⟨c1, c2, v1, v2⟩ := v
  refine z_if2 (a := 4) (t := 73) (by rfl) (by rfl) c1 c2 (fun h3 => ?_) (fun h3 => ?_)
  · have v := v1 h3; clear v1 v2
    show TZ d 237 73 [some (.inr 100), some (.inl x1), some (.inl x2), o3, o4] [] Z (zri Q)
    refine z0 (op := 3) (a := 1) (b := 0) (by rfl) (by rfl) (?_ : TZ d 237 74 [some (.inr 100), some (.inl x1), some (.inl x2), o3, o4] [.inl x1] Z (zri Q))
    exact z_reti (by rfl) (by rfl) v
  · have v := v2 h3; clear v1 v2
    show TZ d 237 12 [some (.inr 100), some (.inl x1), some (.inl x2), o3, o4] [] Z (zri Q)
    refine z0 (op := 0) (a := 0) (b := 1) (by rfl) (by rfl) (?_ : TZ d 237 13 [some (.inr 100), some (.inl x1), some (.inl x2), o3, o4] [.inl 1] Z (zri Q))
    refine z0 (op := 7) (a := 3) (b := 0) (by rfl) (by rfl) (?_ : TZ d 237 14 [some (.inr 100), some (.inl x1), some (.inl x2), some (.inl 1), o4] [] Z (zri Q))
    refine z0 (op := 0) (a := 0) (b := 0) (by rfl) (by rfl) (?_ : TZ d 237 15 [some (.inr 100), some (.inl x1), some (.inl x2), some (.inl 1), o4] [.inl 0] Z (zri Q))
    refine z0 (op := 8) (a := 4) (b := 0) (by rfl) (by rfl) (?_ : TZ d 237 17 [some (.inr 100), some (.inl x1), some (.inl x2), some (.inl 1), some (.inl 0)] [] Z (zri Q))
    exact v
theorem w237_17 {d : Nat} {x1 x2 x3 x4 : Int} {Z : zM} {Q : Int → zM → Prop}
    (v : zR x4 ∧
      zR x2 ∧
      (x2 ≤ x4 → (zR x3 ∧
          (x3 = 0 → TZ (d + 1) 237 4 [some (.inr 100), some (.inl (x1 + 0)), some (.inl (x2 + 1)), some (.inl x3), some (.inl x4)] [] Z (zri Q)) ∧
          (¬ x3 = 0 → TZ (d + 1) 237 4 [some (.inr 100), some (.inl (x1 + 1)), some (.inl (x2 + 1)), some (.inl x3), some (.inl x4)] [] Z (zri Q)))) ∧
      (¬ x2 ≤ x4 → TI d 238 [.inr 100, .inl (x4 - 1)] Z (fun r7 Z6 =>
          TI d 238 [.inr 100, .inl (x2 - 1)] Z6 (fun r9 Z8 =>
            zR r7 ∧
              zR r9 ∧
              (r7 = r9 → TZ (d + 1) 237 17 [some (.inr 100), some (.inl x1), some (.inl x2), some (.inl (zbit 3 x3 0)), some (.inl (x4 + 1))] [] Z8 (zri Q)) ∧
              (¬ r7 = r9 → TZ (d + 1) 237 17 [some (.inr 100), some (.inl x1), some (.inl x2), some (.inl (zbit 3 x3 1)), some (.inl (x4 + 1))] [] Z8 (zri Q)))))) :
    TZ (d + 1) 237 17 [some (.inr 100), some (.inl x1), some (.inl x2), some (.inl x3), some (.inl x4)] [] Z (zri Q) := by
  refine z0 (op := 4) (a := 4) (b := 0) (by rfl) (by rfl) (?_ : TZ (d + 1) 237 19 [some (.inr 100), some (.inl x1), some (.inl x2), some (.inl x3), some (.inl x4)] [.inl x4] Z (zri Q))
  refine z0 (op := 3) (a := 2) (b := 0) (by rfl) (by rfl) (?_ : TZ (d + 1) 237 20 [some (.inr 100), some (.inl x1), some (.inl x2), some (.inl x3), some (.inl x4)] [.inl x2, .inl x4] Z (zri Q))
  obtain ⟨c1, c2, v1, v2⟩ := v
  refine z_if2 (a := 3) (t := 55) (by rfl) (by rfl) c1 c2 (fun h3 => ?_) (fun h3 => ?_)
  · have v := v1 h3; clear v1 v2
    show TZ (d + 1) 237 55 [some (.inr 100), some (.inl x1), some (.inl x2), some (.inl x3), some (.inl x4)] [] Z (zri Q)
    refine z0 (op := 3) (a := 1) (b := 0) (by rfl) (by rfl) (?_ : TZ (d + 1) 237 56 [some (.inr 100), some (.inl x1), some (.inl x2), some (.inl x3), some (.inl x4)] [.inl x1] Z (zri Q))
    refine z0 (op := 3) (a := 3) (b := 0) (by rfl) (by rfl) (?_ : TZ (d + 1) 237 57 [some (.inr 100), some (.inl x1), some (.inl x2), some (.inl x3), some (.inl x4)] [.inl x3, .inl x1] Z (zri Q))
    obtain ⟨c4, v1, v2⟩ := v
    refine z_if0 (a := 0) (t := 64) (by rfl) (by rfl) c4 (fun h5 => ?_) (fun h5 => ?_)
    · have v := v1 h5; clear v1 v2
      show TZ (d + 1) 237 64 [some (.inr 100), some (.inl x1), some (.inl x2), some (.inl x3), some (.inl x4)] [.inl x1] Z (zri Q)
      refine z0 (op := 0) (a := 0) (b := 0) (by rfl) (by rfl) (?_ : TZ (d + 1) 237 65 [some (.inr 100), some (.inl x1), some (.inl x2), some (.inl x3), some (.inl x4)] [.inl 0, .inl x1] Z (zri Q))
      refine z0 (op := 12) (a := 0) (b := 0) (by rfl) (by rfl) (?_ : TZ (d + 1) 237 66 [some (.inr 100), some (.inl x1), some (.inl x2), some (.inl x3), some (.inl x4)] [.inl (x1 + 0)] Z (zri Q))
      refine z0 (op := 7) (a := 1) (b := 0) (by rfl) (by rfl) (?_ : TZ (d + 1) 237 67 [some (.inr 100), some (.inl (x1 + 0)), some (.inl x2), some (.inl x3), some (.inl x4)] [] Z (zri Q))
      refine z0 (op := 11) (a := 2) (b := 1) (by rfl) (by rfl) (?_ : TZ (d + 1) 237 70 [some (.inr 100), some (.inl (x1 + 0)), some (.inl (x2 + 1)), some (.inl x3), some (.inl x4)] [] Z (zri Q))
      refine z_goto (t := 4) (by rfl) (by rfl) (?_ : TZ (d + 1) 237 4 [some (.inr 100), some (.inl (x1 + 0)), some (.inl (x2 + 1)), some (.inl x3), some (.inl x4)] [] Z (zri Q))
      exact v
    · have v := v2 h5; clear v1 v2
      show TZ (d + 1) 237 60 [some (.inr 100), some (.inl x1), some (.inl x2), some (.inl x3), some (.inl x4)] [.inl x1] Z (zri Q)
      refine z0 (op := 0) (a := 0) (b := 1) (by rfl) (by rfl) (?_ : TZ (d + 1) 237 61 [some (.inr 100), some (.inl x1), some (.inl x2), some (.inl x3), some (.inl x4)] [.inl 1, .inl x1] Z (zri Q))
      refine z_goto (t := 65) (by rfl) (by rfl) (?_ : TZ (d + 1) 237 65 [some (.inr 100), some (.inl x1), some (.inl x2), some (.inl x3), some (.inl x4)] [.inl 1, .inl x1] Z (zri Q))
      refine z0 (op := 12) (a := 0) (b := 0) (by rfl) (by rfl) (?_ : TZ (d + 1) 237 66 [some (.inr 100), some (.inl x1), some (.inl x2), some (.inl x3), some (.inl x4)] [.inl (x1 + 1)] Z (zri Q))
      refine z0 (op := 7) (a := 1) (b := 0) (by rfl) (by rfl) (?_ : TZ (d + 1) 237 67 [some (.inr 100), some (.inl (x1 + 1)), some (.inl x2), some (.inl x3), some (.inl x4)] [] Z (zri Q))
      refine z0 (op := 11) (a := 2) (b := 1) (by rfl) (by rfl) (?_ : TZ (d + 1) 237 70 [some (.inr 100), some (.inl (x1 + 1)), some (.inl (x2 + 1)), some (.inl x3), some (.inl x4)] [] Z (zri Q))
      refine z_goto (t := 4) (by rfl) (by rfl) (?_ : TZ (d + 1) 237 4 [some (.inr 100), some (.inl (x1 + 1)), some (.inl (x2 + 1)), some (.inl x3), some (.inl x4)] [] Z (zri Q))
      exact v
  · have v := v2 h3; clear v1 v2
    show TZ (d + 1) 237 23 [some (.inr 100), some (.inl x1), some (.inl x2), some (.inl x3), some (.inl x4)] [] Z (zri Q)
    refine z0 (op := 3) (a := 3) (b := 0) (by rfl) (by rfl) (?_ : TZ (d + 1) 237 24 [some (.inr 100), some (.inl x1), some (.inl x2), some (.inl x3), some (.inl x4)] [.inl x3] Z (zri Q))
    refine z0 (op := 5) (a := 0) (b := 0) (by rfl) (by rfl) (?_ : TZ (d + 1) 237 25 [some (.inr 100), some (.inl x1), some (.inl x2), some (.inl x3), some (.inl x4)] [.inr 100, .inl x3] Z (zri Q))
    refine z0 (op := 4) (a := 4) (b := 0) (by rfl) (by rfl) (?_ : TZ (d + 1) 237 27 [some (.inr 100), some (.inl x1), some (.inl x2), some (.inl x3), some (.inl x4)] [.inl x4, .inr 100, .inl x3] Z (zri Q))
    refine z0 (op := 0) (a := 0) (b := 1) (by rfl) (by rfl) (?_ : TZ (d + 1) 237 28 [some (.inr 100), some (.inl x1), some (.inl x2), some (.inl x3), some (.inl x4)] [.inl 1, .inl x4, .inr 100, .inl x3] Z (zri Q))
    refine z0 (op := 12) (a := 1) (b := 0) (by rfl) (by rfl) (?_ : TZ (d + 1) 237 29 [some (.inr 100), some (.inl x1), some (.inl x2), some (.inl x3), some (.inl x4)] [.inl (x4 - 1), .inr 100, .inl x3] Z (zri Q))
    refine z_vi (by rfl) (by rfl) cl_100 (TI.mono v fun r7 Z6 v => ?_)
    show TZ (d + 1) 237 32 [some (.inr 100), some (.inl x1), some (.inl x2), some (.inl x3), some (.inl x4)] [.inl r7, .inl x3] Z6 (zri Q)
    refine z0 (op := 5) (a := 0) (b := 0) (by rfl) (by rfl) (?_ : TZ (d + 1) 237 33 [some (.inr 100), some (.inl x1), some (.inl x2), some (.inl x3), some (.inl x4)] [.inr 100, .inl r7, .inl x3] Z6 (zri Q))
    refine z0 (op := 3) (a := 2) (b := 0) (by rfl) (by rfl) (?_ : TZ (d + 1) 237 34 [some (.inr 100), some (.inl x1), some (.inl x2), some (.inl x3), some (.inl x4)] [.inl x2, .inr 100, .inl r7, .inl x3] Z6 (zri Q))
    refine z0 (op := 0) (a := 0) (b := 1) (by rfl) (by rfl) (?_ : TZ (d + 1) 237 35 [some (.inr 100), some (.inl x1), some (.inl x2), some (.inl x3), some (.inl x4)] [.inl 1, .inl x2, .inr 100, .inl r7, .inl x3] Z6 (zri Q))
    refine z0 (op := 12) (a := 1) (b := 0) (by rfl) (by rfl) (?_ : TZ (d + 1) 237 36 [some (.inr 100), some (.inl x1), some (.inl x2), some (.inl x3), some (.inl x4)] [.inl (x2 - 1), .inr 100, .inl r7, .inl x3] Z6 (zri Q))
    refine z_vi (by rfl) (by rfl) cl_100 (TI.mono v fun r9 Z8 v => ?_)
    show TZ (d + 1) 237 39 [some (.inr 100), some (.inl x1), some (.inl x2), some (.inl x3), some (.inl x4)] [.inl r9, .inl r7, .inl x3] Z8 (zri Q)
    obtain ⟨c10, c11, v1, v2⟩ := v
    refine z_if2 (a := 0) (t := 46) (by rfl) (by rfl) c10 c11 (fun h12 => ?_) (fun h12 => ?_)
    · have v := v1 h12; clear v1 v2
      show TZ (d + 1) 237 46 [some (.inr 100), some (.inl x1), some (.inl x2), some (.inl x3), some (.inl x4)] [.inl x3] Z8 (zri Q)
      refine z0 (op := 0) (a := 0) (b := 0) (by rfl) (by rfl) (?_ : TZ (d + 1) 237 47 [some (.inr 100), some (.inl x1), some (.inl x2), some (.inl x3), some (.inl x4)] [.inl 0, .inl x3] Z8 (zri Q))
      refine z0 (op := 12) (a := 3) (b := 0) (by rfl) (by rfl) (?_ : TZ (d + 1) 237 48 [some (.inr 100), some (.inl x1), some (.inl x2), some (.inl x3), some (.inl x4)] [.inl (zbit 3 x3 0)] Z8 (zri Q))
      refine z0 (op := 7) (a := 3) (b := 0) (by rfl) (by rfl) (?_ : TZ (d + 1) 237 49 [some (.inr 100), some (.inl x1), some (.inl x2), some (.inl (zbit 3 x3 0)), some (.inl x4)] [] Z8 (zri Q))
      refine z0 (op := 11) (a := 4) (b := 1) (by rfl) (by rfl) (?_ : TZ (d + 1) 237 52 [some (.inr 100), some (.inl x1), some (.inl x2), some (.inl (zbit 3 x3 0)), some (.inl (x4 + 1))] [] Z8 (zri Q))
      refine z_goto (t := 17) (by rfl) (by rfl) (?_ : TZ (d + 1) 237 17 [some (.inr 100), some (.inl x1), some (.inl x2), some (.inl (zbit 3 x3 0)), some (.inl (x4 + 1))] [] Z8 (zri Q))
      exact v
    · have v := v2 h12; clear v1 v2
      show TZ (d + 1) 237 42 [some (.inr 100), some (.inl x1), some (.inl x2), some (.inl x3), some (.inl x4)] [.inl x3] Z8 (zri Q)
      refine z0 (op := 0) (a := 0) (b := 1) (by rfl) (by rfl) (?_ : TZ (d + 1) 237 43 [some (.inr 100), some (.inl x1), some (.inl x2), some (.inl x3), some (.inl x4)] [.inl 1, .inl x3] Z8 (zri Q))
      refine z_goto (t := 47) (by rfl) (by rfl) (?_ : TZ (d + 1) 237 47 [some (.inr 100), some (.inl x1), some (.inl x2), some (.inl x3), some (.inl x4)] [.inl 1, .inl x3] Z8 (zri Q))
      refine z0 (op := 12) (a := 3) (b := 0) (by rfl) (by rfl) (?_ : TZ (d + 1) 237 48 [some (.inr 100), some (.inl x1), some (.inl x2), some (.inl x3), some (.inl x4)] [.inl (zbit 3 x3 1)] Z8 (zri Q))
      refine z0 (op := 7) (a := 3) (b := 0) (by rfl) (by rfl) (?_ : TZ (d + 1) 237 49 [some (.inr 100), some (.inl x1), some (.inl x2), some (.inl (zbit 3 x3 1)), some (.inl x4)] [] Z8 (zri Q))
      refine z0 (op := 11) (a := 4) (b := 1) (by rfl) (by rfl) (?_ : TZ (d + 1) 237 52 [some (.inr 100), some (.inl x1), some (.inl x2), some (.inl (zbit 3 x3 1)), some (.inl (x4 + 1))] [] Z8 (zri Q))
      refine z_goto (t := 17) (by rfl) (by rfl) (?_ : TZ (d + 1) 237 17 [some (.inr 100), some (.inl x1), some (.inl x2), some (.inl (zbit 3 x3 1)), some (.inl (x4 + 1))] [] Z8 (zri Q))
      exact v
theorem w238_0 {d : Nat} {x1 : Int} {Z : zM} {Q : Int → zM → Prop}
    (v : TV d 179 [.inr 100] Z (fun Z1 =>
      TI d 188 [.inr 100, .inl x1] Z1 (fun r3 Z2 =>
        TI d 216 [.inr 100] Z2 (fun r5 Z4 =>
          TV d 180 [.inr 100] Z4 (fun Z6 =>
            Q r5 Z6))))) :
    TZ (d + 1) 238 0 [some (.inr 100), some (.inl x1), none] [] Z (zri Q) := by
  refine z0 (op := 5) (a := 0) (b := 0) (by rfl) (by rfl) (?_ : TZ (d + 1) 238 1 [some (.inr 100), some (.inl x1), none] [.inr 100] Z (zri Q))
  refine z_vv (by rfl) (by rfl) cl_100 (TV.mono v fun Z1 v => ?_)
  show TZ (d + 1) 238 4 [some (.inr 100), some (.inl x1), none] [] Z1 (zri Q)
  refine z0 (op := 5) (a := 0) (b := 0) (by rfl) (by rfl) (?_ : TZ (d + 1) 238 5 [some (.inr 100), some (.inl x1), none] [.inr 100] Z1 (zri Q))
  refine z0 (op := 3) (a := 1) (b := 0) (by rfl) (by rfl) (?_ : TZ (d + 1) 238 6 [some (.inr 100), some (.inl x1), none] [.inl x1, .inr 100] Z1 (zri Q))
  refine z_vi (by rfl) (by rfl) cl_100 (TI.mono v fun r3 Z2 v => ?_)
  show TZ (d + 1) 238 9 [some (.inr 100), some (.inl x1), none] [.inl r3] Z2 (zri Q)
  refine z0 (op := 14) (a := 0) (b := 0) (by rfl) (by rfl) (?_ : TZ (d + 1) 238 10 [some (.inr 100), some (.inl x1), none] [] Z2 (zri Q))
  refine z0 (op := 5) (a := 0) (b := 0) (by rfl) (by rfl) (?_ : TZ (d + 1) 238 11 [some (.inr 100), some (.inl x1), none] [.inr 100] Z2 (zri Q))
  refine z_vi (by rfl) (by rfl) cl_100 (TI.mono v fun r5 Z4 v => ?_)
  show TZ (d + 1) 238 14 [some (.inr 100), some (.inl x1), none] [.inl r5] Z4 (zri Q)
  refine z0 (op := 7) (a := 2) (b := 0) (by rfl) (by rfl) (?_ : TZ (d + 1) 238 15 [some (.inr 100), some (.inl x1), some (.inl r5)] [] Z4 (zri Q))
  refine z0 (op := 5) (a := 0) (b := 0) (by rfl) (by rfl) (?_ : TZ (d + 1) 238 16 [some (.inr 100), some (.inl x1), some (.inl r5)] [.inr 100] Z4 (zri Q))
  refine z_vv (by rfl) (by rfl) cl_100 (TV.mono v fun Z6 v => ?_)
  show TZ (d + 1) 238 19 [some (.inr 100), some (.inl x1), some (.inl r5)] [] Z6 (zri Q)
  refine z0 (op := 3) (a := 2) (b := 0) (by rfl) (by rfl) (?_ : TZ (d + 1) 238 20 [some (.inr 100), some (.inl x1), some (.inl r5)] [.inl r5] Z6 (zri Q))
  exact z_reti (by rfl) (by rfl) v
theorem w239_0 {d : Nat} {x1 : Int} {Z : zM} {Q : Int → zM → Prop}
    (v : TI d 155 [.inl x1, .inl 0, .inl 1] Z (fun r2 Z1 =>
      zR r2 ∧
        (r2 ≠ 0 → (zR x1 ∧
            (x1 ≠ 0 → TI d 237 [.inr 100] Z1 (fun r8 Z7 =>
                Q r8 Z7)) ∧
            (¬ x1 ≠ 0 → TI d 216 [.inr 100] Z1 (fun r10 Z9 =>
                Q r10 Z9)))) ∧
        (¬ r2 ≠ 0 → TI d 154 [.inr 100, .inl (-2)] Z1 (fun r12 Z11 =>
            Q r12 Z11)))) :
    TZ (d + 1) 239 0 [some (.inr 100), some (.inl x1)] [] Z (zri Q) := by
  refine z0 (op := 3) (a := 1) (b := 0) (by rfl) (by rfl) (?_ : TZ (d + 1) 239 1 [some (.inr 100), some (.inl x1)] [.inl x1] Z (zri Q))
  refine z0 (op := 0) (a := 0) (b := 0) (by rfl) (by rfl) (?_ : TZ (d + 1) 239 2 [some (.inr 100), some (.inl x1)] [.inl 0, .inl x1] Z (zri Q))
  refine z0 (op := 0) (a := 0) (b := 1) (by rfl) (by rfl) (?_ : TZ (d + 1) 239 3 [some (.inr 100), some (.inl x1)] [.inl 1, .inl 0, .inl x1] Z (zri Q))
  refine z_si (by rfl) (by rfl) (TI.mono v fun r2 Z1 v => ?_)
  show TZ (d + 1) 239 6 [some (.inr 100), some (.inl x1)] [.inl r2] Z1 (zri Q)
  obtain ⟨c3, v1, v2⟩ := v
  refine z_if0 (a := 1) (t := 16) (by rfl) (by rfl) c3 (fun h4 => ?_) (fun h4 => ?_)
  · have v := v1 h4; clear v1 v2
    show TZ (d + 1) 239 16 [some (.inr 100), some (.inl x1)] [] Z1 (zri Q)
    refine z0 (op := 3) (a := 1) (b := 0) (by rfl) (by rfl) (?_ : TZ (d + 1) 239 17 [some (.inr 100), some (.inl x1)] [.inl x1] Z1 (zri Q))
    obtain ⟨c5, v1, v2⟩ := v
    refine z_if0 (a := 1) (t := 27) (by rfl) (by rfl) c5 (fun h6 => ?_) (fun h6 => ?_)
    · have v := v1 h6; clear v1 v2
      show TZ (d + 1) 239 27 [some (.inr 100), some (.inl x1)] [] Z1 (zri Q)
      refine z0 (op := 5) (a := 0) (b := 0) (by rfl) (by rfl) (?_ : TZ (d + 1) 239 28 [some (.inr 100), some (.inl x1)] [.inr 100] Z1 (zri Q))
      refine z_vi (by rfl) (by rfl) cl_100 (TI.mono v fun r8 Z7 v => ?_)
      show TZ (d + 1) 239 31 [some (.inr 100), some (.inl x1)] [.inl r8] Z7 (zri Q)
      exact z_reti (by rfl) (by rfl) v
    · have v := v2 h6; clear v1 v2
      show TZ (d + 1) 239 20 [some (.inr 100), some (.inl x1)] [] Z1 (zri Q)
      refine z0 (op := 5) (a := 0) (b := 0) (by rfl) (by rfl) (?_ : TZ (d + 1) 239 21 [some (.inr 100), some (.inl x1)] [.inr 100] Z1 (zri Q))
      refine z_vi (by rfl) (by rfl) cl_100 (TI.mono v fun r10 Z9 v => ?_)
      show TZ (d + 1) 239 24 [some (.inr 100), some (.inl x1)] [.inl r10] Z9 (zri Q)
      refine z_goto (t := 31) (by rfl) (by rfl) (?_ : TZ (d + 1) 239 31 [some (.inr 100), some (.inl x1)] [.inl r10] Z9 (zri Q))
      exact z_reti (by rfl) (by rfl) v
  · have v := v2 h4; clear v1 v2
    show TZ (d + 1) 239 9 [some (.inr 100), some (.inl x1)] [] Z1 (zri Q)
    refine z0 (op := 5) (a := 0) (b := 0) (by rfl) (by rfl) (?_ : TZ (d + 1) 239 10 [some (.inr 100), some (.inl x1)] [.inr 100] Z1 (zri Q))
    refine z0 (op := 1) (a := 0) (b := (-2)) (by rfl) (by rfl) (?_ : TZ (d + 1) 239 12 [some (.inr 100), some (.inl x1)] [.inl (-2), .inr 100] Z1 (zri Q))
    refine z_vi (by rfl) (by rfl) cl_100 (TI.mono v fun r12 Z11 v => ?_)
    show TZ (d + 1) 239 15 [some (.inr 100), some (.inl x1)] [.inl r12] Z11 (zri Q)
    exact z_reti (by rfl) (by rfl) v
theorem w240_0 {d : Nat} {x1 : Int} {Z : zM} {Q : Int → zM → Prop}
    (v : TZ d 240 2 [some (.inr 100), some (.inl x1), some (.inl 0)] [] Z (zri Q)) :
    TZ d 240 0 [some (.inr 100), some (.inl x1), none] [] Z (zri Q) := by
  refine z0 (op := 0) (a := 0) (b := 0) (by rfl) (by rfl) (?_ : TZ d 240 1 [some (.inr 100), some (.inl x1), none] [.inl 0] Z (zri Q))
  refine z0 (op := 7) (a := 2) (b := 0) (by rfl) (by rfl) (?_ : TZ d 240 2 [some (.inr 100), some (.inl x1), some (.inl 0)] [] Z (zri Q))
  exact v
theorem w240_2 {d : Nat} {x1 x2 : Int} {Z : zM} {Q : Int → zM → Prop}
    (v : zR x2 ∧
      zR (Z 100 26) ∧
      ((Z 100 26) ≤ x2 → (zR (Z 100 26) ∧
          (4 < (Z 100 26) → Q 0 Z) ∧
          (¬ 4 < (Z 100 26) → Q 1 Z))) ∧
      (¬ (Z 100 26) ≤ x2 → ((0 ≤ x2 ∧ x2 < 12) ∧
          zR (Z 116 x2) ∧
          zR x1 ∧
          ((Z 116 x2) ≤ x1 → TZ d 240 2 [some (.inr 100), some (.inl x1), some (.inl (x2 + 1))] [] Z (zri Q)) ∧
          (¬ (Z 116 x2) ≤ x1 → Q 0 Z)))) :
    TZ d 240 2 [some (.inr 100), some (.inl x1), some (.inl x2)] [] Z (zri Q) := by
  refine z0 (op := 3) (a := 2) (b := 0) (by rfl) (by rfl) (?_ : TZ d 240 3 [some (.inr 100), some (.inl x1), some (.inl x2)] [.inl x2] Z (zri Q))
  refine z0 (op := 5) (a := 0) (b := 0) (by rfl) (by rfl) (?_ : TZ d 240 4 [some (.inr 100), some (.inl x1), some (.inl x2)] [.inr 100, .inl x2] Z (zri Q))
  refine z_fi (by rfl) fi120_100 (?_ : TZ d 240 7 [some (.inr 100), some (.inl x1), some (.inl x2)] [.inl (Z 100 26), .inl x2] Z (zri Q))
  obtain ⟨c1, c2, v1, v2⟩ := v
  refine z_if2 (a := 3) (t := 28) (by rfl) (by rfl) c1 c2 (fun h3 => ?_) (fun h3 => ?_)
  · have v := v1 h3; clear v1 v2
    show TZ d 240 28 [some (.inr 100), some (.inl x1), some (.inl x2)] [] Z (zri Q)
    refine z0 (op := 5) (a := 0) (b := 0) (by rfl) (by rfl) (?_ : TZ d 240 29 [some (.inr 100), some (.inl x1), some (.inl x2)] [.inr 100] Z (zri Q))
    refine z_fi (by rfl) fi120_100 (?_ : TZ d 240 32 [some (.inr 100), some (.inl x1), some (.inl x2)] [.inl (Z 100 26)] Z (zri Q))
    refine z0 (op := 0) (a := 0) (b := 4) (by rfl) (by rfl) (?_ : TZ d 240 33 [some (.inr 100), some (.inl x1), some (.inl x2)] [.inl 4, .inl (Z 100 26)] Z (zri Q))
    obtain ⟨c4, v1, v2⟩ := v
    refine z_if2 (a := 4) (t := 40) (by rfl) (by rfl) c4 (by decide) (fun h5 => ?_) (fun h5 => ?_)
    · have v := v1 h5; clear v1 v2
      show TZ d 240 40 [some (.inr 100), some (.inl x1), some (.inl x2)] [] Z (zri Q)
      refine z0 (op := 0) (a := 0) (b := 0) (by rfl) (by rfl) (?_ : TZ d 240 41 [some (.inr 100), some (.inl x1), some (.inl x2)] [.inl 0] Z (zri Q))
      exact z_retb (by rfl) (by rfl) (by decide) v
    · have v := v2 h5; clear v1 v2
      show TZ d 240 36 [some (.inr 100), some (.inl x1), some (.inl x2)] [] Z (zri Q)
      refine z0 (op := 0) (a := 0) (b := 1) (by rfl) (by rfl) (?_ : TZ d 240 37 [some (.inr 100), some (.inl x1), some (.inl x2)] [.inl 1] Z (zri Q))
      refine z_goto (t := 41) (by rfl) (by rfl) (?_ : TZ d 240 41 [some (.inr 100), some (.inl x1), some (.inl x2)] [.inl 1] Z (zri Q))
      exact z_retb (by rfl) (by rfl) (by decide) v
  · have v := v2 h3; clear v1 v2
    show TZ d 240 10 [some (.inr 100), some (.inl x1), some (.inl x2)] [] Z (zri Q)
    refine z0 (op := 5) (a := 0) (b := 0) (by rfl) (by rfl) (?_ : TZ d 240 11 [some (.inr 100), some (.inl x1), some (.inl x2)] [.inr 100] Z (zri Q))
    refine z_fr (by rfl) fr103_100 (?_ : TZ d 240 14 [some (.inr 100), some (.inl x1), some (.inl x2)] [.inr 116] Z (zri Q))
    refine z0 (op := 3) (a := 2) (b := 0) (by rfl) (by rfl) (?_ : TZ d 240 15 [some (.inr 100), some (.inl x1), some (.inl x2)] [.inl x2, .inr 116] Z (zri Q))
    obtain ⟨c6, v⟩ := v
    refine z_al (by rfl) ln_116 c6 (?_ : TZ d 240 16 [some (.inr 100), some (.inl x1), some (.inl x2)] [.inl (Z 116 x2)] Z (zri Q))
    refine z0 (op := 3) (a := 1) (b := 0) (by rfl) (by rfl) (?_ : TZ d 240 17 [some (.inr 100), some (.inl x1), some (.inl x2)] [.inl x1, .inl (Z 116 x2)] Z (zri Q))
    obtain ⟨c7, c8, v1, v2⟩ := v
    refine z_if2 (a := 5) (t := 22) (by rfl) (by rfl) c7 c8 (fun h9 => ?_) (fun h9 => ?_)
    · have v := v1 h9; clear v1 v2
      show TZ d 240 22 [some (.inr 100), some (.inl x1), some (.inl x2)] [] Z (zri Q)
      refine z0 (op := 11) (a := 2) (b := 1) (by rfl) (by rfl) (?_ : TZ d 240 25 [some (.inr 100), some (.inl x1), some (.inl (x2 + 1))] [] Z (zri Q))
      refine z_goto (t := 2) (by rfl) (by rfl) (?_ : TZ d 240 2 [some (.inr 100), some (.inl x1), some (.inl (x2 + 1))] [] Z (zri Q))
      exact v
    · have v := v2 h9; clear v1 v2
      show TZ d 240 20 [some (.inr 100), some (.inl x1), some (.inl x2)] [] Z (zri Q)
      refine z0 (op := 0) (a := 0) (b := 0) (by rfl) (by rfl) (?_ : TZ d 240 21 [some (.inr 100), some (.inl x1), some (.inl x2)] [.inl 0] Z (zri Q))
      exact z_retb (by rfl) (by rfl) (by decide) v
theorem w241_0 {d : Nat} {x1 : Int} {Z : zM} {Q : Int → zM → Prop}
    (v : zR x1 ∧
      ((-1) ≤ x1 → TI d 240 [.inr 100, .inl 63] Z (fun r4 Z3 =>
          zR r4 ∧
            (r4 ≠ 0 → TZ (d + 1) 241 38 [some (.inr 100), some (.inl x1), some (.inl 0), some (.inl 0)] [] Z3 (zri Q)) ∧
            (¬ r4 ≠ 0 → TI d 154 [.inr 100, .inl (-3)] Z3 (fun r8 Z7 =>
                Q r8 Z7)))) ∧
      (¬ (-1) ≤ x1 → TI d 154 [.inr 100, .inl (-4)] Z (fun r10 Z9 =>
          Q r10 Z9))) :
    TZ (d + 1) 241 0 [some (.inr 100), some (.inl x1), none, none] [] Z (zri Q) := by
  refine z0 (op := 3) (a := 1) (b := 0) (by rfl) (by rfl) (?_ : TZ (d + 1) 241 1 [some (.inr 100), some (.inl x1), none, none] [.inl x1] Z (zri Q))
  refine z0 (op := 0) (a := 0) (b := (-1)) (by rfl) (by rfl) (?_ : TZ (d + 1) 241 2 [some (.inr 100), some (.inl x1), none, none] [.inl (-1), .inl x1] Z (zri Q))
  obtain ⟨c1, v1, v2⟩ := v
  refine z_if2 (a := 3) (t := 10) (by rfl) (by rfl) c1 (by decide) (fun h2 => ?_) (fun h2 => ?_)
  · have v := v1 h2; clear v1 v2
    show TZ (d + 1) 241 10 [some (.inr 100), some (.inl x1), none, none] [] Z (zri Q)
    refine z0 (op := 5) (a := 0) (b := 0) (by rfl) (by rfl) (?_ : TZ (d + 1) 241 11 [some (.inr 100), some (.inl x1), none, none] [.inr 100] Z (zri Q))
    refine z0 (op := 1) (a := 0) (b := 63) (by rfl) (by rfl) (?_ : TZ (d + 1) 241 13 [some (.inr 100), some (.inl x1), none, none] [.inl 63, .inr 100] Z (zri Q))
    refine z_vi (by rfl) (by rfl) cl_100 (TI.mono v fun r4 Z3 v => ?_)
    show TZ (d + 1) 241 16 [some (.inr 100), some (.inl x1), none, none] [.inl r4] Z3 (zri Q)
    obtain ⟨c5, v1, v2⟩ := v
    refine z_if0 (a := 1) (t := 24) (by rfl) (by rfl) c5 (fun h6 => ?_) (fun h6 => ?_)
    · have v := v1 h6; clear v1 v2
      show TZ (d + 1) 241 24 [some (.inr 100), some (.inl x1), none, none] [] Z3 (zri Q)
      refine z0 (op := 0) (a := 0) (b := 0) (by rfl) (by rfl) (?_ : TZ (d + 1) 241 25 [some (.inr 100), some (.inl x1), none, none] [.inl 0] Z3 (zri Q))
      refine z0 (op := 7) (a := 2) (b := 0) (by rfl) (by rfl) (?_ : TZ (d + 1) 241 26 [some (.inr 100), some (.inl x1), some (.inl 0), none] [] Z3 (zri Q))
      refine z0 (op := 3) (a := 2) (b := 0) (by rfl) (by rfl) (?_ : TZ (d + 1) 241 27 [some (.inr 100), some (.inl x1), some (.inl 0), none] [.inl 0] Z3 (zri Q))
      refine z_if0 (a := 0) (t := 36) (by rfl) (by rfl) (by decide) (fun _ => ?_) (fun h => absurd (show (0 : Int) = (0 : Int) by decide) h)
      show TZ (d + 1) 241 36 [some (.inr 100), some (.inl x1), some (.inl 0), none] [] Z3 (zri Q)
      refine z0 (op := 0) (a := 0) (b := 0) (by rfl) (by rfl) (?_ : TZ (d + 1) 241 37 [some (.inr 100), some (.inl x1), some (.inl 0), none] [.inl 0] Z3 (zri Q))
      refine z0 (op := 7) (a := 3) (b := 0) (by rfl) (by rfl) (?_ : TZ (d + 1) 241 38 [some (.inr 100), some (.inl x1), some (.inl 0), some (.inl 0)] [] Z3 (zri Q))
      exact v
    · have v := v2 h6; clear v1 v2
      show TZ (d + 1) 241 19 [some (.inr 100), some (.inl x1), none, none] [] Z3 (zri Q)
      refine z0 (op := 1) (a := 0) (b := (-3)) (by rfl) (by rfl) (?_ : TZ (d + 1) 241 21 [some (.inr 100), some (.inl x1), none, none] [.inl (-3)] Z3 (zri Q))
      refine z_goto (t := 25) (by rfl) (by rfl) (?_ : TZ (d + 1) 241 25 [some (.inr 100), some (.inl x1), none, none] [.inl (-3)] Z3 (zri Q))
      refine z0 (op := 7) (a := 2) (b := 0) (by rfl) (by rfl) (?_ : TZ (d + 1) 241 26 [some (.inr 100), some (.inl x1), some (.inl (-3)), none] [] Z3 (zri Q))
      refine z0 (op := 3) (a := 2) (b := 0) (by rfl) (by rfl) (?_ : TZ (d + 1) 241 27 [some (.inr 100), some (.inl x1), some (.inl (-3)), none] [.inl (-3)] Z3 (zri Q))
      refine z_if0 (a := 0) (t := 36) (by rfl) (by rfl) (by decide) (fun h => absurd (show ((-3) : Int) = (0 : Int) from h) (by decide)) (fun _ => ?_)
      show TZ (d + 1) 241 30 [some (.inr 100), some (.inl x1), some (.inl (-3)), none] [] Z3 (zri Q)
      refine z0 (op := 5) (a := 0) (b := 0) (by rfl) (by rfl) (?_ : TZ (d + 1) 241 31 [some (.inr 100), some (.inl x1), some (.inl (-3)), none] [.inr 100] Z3 (zri Q))
      refine z0 (op := 3) (a := 2) (b := 0) (by rfl) (by rfl) (?_ : TZ (d + 1) 241 32 [some (.inr 100), some (.inl x1), some (.inl (-3)), none] [.inl (-3), .inr 100] Z3 (zri Q))
      refine z_vi (by rfl) (by rfl) cl_100 (TI.mono v fun r8 Z7 v => ?_)
      show TZ (d + 1) 241 35 [some (.inr 100), some (.inl x1), some (.inl (-3)), none] [.inl r8] Z7 (zri Q)
      exact z_reti (by rfl) (by rfl) v
  · have v := v2 h2; clear v1 v2
    show TZ (d + 1) 241 5 [some (.inr 100), some (.inl x1), none, none] [] Z (zri Q)
    refine z0 (op := 1) (a := 0) (b := (-4)) (by rfl) (by rfl) (?_ : TZ (d + 1) 241 7 [some (.inr 100), some (.inl x1), none, none] [.inl (-4)] Z (zri Q))
    refine z_goto (t := 25) (by rfl) (by rfl) (?_ : TZ (d + 1) 241 25 [some (.inr 100), some (.inl x1), none, none] [.inl (-4)] Z (zri Q))
    refine z0 (op := 7) (a := 2) (b := 0) (by rfl) (by rfl) (?_ : TZ (d + 1) 241 26 [some (.inr 100), some (.inl x1), some (.inl (-4)), none] [] Z (zri Q))
    refine z0 (op := 3) (a := 2) (b := 0) (by rfl) (by rfl) (?_ : TZ (d + 1) 241 27 [some (.inr 100), some (.inl x1), some (.inl (-4)), none] [.inl (-4)] Z (zri Q))
    refine z_if0 (a := 0) (t := 36) (by rfl) (by rfl) (by decide) (fun h => absurd (show ((-4) : Int) = (0 : Int) from h) (by decide)) (fun _ => ?_)
    show TZ (d + 1) 241 30 [some (.inr 100), some (.inl x1), some (.inl (-4)), none] [] Z (zri Q)
    refine z0 (op := 5) (a := 0) (b := 0) (by rfl) (by rfl) (?_ : TZ (d + 1) 241 31 [some (.inr 100), some (.inl x1), some (.inl (-4)), none] [.inr 100] Z (zri Q))
    refine z0 (op := 3) (a := 2) (b := 0) (by rfl) (by rfl) (?_ : TZ (d + 1) 241 32 [some (.inr 100), some (.inl x1), some (.inl (-4)), none] [.inl (-4), .inr 100] Z (zri Q))
    refine z_vi (by rfl) (by rfl) cl_100 (TI.mono v fun r10 Z9 v => ?_)
    show TZ (d + 1) 241 35 [some (.inr 100), some (.inl x1), some (.inl (-4)), none] [.inl r10] Z9 (zri Q)
    exact z_reti (by rfl) (by rfl) v
theorem w241_38 {d : Nat} {x1 x2 x3 : Int} {Z : zM} {Q : Int → zM → Prop}
    (v : TI d 212 [.inr 100, .inl (Z 100 26)] Z (fun r2 Z1 =>
      zR x3 ∧
        zR r2 ∧
        (r2 ≤ x3 → (zR x1 ∧
            (0 ≤ x1 → Q (-9) Z1) ∧
            (¬ 0 ≤ x1 → Q 0 Z1))) ∧
        (¬ r2 ≤ x3 → TV d 213 [.inr 100, .inl x3, .inl (Z1 100 26)] Z1 (fun Z8 =>
            TI d 217 [.inr 100, .inl 2, .inl (Z8 100 26)] Z8 (fun r10 Z9 =>
              zR r10 ∧
                (r10 = 0 → TZ (d + 1) 241 38 [some (.inr 100), some (.inl x1), some (.inl x2), some (.inl (x3 + 1))] [] Z9 (zri Q)) ∧
                (¬ r10 = 0 → (zR x1 ∧
                    (0 ≤ x1 → (zR x1 ∧
                        zR (Z9 100 26) ∧
                        ((Z9 100 26) ≤ x1 → Q (-9) Z9) ∧
                        (¬ (Z9 100 26) ≤ x1 → ((0 ≤ x1 ∧ x1 < 4) ∧ Q (Z9 114 x1) Z9)))) ∧
                    (¬ 0 ≤ x1 → Q 1 Z9)))))))) :
    TZ (d + 1) 241 38 [some (.inr 100), some (.inl x1), some (.inl x2), some (.inl x3)] [] Z (zri Q) := by
  refine z0 (op := 3) (a := 3) (b := 0) (by rfl) (by rfl) (?_ : TZ (d + 1) 241 39 [some (.inr 100), some (.inl x1), some (.inl x2), some (.inl x3)] [.inl x3] Z (zri Q))
  refine z0 (op := 5) (a := 0) (b := 0) (by rfl) (by rfl) (?_ : TZ (d + 1) 241 40 [some (.inr 100), some (.inl x1), some (.inl x2), some (.inl x3)] [.inr 100, .inl x3] Z (zri Q))
  refine z0 (op := 5) (a := 0) (b := 0) (by rfl) (by rfl) (?_ : TZ (d + 1) 241 41 [some (.inr 100), some (.inl x1), some (.inl x2), some (.inl x3)] [.inr 100, .inr 100, .inl x3] Z (zri Q))
  refine z_fi (by rfl) fi120_100 (?_ : TZ (d + 1) 241 44 [some (.inr 100), some (.inl x1), some (.inl x2), some (.inl x3)] [.inl (Z 100 26), .inr 100, .inl x3] Z (zri Q))
  refine z_vi (by rfl) (by rfl) cl_100 (TI.mono v fun r2 Z1 v => ?_)
  show TZ (d + 1) 241 47 [some (.inr 100), some (.inl x1), some (.inl x2), some (.inl x3)] [.inl r2, .inl x3] Z1 (zri Q)
  obtain ⟨c3, c4, v1, v2⟩ := v
  refine z_if2 (a := 3) (t := 105) (by rfl) (by rfl) c3 c4 (fun h5 => ?_) (fun h5 => ?_)
  · have v := v1 h5; clear v1 v2
    show TZ (d + 1) 241 105 [some (.inr 100), some (.inl x1), some (.inl x2), some (.inl x3)] [] Z1 (zri Q)
    refine z0 (op := 3) (a := 1) (b := 0) (by rfl) (by rfl) (?_ : TZ (d + 1) 241 106 [some (.inr 100), some (.inl x1), some (.inl x2), some (.inl x3)] [.inl x1] Z1 (zri Q))
    obtain ⟨c6, v1, v2⟩ := v
    refine z_if0 (a := 3) (t := 113) (by rfl) (by rfl) c6 (fun h7 => ?_) (fun h7 => ?_)
    · have v := v1 h7; clear v1 v2
      show TZ (d + 1) 241 113 [some (.inr 100), some (.inl x1), some (.inl x2), some (.inl x3)] [] Z1 (zri Q)
      refine z0 (op := 1) (a := 0) (b := (-9)) (by rfl) (by rfl) (?_ : TZ (d + 1) 241 115 [some (.inr 100), some (.inl x1), some (.inl x2), some (.inl x3)] [.inl (-9)] Z1 (zri Q))
      exact z_reti (by rfl) (by rfl) v
    · have v := v2 h7; clear v1 v2
      show TZ (d + 1) 241 109 [some (.inr 100), some (.inl x1), some (.inl x2), some (.inl x3)] [] Z1 (zri Q)
      refine z0 (op := 0) (a := 0) (b := 0) (by rfl) (by rfl) (?_ : TZ (d + 1) 241 110 [some (.inr 100), some (.inl x1), some (.inl x2), some (.inl x3)] [.inl 0] Z1 (zri Q))
      refine z_goto (t := 115) (by rfl) (by rfl) (?_ : TZ (d + 1) 241 115 [some (.inr 100), some (.inl x1), some (.inl x2), some (.inl x3)] [.inl 0] Z1 (zri Q))
      exact z_reti (by rfl) (by rfl) v
  · have v := v2 h5; clear v1 v2
    show TZ (d + 1) 241 50 [some (.inr 100), some (.inl x1), some (.inl x2), some (.inl x3)] [] Z1 (zri Q)
    refine z0 (op := 5) (a := 0) (b := 0) (by rfl) (by rfl) (?_ : TZ (d + 1) 241 51 [some (.inr 100), some (.inl x1), some (.inl x2), some (.inl x3)] [.inr 100] Z1 (zri Q))
    refine z0 (op := 3) (a := 3) (b := 0) (by rfl) (by rfl) (?_ : TZ (d + 1) 241 52 [some (.inr 100), some (.inl x1), some (.inl x2), some (.inl x3)] [.inl x3, .inr 100] Z1 (zri Q))
    refine z0 (op := 5) (a := 0) (b := 0) (by rfl) (by rfl) (?_ : TZ (d + 1) 241 53 [some (.inr 100), some (.inl x1), some (.inl x2), some (.inl x3)] [.inr 100, .inl x3, .inr 100] Z1 (zri Q))
    refine z_fi (by rfl) fi120_100 (?_ : TZ (d + 1) 241 56 [some (.inr 100), some (.inl x1), some (.inl x2), some (.inl x3)] [.inl (Z1 100 26), .inl x3, .inr 100] Z1 (zri Q))
    refine z_vv (by rfl) (by rfl) cl_100 (TV.mono v fun Z8 v => ?_)
    show TZ (d + 1) 241 59 [some (.inr 100), some (.inl x1), some (.inl x2), some (.inl x3)] [] Z8 (zri Q)
    refine z0 (op := 5) (a := 0) (b := 0) (by rfl) (by rfl) (?_ : TZ (d + 1) 241 60 [some (.inr 100), some (.inl x1), some (.inl x2), some (.inl x3)] [.inr 100] Z8 (zri Q))
    refine z0 (op := 0) (a := 0) (b := 2) (by rfl) (by rfl) (?_ : TZ (d + 1) 241 61 [some (.inr 100), some (.inl x1), some (.inl x2), some (.inl x3)] [.inl 2, .inr 100] Z8 (zri Q))
    refine z0 (op := 5) (a := 0) (b := 0) (by rfl) (by rfl) (?_ : TZ (d + 1) 241 62 [some (.inr 100), some (.inl x1), some (.inl x2), some (.inl x3)] [.inr 100, .inl 2, .inr 100] Z8 (zri Q))
    refine z_fi (by rfl) fi120_100 (?_ : TZ (d + 1) 241 65 [some (.inr 100), some (.inl x1), some (.inl x2), some (.inl x3)] [.inl (Z8 100 26), .inl 2, .inr 100] Z8 (zri Q))
    refine z_vi (by rfl) (by rfl) cl_100 (TI.mono v fun r10 Z9 v => ?_)
    show TZ (d + 1) 241 68 [some (.inr 100), some (.inl x1), some (.inl x2), some (.inl x3)] [.inl r10] Z9 (zri Q)
    obtain ⟨c11, v1, v2⟩ := v
    refine z_if0 (a := 0) (t := 99) (by rfl) (by rfl) c11 (fun h12 => ?_) (fun h12 => ?_)
    · have v := v1 h12; clear v1 v2
      show TZ (d + 1) 241 99 [some (.inr 100), some (.inl x1), some (.inl x2), some (.inl x3)] [] Z9 (zri Q)
      refine z0 (op := 11) (a := 3) (b := 1) (by rfl) (by rfl) (?_ : TZ (d + 1) 241 102 [some (.inr 100), some (.inl x1), some (.inl x2), some (.inl (x3 + 1))] [] Z9 (zri Q))
      refine z_goto (t := 38) (by rfl) (by rfl) (?_ : TZ (d + 1) 241 38 [some (.inr 100), some (.inl x1), some (.inl x2), some (.inl (x3 + 1))] [] Z9 (zri Q))
      exact v
    · have v := v2 h12; clear v1 v2
      show TZ (d + 1) 241 71 [some (.inr 100), some (.inl x1), some (.inl x2), some (.inl x3)] [] Z9 (zri Q)
      refine z0 (op := 3) (a := 1) (b := 0) (by rfl) (by rfl) (?_ : TZ (d + 1) 241 72 [some (.inr 100), some (.inl x1), some (.inl x2), some (.inl x3)] [.inl x1] Z9 (zri Q))
      obtain ⟨c13, v1, v2⟩ := v
      refine z_if0 (a := 3) (t := 79) (by rfl) (by rfl) c13 (fun h14 => ?_) (fun h14 => ?_)
      · have v := v1 h14; clear v1 v2
        show TZ (d + 1) 241 79 [some (.inr 100), some (.inl x1), some (.inl x2), some (.inl x3)] [] Z9 (zri Q)
        refine z0 (op := 3) (a := 1) (b := 0) (by rfl) (by rfl) (?_ : TZ (d + 1) 241 80 [some (.inr 100), some (.inl x1), some (.inl x2), some (.inl x3)] [.inl x1] Z9 (zri Q))
        refine z0 (op := 5) (a := 0) (b := 0) (by rfl) (by rfl) (?_ : TZ (d + 1) 241 81 [some (.inr 100), some (.inl x1), some (.inl x2), some (.inl x3)] [.inr 100, .inl x1] Z9 (zri Q))
        refine z_fi (by rfl) fi120_100 (?_ : TZ (d + 1) 241 84 [some (.inr 100), some (.inl x1), some (.inl x2), some (.inl x3)] [.inl (Z9 100 26), .inl x1] Z9 (zri Q))
        obtain ⟨c15, c16, v1, v2⟩ := v
        refine z_if2 (a := 3) (t := 96) (by rfl) (by rfl) c15 c16 (fun h17 => ?_) (fun h17 => ?_)
        · have v := v1 h17; clear v1 v2
          show TZ (d + 1) 241 96 [some (.inr 100), some (.inl x1), some (.inl x2), some (.inl x3)] [] Z9 (zri Q)
          refine z0 (op := 1) (a := 0) (b := (-9)) (by rfl) (by rfl) (?_ : TZ (d + 1) 241 98 [some (.inr 100), some (.inl x1), some (.inl x2), some (.inl x3)] [.inl (-9)] Z9 (zri Q))
          exact z_reti (by rfl) (by rfl) v
        · have v := v2 h17; clear v1 v2
          show TZ (d + 1) 241 87 [some (.inr 100), some (.inl x1), some (.inl x2), some (.inl x3)] [] Z9 (zri Q)
          refine z0 (op := 5) (a := 0) (b := 0) (by rfl) (by rfl) (?_ : TZ (d + 1) 241 88 [some (.inr 100), some (.inl x1), some (.inl x2), some (.inl x3)] [.inr 100] Z9 (zri Q))
          refine z_fr (by rfl) fr101_100 (?_ : TZ (d + 1) 241 91 [some (.inr 100), some (.inl x1), some (.inl x2), some (.inl x3)] [.inr 114] Z9 (zri Q))
          refine z0 (op := 3) (a := 1) (b := 0) (by rfl) (by rfl) (?_ : TZ (d + 1) 241 92 [some (.inr 100), some (.inl x1), some (.inl x2), some (.inl x3)] [.inl x1, .inr 114] Z9 (zri Q))
          obtain ⟨c18, v⟩ := v
          refine z_al (by rfl) ln_114 c18 (?_ : TZ (d + 1) 241 93 [some (.inr 100), some (.inl x1), some (.inl x2), some (.inl x3)] [.inl (Z9 114 x1)] Z9 (zri Q))
          refine z_goto (t := 98) (by rfl) (by rfl) (?_ : TZ (d + 1) 241 98 [some (.inr 100), some (.inl x1), some (.inl x2), some (.inl x3)] [.inl (Z9 114 x1)] Z9 (zri Q))
          exact z_reti (by rfl) (by rfl) v
      · have v := v2 h14; clear v1 v2
        show TZ (d + 1) 241 75 [some (.inr 100), some (.inl x1), some (.inl x2), some (.inl x3)] [] Z9 (zri Q)
        refine z0 (op := 0) (a := 0) (b := 1) (by rfl) (by rfl) (?_ : TZ (d + 1) 241 76 [some (.inr 100), some (.inl x1), some (.inl x2), some (.inl x3)] [.inl 1] Z9 (zri Q))
        refine z_goto (t := 98) (by rfl) (by rfl) (?_ : TZ (d + 1) 241 98 [some (.inr 100), some (.inl x1), some (.inl x2), some (.inl x3)] [.inl 1] Z9 (zri Q))
        exact z_reti (by rfl) (by rfl) v
theorem w242_0 {d : Nat} {x0 x1 x2 : Int} {Z : zM} {Q : Int → zM → Prop}
    (v : zR x0 ∧
      zR x1 ∧
      (x0 < x1 → Q 0 Z) ∧
      (¬ x0 < x1 → (zR (x0 - x1) ∧
          (1 ≤ x2 ∧ x2 ≤ 2147483647) ∧
          zR (Int.tmod (x0 - x1) x2) ∧
          ((Int.tmod (x0 - x1) x2) ≠ 0 → Q 0 Z) ∧
          (¬ (Int.tmod (x0 - x1) x2) ≠ 0 → Q 1 Z)))) :
    TZ d 242 0 [some (.inl x0), some (.inl x1), some (.inl x2)] [] Z (zri Q) := by
  refine z0 (op := 3) (a := 0) (b := 0) (by rfl) (by rfl) (?_ : TZ d 242 1 [some (.inl x0), some (.inl x1), some (.inl x2)] [.inl x0] Z (zri Q))
  refine z0 (op := 3) (a := 1) (b := 0) (by rfl) (by rfl) (?_ : TZ d 242 2 [some (.inl x0), some (.inl x1), some (.inl x2)] [.inl x1, .inl x0] Z (zri Q))
  obtain ⟨c1, c2, v1, v2⟩ := v
  refine z_if2 (a := 2) (t := 17) (by rfl) (by rfl) c1 c2 (fun h3 => ?_) (fun h3 => ?_)
  · have v := v1 h3; clear v1 v2
    show TZ d 242 17 [some (.inl x0), some (.inl x1), some (.inl x2)] [] Z (zri Q)
    refine z0 (op := 0) (a := 0) (b := 0) (by rfl) (by rfl) (?_ : TZ d 242 18 [some (.inl x0), some (.inl x1), some (.inl x2)] [.inl 0] Z (zri Q))
    exact z_retb (by rfl) (by rfl) (by decide) v
  · have v := v2 h3; clear v1 v2
    show TZ d 242 5 [some (.inl x0), some (.inl x1), some (.inl x2)] [] Z (zri Q)
    refine z0 (op := 3) (a := 0) (b := 0) (by rfl) (by rfl) (?_ : TZ d 242 6 [some (.inl x0), some (.inl x1), some (.inl x2)] [.inl x0] Z (zri Q))
    refine z0 (op := 3) (a := 1) (b := 0) (by rfl) (by rfl) (?_ : TZ d 242 7 [some (.inl x0), some (.inl x1), some (.inl x2)] [.inl x1, .inl x0] Z (zri Q))
    refine z0 (op := 12) (a := 1) (b := 0) (by rfl) (by rfl) (?_ : TZ d 242 8 [some (.inl x0), some (.inl x1), some (.inl x2)] [.inl (x0 - x1)] Z (zri Q))
    refine z0 (op := 3) (a := 2) (b := 0) (by rfl) (by rfl) (?_ : TZ d 242 9 [some (.inl x0), some (.inl x1), some (.inl x2)] [.inl x2, .inl (x0 - x1)] Z (zri Q))
    obtain ⟨c4, c5, v⟩ := v
    refine z_rem (by rfl) c4 c5 (?_ : TZ d 242 10 [some (.inl x0), some (.inl x1), some (.inl x2)] [.inl (Int.tmod (x0 - x1) x2)] Z (zri Q))
    obtain ⟨c6, v1, v2⟩ := v
    refine z_if0 (a := 1) (t := 17) (by rfl) (by rfl) c6 (fun h7 => ?_) (fun h7 => ?_)
    · have v := v1 h7; clear v1 v2
      show TZ d 242 17 [some (.inl x0), some (.inl x1), some (.inl x2)] [] Z (zri Q)
      refine z0 (op := 0) (a := 0) (b := 0) (by rfl) (by rfl) (?_ : TZ d 242 18 [some (.inl x0), some (.inl x1), some (.inl x2)] [.inl 0] Z (zri Q))
      exact z_retb (by rfl) (by rfl) (by decide) v
    · have v := v2 h7; clear v1 v2
      show TZ d 242 13 [some (.inl x0), some (.inl x1), some (.inl x2)] [] Z (zri Q)
      refine z0 (op := 0) (a := 0) (b := 1) (by rfl) (by rfl) (?_ : TZ d 242 14 [some (.inl x0), some (.inl x1), some (.inl x2)] [.inl 1] Z (zri Q))
      refine z_goto (t := 18) (by rfl) (by rfl) (?_ : TZ d 242 18 [some (.inl x0), some (.inl x1), some (.inl x2)] [.inl 1] Z (zri Q))
      exact z_retb (by rfl) (by rfl) (by decide) v
theorem w243_0 {d : Nat} {x1 x2 x3 x4 : Int} {Z : zM} {Q : Int → zM → Prop}
    (v : zR x1 ∧
      (x1 < 0 → TI d 154 [.inr 100, .inl (-4)] Z (fun r4 Z3 =>
          Q r4 Z3)) ∧
      (¬ x1 < 0 → (zR x2 ∧
          (x2 < 1 → TI d 154 [.inr 100, .inl (-4)] Z (fun r8 Z7 =>
              Q r8 Z7)) ∧
          (¬ x2 < 1 → (zR x3 ∧
              (0 ≤ x3 → (zR x1 ∧
                  (11 < x1 → TI d 154 [.inr 100, .inl (-6)] Z (fun r14 Z13 =>
                      Q r14 Z13)) ∧
                  (¬ 11 < x1 → (zR x2 ∧
                      (12 < x2 → TI d 154 [.inr 100, .inl (-6)] Z (fun r18 Z17 =>
                          Q r18 Z17)) ∧
                      (¬ 12 < x2 → (zR x3 ∧
                          (x3 ≤ 20 → TI d 155 [.inl x4, .inl 0, .inl 1] Z (fun r22 Z21 =>
                              zR r22 ∧
                                (r22 ≠ 0 → TV d 205 [.inr 100, .inl x3] Z21 (fun Z25 =>
                                    TZ (d + 1) 243 82 [some (.inr 100), some (.inl x1), some (.inl x2), some (.inl x3), some (.inl x4), some (.inl 0), some (.inl 0), some (.inl 0), none, none] [] Z25 (zri Q))) ∧
                                (¬ r22 ≠ 0 → TI d 154 [.inr 100, .inl (-2)] Z21 (fun r27 Z26 =>
                                    Q r27 Z26)))) ∧
                          (¬ x3 ≤ 20 → TI d 154 [.inr 100, .inl (-6)] Z (fun r29 Z28 =>
                              Q r29 Z28)))))))) ∧
              (¬ 0 ≤ x3 → TI d 154 [.inr 100, .inl (-4)] Z (fun r31 Z30 =>
                  Q r31 Z30))))))) :
    TZ (d + 1) 243 0 [some (.inr 100), some (.inl x1), some (.inl x2), some (.inl x3), some (.inl x4), none, none, none, none, none] [] Z (zri Q) := by
  refine z0 (op := 3) (a := 1) (b := 0) (by rfl) (by rfl) (?_ : TZ (d + 1) 243 1 [some (.inr 100), some (.inl x1), some (.inl x2), some (.inl x3), some (.inl x4), none, none, none, none, none] [.inl x1] Z (zri Q))
  obtain ⟨c1, v1, v2⟩ := v
  refine z_if0 (a := 2) (t := 13) (by rfl) (by rfl) c1 (fun h2 => ?_) (fun h2 => ?_)
  · have v := v1 h2; clear v1 v2
    show TZ (d + 1) 243 13 [some (.inr 100), some (.inl x1), some (.inl x2), some (.inl x3), some (.inl x4), none, none, none, none, none] [] Z (zri Q)
    refine z0 (op := 1) (a := 0) (b := (-4)) (by rfl) (by rfl) (?_ : TZ (d + 1) 243 15 [some (.inr 100), some (.inl x1), some (.inl x2), some (.inl x3), some (.inl x4), none, none, none, none, none] [.inl (-4)] Z (zri Q))
    refine z_goto (t := 57) (by rfl) (by rfl) (?_ : TZ (d + 1) 243 57 [some (.inr 100), some (.inl x1), some (.inl x2), some (.inl x3), some (.inl x4), none, none, none, none, none] [.inl (-4)] Z (zri Q))
    refine z0 (op := 8) (a := 5) (b := 0) (by rfl) (by rfl) (?_ : TZ (d + 1) 243 59 [some (.inr 100), some (.inl x1), some (.inl x2), some (.inl x3), some (.inl x4), some (.inl (-4)), none, none, none, none] [] Z (zri Q))
    refine z0 (op := 4) (a := 5) (b := 0) (by rfl) (by rfl) (?_ : TZ (d + 1) 243 61 [some (.inr 100), some (.inl x1), some (.inl x2), some (.inl x3), some (.inl x4), some (.inl (-4)), none, none, none, none] [.inl (-4)] Z (zri Q))
    refine z_if0 (a := 0) (t := 71) (by rfl) (by rfl) (by decide) (fun h => absurd (show ((-4) : Int) = (0 : Int) from h) (by decide)) (fun _ => ?_)
    show TZ (d + 1) 243 64 [some (.inr 100), some (.inl x1), some (.inl x2), some (.inl x3), some (.inl x4), some (.inl (-4)), none, none, none, none] [] Z (zri Q)
    refine z0 (op := 5) (a := 0) (b := 0) (by rfl) (by rfl) (?_ : TZ (d + 1) 243 65 [some (.inr 100), some (.inl x1), some (.inl x2), some (.inl x3), some (.inl x4), some (.inl (-4)), none, none, none, none] [.inr 100] Z (zri Q))
    refine z0 (op := 4) (a := 5) (b := 0) (by rfl) (by rfl) (?_ : TZ (d + 1) 243 67 [some (.inr 100), some (.inl x1), some (.inl x2), some (.inl x3), some (.inl x4), some (.inl (-4)), none, none, none, none] [.inl (-4), .inr 100] Z (zri Q))
    refine z_vi (by rfl) (by rfl) cl_100 (TI.mono v fun r4 Z3 v => ?_)
    show TZ (d + 1) 243 70 [some (.inr 100), some (.inl x1), some (.inl x2), some (.inl x3), some (.inl x4), some (.inl (-4)), none, none, none, none] [.inl r4] Z3 (zri Q)
    exact z_reti (by rfl) (by rfl) v
  · have v := v2 h2; clear v1 v2
    show TZ (d + 1) 243 4 [some (.inr 100), some (.inl x1), some (.inl x2), some (.inl x3), some (.inl x4), none, none, none, none, none] [] Z (zri Q)
    refine z0 (op := 3) (a := 2) (b := 0) (by rfl) (by rfl) (?_ : TZ (d + 1) 243 5 [some (.inr 100), some (.inl x1), some (.inl x2), some (.inl x3), some (.inl x4), none, none, none, none, none] [.inl x2] Z (zri Q))
    refine z0 (op := 0) (a := 0) (b := 1) (by rfl) (by rfl) (?_ : TZ (d + 1) 243 6 [some (.inr 100), some (.inl x1), some (.inl x2), some (.inl x3), some (.inl x4), none, none, none, none, none] [.inl 1, .inl x2] Z (zri Q))
    obtain ⟨c5, v1, v2⟩ := v
    refine z_if2 (a := 2) (t := 13) (by rfl) (by rfl) c5 (by decide) (fun h6 => ?_) (fun h6 => ?_)
    · have v := v1 h6; clear v1 v2
      show TZ (d + 1) 243 13 [some (.inr 100), some (.inl x1), some (.inl x2), some (.inl x3), some (.inl x4), none, none, none, none, none] [] Z (zri Q)
      refine z0 (op := 1) (a := 0) (b := (-4)) (by rfl) (by rfl) (?_ : TZ (d + 1) 243 15 [some (.inr 100), some (.inl x1), some (.inl x2), some (.inl x3), some (.inl x4), none, none, none, none, none] [.inl (-4)] Z (zri Q))
      refine z_goto (t := 57) (by rfl) (by rfl) (?_ : TZ (d + 1) 243 57 [some (.inr 100), some (.inl x1), some (.inl x2), some (.inl x3), some (.inl x4), none, none, none, none, none] [.inl (-4)] Z (zri Q))
      refine z0 (op := 8) (a := 5) (b := 0) (by rfl) (by rfl) (?_ : TZ (d + 1) 243 59 [some (.inr 100), some (.inl x1), some (.inl x2), some (.inl x3), some (.inl x4), some (.inl (-4)), none, none, none, none] [] Z (zri Q))
      refine z0 (op := 4) (a := 5) (b := 0) (by rfl) (by rfl) (?_ : TZ (d + 1) 243 61 [some (.inr 100), some (.inl x1), some (.inl x2), some (.inl x3), some (.inl x4), some (.inl (-4)), none, none, none, none] [.inl (-4)] Z (zri Q))
      refine z_if0 (a := 0) (t := 71) (by rfl) (by rfl) (by decide) (fun h => absurd (show ((-4) : Int) = (0 : Int) from h) (by decide)) (fun _ => ?_)
      show TZ (d + 1) 243 64 [some (.inr 100), some (.inl x1), some (.inl x2), some (.inl x3), some (.inl x4), some (.inl (-4)), none, none, none, none] [] Z (zri Q)
      refine z0 (op := 5) (a := 0) (b := 0) (by rfl) (by rfl) (?_ : TZ (d + 1) 243 65 [some (.inr 100), some (.inl x1), some (.inl x2), some (.inl x3), some (.inl x4), some (.inl (-4)), none, none, none, none] [.inr 100] Z (zri Q))
      refine z0 (op := 4) (a := 5) (b := 0) (by rfl) (by rfl) (?_ : TZ (d + 1) 243 67 [some (.inr 100), some (.inl x1), some (.inl x2), some (.inl x3), some (.inl x4), some (.inl (-4)), none, none, none, none] [.inl (-4), .inr 100] Z (zri Q))
      refine z_vi (by rfl) (by rfl) cl_100 (TI.mono v fun r8 Z7 v => ?_)
      show TZ (d + 1) 243 70 [some (.inr 100), some (.inl x1), some (.inl x2), some (.inl x3), some (.inl x4), some (.inl (-4)), none, none, none, none] [.inl r8] Z7 (zri Q)
      exact z_reti (by rfl) (by rfl) v
    · have v := v2 h6; clear v1 v2
      show TZ (d + 1) 243 9 [some (.inr 100), some (.inl x1), some (.inl x2), some (.inl x3), some (.inl x4), none, none, none, none, none] [] Z (zri Q)
      refine z0 (op := 3) (a := 3) (b := 0) (by rfl) (by rfl) (?_ : TZ (d + 1) 243 10 [some (.inr 100), some (.inl x1), some (.inl x2), some (.inl x3), some (.inl x4), none, none, none, none, none] [.inl x3] Z (zri Q))
      obtain ⟨c9, v1, v2⟩ := v
      refine z_if0 (a := 3) (t := 18) (by rfl) (by rfl) c9 (fun h10 => ?_) (fun h10 => ?_)
      · have v := v1 h10; clear v1 v2
        show TZ (d + 1) 243 18 [some (.inr 100), some (.inl x1), some (.inl x2), some (.inl x3), some (.inl x4), none, none, none, none, none] [] Z (zri Q)
        refine z0 (op := 3) (a := 1) (b := 0) (by rfl) (by rfl) (?_ : TZ (d + 1) 243 19 [some (.inr 100), some (.inl x1), some (.inl x2), some (.inl x3), some (.inl x4), none, none, none, none, none] [.inl x1] Z (zri Q))
        refine z0 (op := 1) (a := 0) (b := 11) (by rfl) (by rfl) (?_ : TZ (d + 1) 243 21 [some (.inr 100), some (.inl x1), some (.inl x2), some (.inl x3), some (.inl x4), none, none, none, none, none] [.inl 11, .inl x1] Z (zri Q))
        obtain ⟨c11, v1, v2⟩ := v
        refine z_if2 (a := 4) (t := 36) (by rfl) (by rfl) c11 (by decide) (fun h12 => ?_) (fun h12 => ?_)
        · have v := v1 h12; clear v1 v2
          show TZ (d + 1) 243 36 [some (.inr 100), some (.inl x1), some (.inl x2), some (.inl x3), some (.inl x4), none, none, none, none, none] [] Z (zri Q)
          refine z0 (op := 1) (a := 0) (b := (-6)) (by rfl) (by rfl) (?_ : TZ (d + 1) 243 38 [some (.inr 100), some (.inl x1), some (.inl x2), some (.inl x3), some (.inl x4), none, none, none, none, none] [.inl (-6)] Z (zri Q))
          refine z_goto (t := 57) (by rfl) (by rfl) (?_ : TZ (d + 1) 243 57 [some (.inr 100), some (.inl x1), some (.inl x2), some (.inl x3), some (.inl x4), none, none, none, none, none] [.inl (-6)] Z (zri Q))
          refine z0 (op := 8) (a := 5) (b := 0) (by rfl) (by rfl) (?_ : TZ (d + 1) 243 59 [some (.inr 100), some (.inl x1), some (.inl x2), some (.inl x3), some (.inl x4), some (.inl (-6)), none, none, none, none] [] Z (zri Q))
          refine z0 (op := 4) (a := 5) (b := 0) (by rfl) (by rfl) (?_ : TZ (d + 1) 243 61 [some (.inr 100), some (.inl x1), some (.inl x2), some (.inl x3), some (.inl x4), some (.inl (-6)), none, none, none, none] [.inl (-6)] Z (zri Q))
          refine z_if0 (a := 0) (t := 71) (by rfl) (by rfl) (by decide) (fun h => absurd (show ((-6) : Int) = (0 : Int) from h) (by decide)) (fun _ => ?_)
          show TZ (d + 1) 243 64 [some (.inr 100), some (.inl x1), some (.inl x2), some (.inl x3), some (.inl x4), some (.inl (-6)), none, none, none, none] [] Z (zri Q)
          refine z0 (op := 5) (a := 0) (b := 0) (by rfl) (by rfl) (?_ : TZ (d + 1) 243 65 [some (.inr 100), some (.inl x1), some (.inl x2), some (.inl x3), some (.inl x4), some (.inl (-6)), none, none, none, none] [.inr 100] Z (zri Q))
          refine z0 (op := 4) (a := 5) (b := 0) (by rfl) (by rfl) (?_ : TZ (d + 1) 243 67 [some (.inr 100), some (.inl x1), some (.inl x2), some (.inl x3), some (.inl x4), some (.inl (-6)), none, none, none, none] [.inl (-6), .inr 100] Z (zri Q))
          refine z_vi (by rfl) (by rfl) cl_100 (TI.mono v fun r14 Z13 v => ?_)
          show TZ (d + 1) 243 70 [some (.inr 100), some (.inl x1), some (.inl x2), some (.inl x3), some (.inl x4), some (.inl (-6)), none, none, none, none] [.inl r14] Z13 (zri Q)
          exact z_reti (by rfl) (by rfl) v
        · have v := v2 h12; clear v1 v2
          show TZ (d + 1) 243 24 [some (.inr 100), some (.inl x1), some (.inl x2), some (.inl x3), some (.inl x4), none, none, none, none, none] [] Z (zri Q)
          refine z0 (op := 3) (a := 2) (b := 0) (by rfl) (by rfl) (?_ : TZ (d + 1) 243 25 [some (.inr 100), some (.inl x1), some (.inl x2), some (.inl x3), some (.inl x4), none, none, none, none, none] [.inl x2] Z (zri Q))
          refine z0 (op := 1) (a := 0) (b := 12) (by rfl) (by rfl) (?_ : TZ (d + 1) 243 27 [some (.inr 100), some (.inl x1), some (.inl x2), some (.inl x3), some (.inl x4), none, none, none, none, none] [.inl 12, .inl x2] Z (zri Q))
          obtain ⟨c15, v1, v2⟩ := v
          refine z_if2 (a := 4) (t := 36) (by rfl) (by rfl) c15 (by decide) (fun h16 => ?_) (fun h16 => ?_)
          · have v := v1 h16; clear v1 v2
            show TZ (d + 1) 243 36 [some (.inr 100), some (.inl x1), some (.inl x2), some (.inl x3), some (.inl x4), none, none, none, none, none] [] Z (zri Q)
            refine z0 (op := 1) (a := 0) (b := (-6)) (by rfl) (by rfl) (?_ : TZ (d + 1) 243 38 [some (.inr 100), some (.inl x1), some (.inl x2), some (.inl x3), some (.inl x4), none, none, none, none, none] [.inl (-6)] Z (zri Q))
            refine z_goto (t := 57) (by rfl) (by rfl) (?_ : TZ (d + 1) 243 57 [some (.inr 100), some (.inl x1), some (.inl x2), some (.inl x3), some (.inl x4), none, none, none, none, none] [.inl (-6)] Z (zri Q))
            refine z0 (op := 8) (a := 5) (b := 0) (by rfl) (by rfl) (?_ : TZ (d + 1) 243 59 [some (.inr 100), some (.inl x1), some (.inl x2), some (.inl x3), some (.inl x4), some (.inl (-6)), none, none, none, none] [] Z (zri Q))
            refine z0 (op := 4) (a := 5) (b := 0) (by rfl) (by rfl) (?_ : TZ (d + 1) 243 61 [some (.inr 100), some (.inl x1), some (.inl x2), some (.inl x3), some (.inl x4), some (.inl (-6)), none, none, none, none] [.inl (-6)] Z (zri Q))
            refine z_if0 (a := 0) (t := 71) (by rfl) (by rfl) (by decide) (fun h => absurd (show ((-6) : Int) = (0 : Int) from h) (by decide)) (fun _ => ?_)
            show TZ (d + 1) 243 64 [some (.inr 100), some (.inl x1), some (.inl x2), some (.inl x3), some (.inl x4), some (.inl (-6)), none, none, none, none] [] Z (zri Q)
            refine z0 (op := 5) (a := 0) (b := 0) (by rfl) (by rfl) (?_ : TZ (d + 1) 243 65 [some (.inr 100), some (.inl x1), some (.inl x2), some (.inl x3), some (.inl x4), some (.inl (-6)), none, none, none, none] [.inr 100] Z (zri Q))
            refine z0 (op := 4) (a := 5) (b := 0) (by rfl) (by rfl) (?_ : TZ (d + 1) 243 67 [some (.inr 100), some (.inl x1), some (.inl x2), some (.inl x3), some (.inl x4), some (.inl (-6)), none, none, none, none] [.inl (-6), .inr 100] Z (zri Q))
            refine z_vi (by rfl) (by rfl) cl_100 (TI.mono v fun r18 Z17 v => ?_)
            show TZ (d + 1) 243 70 [some (.inr 100), some (.inl x1), some (.inl x2), some (.inl x3), some (.inl x4), some (.inl (-6)), none, none, none, none] [.inl r18] Z17 (zri Q)
            exact z_reti (by rfl) (by rfl) v
          · have v := v2 h16; clear v1 v2
            show TZ (d + 1) 243 30 [some (.inr 100), some (.inl x1), some (.inl x2), some (.inl x3), some (.inl x4), none, none, none, none, none] [] Z (zri Q)
            refine z0 (op := 3) (a := 3) (b := 0) (by rfl) (by rfl) (?_ : TZ (d + 1) 243 31 [some (.inr 100), some (.inl x1), some (.inl x2), some (.inl x3), some (.inl x4), none, none, none, none, none] [.inl x3] Z (zri Q))
            refine z0 (op := 1) (a := 0) (b := 20) (by rfl) (by rfl) (?_ : TZ (d + 1) 243 33 [some (.inr 100), some (.inl x1), some (.inl x2), some (.inl x3), some (.inl x4), none, none, none, none, none] [.inl 20, .inl x3] Z (zri Q))
            obtain ⟨c19, v1, v2⟩ := v
            refine z_if2 (a := 5) (t := 41) (by rfl) (by rfl) c19 (by decide) (fun h20 => ?_) (fun h20 => ?_)
            · have v := v1 h20; clear v1 v2
              show TZ (d + 1) 243 41 [some (.inr 100), some (.inl x1), some (.inl x2), some (.inl x3), some (.inl x4), none, none, none, none, none] [] Z (zri Q)
              refine z0 (op := 4) (a := 4) (b := 0) (by rfl) (by rfl) (?_ : TZ (d + 1) 243 43 [some (.inr 100), some (.inl x1), some (.inl x2), some (.inl x3), some (.inl x4), none, none, none, none, none] [.inl x4] Z (zri Q))
              refine z0 (op := 0) (a := 0) (b := 0) (by rfl) (by rfl) (?_ : TZ (d + 1) 243 44 [some (.inr 100), some (.inl x1), some (.inl x2), some (.inl x3), some (.inl x4), none, none, none, none, none] [.inl 0, .inl x4] Z (zri Q))
              refine z0 (op := 0) (a := 0) (b := 1) (by rfl) (by rfl) (?_ : TZ (d + 1) 243 45 [some (.inr 100), some (.inl x1), some (.inl x2), some (.inl x3), some (.inl x4), none, none, none, none, none] [.inl 1, .inl 0, .inl x4] Z (zri Q))
              refine z_si (by rfl) (by rfl) (TI.mono v fun r22 Z21 v => ?_)
              show TZ (d + 1) 243 48 [some (.inr 100), some (.inl x1), some (.inl x2), some (.inl x3), some (.inl x4), none, none, none, none, none] [.inl r22] Z21 (zri Q)
              obtain ⟨c23, v1, v2⟩ := v
              refine z_if0 (a := 1) (t := 56) (by rfl) (by rfl) c23 (fun h24 => ?_) (fun h24 => ?_)
              · have v := v1 h24; clear v1 v2
                show TZ (d + 1) 243 56 [some (.inr 100), some (.inl x1), some (.inl x2), some (.inl x3), some (.inl x4), none, none, none, none, none] [] Z21 (zri Q)
                refine z0 (op := 0) (a := 0) (b := 0) (by rfl) (by rfl) (?_ : TZ (d + 1) 243 57 [some (.inr 100), some (.inl x1), some (.inl x2), some (.inl x3), some (.inl x4), none, none, none, none, none] [.inl 0] Z21 (zri Q))
                refine z0 (op := 8) (a := 5) (b := 0) (by rfl) (by rfl) (?_ : TZ (d + 1) 243 59 [some (.inr 100), some (.inl x1), some (.inl x2), some (.inl x3), some (.inl x4), some (.inl 0), none, none, none, none] [] Z21 (zri Q))
                refine z0 (op := 4) (a := 5) (b := 0) (by rfl) (by rfl) (?_ : TZ (d + 1) 243 61 [some (.inr 100), some (.inl x1), some (.inl x2), some (.inl x3), some (.inl x4), some (.inl 0), none, none, none, none] [.inl 0] Z21 (zri Q))
                refine z_if0 (a := 0) (t := 71) (by rfl) (by rfl) (by decide) (fun _ => ?_) (fun h => absurd (show (0 : Int) = (0 : Int) by decide) h)
                show TZ (d + 1) 243 71 [some (.inr 100), some (.inl x1), some (.inl x2), some (.inl x3), some (.inl x4), some (.inl 0), none, none, none, none] [] Z21 (zri Q)
                refine z0 (op := 5) (a := 0) (b := 0) (by rfl) (by rfl) (?_ : TZ (d + 1) 243 72 [some (.inr 100), some (.inl x1), some (.inl x2), some (.inl x3), some (.inl x4), some (.inl 0), none, none, none, none] [.inr 100] Z21 (zri Q))
                refine z0 (op := 3) (a := 3) (b := 0) (by rfl) (by rfl) (?_ : TZ (d + 1) 243 73 [some (.inr 100), some (.inl x1), some (.inl x2), some (.inl x3), some (.inl x4), some (.inl 0), none, none, none, none] [.inl x3, .inr 100] Z21 (zri Q))
                refine z_vv (by rfl) (by rfl) cl_100 (TV.mono v fun Z25 v => ?_)
                show TZ (d + 1) 243 76 [some (.inr 100), some (.inl x1), some (.inl x2), some (.inl x3), some (.inl x4), some (.inl 0), none, none, none, none] [] Z25 (zri Q)
                refine z0 (op := 0) (a := 0) (b := 0) (by rfl) (by rfl) (?_ : TZ (d + 1) 243 77 [some (.inr 100), some (.inl x1), some (.inl x2), some (.inl x3), some (.inl x4), some (.inl 0), none, none, none, none] [.inl 0] Z25 (zri Q))
                refine z0 (op := 8) (a := 6) (b := 0) (by rfl) (by rfl) (?_ : TZ (d + 1) 243 79 [some (.inr 100), some (.inl x1), some (.inl x2), some (.inl x3), some (.inl x4), some (.inl 0), some (.inl 0), none, none, none] [] Z25 (zri Q))
                refine z0 (op := 0) (a := 0) (b := 0) (by rfl) (by rfl) (?_ : TZ (d + 1) 243 80 [some (.inr 100), some (.inl x1), some (.inl x2), some (.inl x3), some (.inl x4), some (.inl 0), some (.inl 0), none, none, none] [.inl 0] Z25 (zri Q))
                refine z0 (op := 8) (a := 7) (b := 0) (by rfl) (by rfl) (?_ : TZ (d + 1) 243 82 [some (.inr 100), some (.inl x1), some (.inl x2), some (.inl x3), some (.inl x4), some (.inl 0), some (.inl 0), some (.inl 0), none, none] [] Z25 (zri Q))
                exact v
              · have v := v2 h24; clear v1 v2
                show TZ (d + 1) 243 51 [some (.inr 100), some (.inl x1), some (.inl x2), some (.inl x3), some (.inl x4), none, none, none, none, none] [] Z21 (zri Q)
                refine z0 (op := 1) (a := 0) (b := (-2)) (by rfl) (by rfl) (?_ : TZ (d + 1) 243 53 [some (.inr 100), some (.inl x1), some (.inl x2), some (.inl x3), some (.inl x4), none, none, none, none, none] [.inl (-2)] Z21 (zri Q))
                refine z_goto (t := 57) (by rfl) (by rfl) (?_ : TZ (d + 1) 243 57 [some (.inr 100), some (.inl x1), some (.inl x2), some (.inl x3), some (.inl x4), none, none, none, none, none] [.inl (-2)] Z21 (zri Q))
                refine z0 (op := 8) (a := 5) (b := 0) (by rfl) (by rfl) (?_ : TZ (d + 1) 243 59 [some (.inr 100), some (.inl x1), some (.inl x2), some (.inl x3), some (.inl x4), some (.inl (-2)), none, none, none, none] [] Z21 (zri Q))
                refine z0 (op := 4) (a := 5) (b := 0) (by rfl) (by rfl) (?_ : TZ (d + 1) 243 61 [some (.inr 100), some (.inl x1), some (.inl x2), some (.inl x3), some (.inl x4), some (.inl (-2)), none, none, none, none] [.inl (-2)] Z21 (zri Q))
                refine z_if0 (a := 0) (t := 71) (by rfl) (by rfl) (by decide) (fun h => absurd (show ((-2) : Int) = (0 : Int) from h) (by decide)) (fun _ => ?_)
                show TZ (d + 1) 243 64 [some (.inr 100), some (.inl x1), some (.inl x2), some (.inl x3), some (.inl x4), some (.inl (-2)), none, none, none, none] [] Z21 (zri Q)
                refine z0 (op := 5) (a := 0) (b := 0) (by rfl) (by rfl) (?_ : TZ (d + 1) 243 65 [some (.inr 100), some (.inl x1), some (.inl x2), some (.inl x3), some (.inl x4), some (.inl (-2)), none, none, none, none] [.inr 100] Z21 (zri Q))
                refine z0 (op := 4) (a := 5) (b := 0) (by rfl) (by rfl) (?_ : TZ (d + 1) 243 67 [some (.inr 100), some (.inl x1), some (.inl x2), some (.inl x3), some (.inl x4), some (.inl (-2)), none, none, none, none] [.inl (-2), .inr 100] Z21 (zri Q))
                refine z_vi (by rfl) (by rfl) cl_100 (TI.mono v fun r27 Z26 v => ?_)
                show TZ (d + 1) 243 70 [some (.inr 100), some (.inl x1), some (.inl x2), some (.inl x3), some (.inl x4), some (.inl (-2)), none, none, none, none] [.inl r27] Z26 (zri Q)
                exact z_reti (by rfl) (by rfl) v
            · have v := v2 h20; clear v1 v2
              show TZ (d + 1) 243 36 [some (.inr 100), some (.inl x1), some (.inl x2), some (.inl x3), some (.inl x4), none, none, none, none, none] [] Z (zri Q)
              refine z0 (op := 1) (a := 0) (b := (-6)) (by rfl) (by rfl) (?_ : TZ (d + 1) 243 38 [some (.inr 100), some (.inl x1), some (.inl x2), some (.inl x3), some (.inl x4), none, none, none, none, none] [.inl (-6)] Z (zri Q))
              refine z_goto (t := 57) (by rfl) (by rfl) (?_ : TZ (d + 1) 243 57 [some (.inr 100), some (.inl x1), some (.inl x2), some (.inl x3), some (.inl x4), none, none, none, none, none] [.inl (-6)] Z (zri Q))
              refine z0 (op := 8) (a := 5) (b := 0) (by rfl) (by rfl) (?_ : TZ (d + 1) 243 59 [some (.inr 100), some (.inl x1), some (.inl x2), some (.inl x3), some (.inl x4), some (.inl (-6)), none, none, none, none] [] Z (zri Q))
              refine z0 (op := 4) (a := 5) (b := 0) (by rfl) (by rfl) (?_ : TZ (d + 1) 243 61 [some (.inr 100), some (.inl x1), some (.inl x2), some (.inl x3), some (.inl x4), some (.inl (-6)), none, none, none, none] [.inl (-6)] Z (zri Q))
              refine z_if0 (a := 0) (t := 71) (by rfl) (by rfl) (by decide) (fun h => absurd (show ((-6) : Int) = (0 : Int) from h) (by decide)) (fun _ => ?_)
              show TZ (d + 1) 243 64 [some (.inr 100), some (.inl x1), some (.inl x2), some (.inl x3), some (.inl x4), some (.inl (-6)), none, none, none, none] [] Z (zri Q)
              refine z0 (op := 5) (a := 0) (b := 0) (by rfl) (by rfl) (?_ : TZ (d + 1) 243 65 [some (.inr 100), some (.inl x1), some (.inl x2), some (.inl x3), some (.inl x4), some (.inl (-6)), none, none, none, none] [.inr 100] Z (zri Q))
              refine z0 (op := 4) (a := 5) (b := 0) (by rfl) (by rfl) (?_ : TZ (d + 1) 243 67 [some (.inr 100), some (.inl x1), some (.inl x2), some (.inl x3), some (.inl x4), some (.inl (-6)), none, none, none, none] [.inl (-6), .inr 100] Z (zri Q))
              refine z_vi (by rfl) (by rfl) cl_100 (TI.mono v fun r29 Z28 v => ?_)
              show TZ (d + 1) 243 70 [some (.inr 100), some (.inl x1), some (.inl x2), some (.inl x3), some (.inl x4), some (.inl (-6)), none, none, none, none] [.inl r29] Z28 (zri Q)
              exact z_reti (by rfl) (by rfl) v
      · have v := v2 h10; clear v1 v2
        show TZ (d + 1) 243 13 [some (.inr 100), some (.inl x1), some (.inl x2), some (.inl x3), some (.inl x4), none, none, none, none, none] [] Z (zri Q)
        refine z0 (op := 1) (a := 0) (b := (-4)) (by rfl) (by rfl) (?_ : TZ (d + 1) 243 15 [some (.inr 100), some (.inl x1), some (.inl x2), some (.inl x3), some (.inl x4), none, none, none, none, none] [.inl (-4)] Z (zri Q))
        refine z_goto (t := 57) (by rfl) (by rfl) (?_ : TZ (d + 1) 243 57 [some (.inr 100), some (.inl x1), some (.inl x2), some (.inl x3), some (.inl x4), none, none, none, none, none] [.inl (-4)] Z (zri Q))
        refine z0 (op := 8) (a := 5) (b := 0) (by rfl) (by rfl) (?_ : TZ (d + 1) 243 59 [some (.inr 100), some (.inl x1), some (.inl x2), some (.inl x3), some (.inl x4), some (.inl (-4)), none, none, none, none] [] Z (zri Q))
        refine z0 (op := 4) (a := 5) (b := 0) (by rfl) (by rfl) (?_ : TZ (d + 1) 243 61 [some (.inr 100), some (.inl x1), some (.inl x2), some (.inl x3), some (.inl x4), some (.inl (-4)), none, none, none, none] [.inl (-4)] Z (zri Q))
        refine z_if0 (a := 0) (t := 71) (by rfl) (by rfl) (by decide) (fun h => absurd (show ((-4) : Int) = (0 : Int) from h) (by decide)) (fun _ => ?_)
        show TZ (d + 1) 243 64 [some (.inr 100), some (.inl x1), some (.inl x2), some (.inl x3), some (.inl x4), some (.inl (-4)), none, none, none, none] [] Z (zri Q)
        refine z0 (op := 5) (a := 0) (b := 0) (by rfl) (by rfl) (?_ : TZ (d + 1) 243 65 [some (.inr 100), some (.inl x1), some (.inl x2), some (.inl x3), some (.inl x4), some (.inl (-4)), none, none, none, none] [.inr 100] Z (zri Q))
        refine z0 (op := 4) (a := 5) (b := 0) (by rfl) (by rfl) (?_ : TZ (d + 1) 243 67 [some (.inr 100), some (.inl x1), some (.inl x2), some (.inl x3), some (.inl x4), some (.inl (-4)), none, none, none, none] [.inl (-4), .inr 100] Z (zri Q))
        refine z_vi (by rfl) (by rfl) cl_100 (TI.mono v fun r31 Z30 v => ?_)
        show TZ (d + 1) 243 70 [some (.inr 100), some (.inl x1), some (.inl x2), some (.inl x3), some (.inl x4), some (.inl (-4)), none, none, none, none] [.inl r31] Z30 (zri Q)
        exact z_reti (by rfl) (by rfl) v
theorem w243_82 {d : Nat} {x1 x2 x3 x4 x5 x6 x7 : Int} {o8 o9 : Option zV} {Z : zM} {Q : Int → zM → Prop}
    (v : zR x7 ∧
      zR x3 ∧
      (x3 < x7 → Q x6 Z) ∧
      (¬ x3 < x7 → (zR ((Z 100 7) + x7) ∧
          TI d 242 [.inl (Int.tmod ((Z 100 7) + x7) 12), .inl x1, .inl x2] Z (fun r6 Z5 =>
          (0 ≤ x7 ∧ x7 < 64) ∧
            TI d 242 [.inl (Z5 111 x7), .inl x1, .inl x2] Z5 (fun r9 Z8 =>
            zR r6 ∧
              zR r9 ∧
              (r6 = r9 → TZ (d + 1) 243 82 [some (.inr 100), some (.inl x1), some (.inl x2), some (.inl x3), some (.inl x4), some (.inl x5), some (.inl (x6 + 0)), some (.inl (x7 + 1)), some (.inl r6), some (.inl r9)] [] Z8 (zri Q)) ∧
              (¬ r6 = r9 → (zR x4 ∧
                  (x4 ≠ 0 → (zR r6 ∧
                      (r6 ≠ 0 → TZ (d + 1) 243 82 [some (.inr 100), some (.inl x1), some (.inl x2), some (.inl x3), some (.inl x4), some (.inl x5), some (.inl (x6 + 0)), some (.inl (x7 + 1)), some (.inl r6), some (.inl r9)] [] Z8 (zri Q)) ∧
                      (¬ r6 ≠ 0 → TZ (d + 1) 243 82 [some (.inr 100), some (.inl x1), some (.inl x2), some (.inl x3), some (.inl x4), some (.inl x5), some (.inl (x6 + 1)), some (.inl (x7 + 1)), some (.inl r6), some (.inl r9)] [] Z8 (zri Q)))) ∧
                  (¬ x4 ≠ 0 → (zR r6 ∧
                      (r6 ≠ 1 → TZ (d + 1) 243 82 [some (.inr 100), some (.inl x1), some (.inl x2), some (.inl x3), some (.inl x4), some (.inl x5), some (.inl (x6 + 0)), some (.inl (x7 + 1)), some (.inl r6), some (.inl r9)] [] Z8 (zri Q)) ∧
                      (¬ r6 ≠ 1 → TZ (d + 1) 243 82 [some (.inr 100), some (.inl x1), some (.inl x2), some (.inl x3), some (.inl x4), some (.inl x5), some (.inl (x6 + 1)), some (.inl (x7 + 1)), some (.inl r6), some (.inl r9)] [] Z8 (zri Q))))))))))) :
    TZ (d + 1) 243 82 [some (.inr 100), some (.inl x1), some (.inl x2), some (.inl x3), some (.inl x4), some (.inl x5), some (.inl x6), some (.inl x7), o8, o9] [] Z (zri Q) := by
  refine z0 (op := 4) (a := 7) (b := 0) (by rfl) (by rfl) (?_ : TZ (d + 1) 243 84 [some (.inr 100), some (.inl x1), some (.inl x2), some (.inl x3), some (.inl x4), some (.inl x5), some (.inl x6), some (.inl x7), o8, o9] [.inl x7] Z (zri Q))
  refine z0 (op := 3) (a := 3) (b := 0) (by rfl) (by rfl) (?_ : TZ (d + 1) 243 85 [some (.inr 100), some (.inl x1), some (.inl x2), some (.inl x3), some (.inl x4), some (.inl x5), some (.inl x6), some (.inl x7), o8, o9] [.inl x3, .inl x7] Z (zri Q))
  obtain ⟨c1, c2, v1, v2⟩ := v
  refine z_if2 (a := 4) (t := 157) (by rfl) (by rfl) c1 c2 (fun h3 => ?_) (fun h3 => ?_)
  · have v := v1 h3; clear v1 v2
    show TZ (d + 1) 243 157 [some (.inr 100), some (.inl x1), some (.inl x2), some (.inl x3), some (.inl x4), some (.inl x5), some (.inl x6), some (.inl x7), o8, o9] [] Z (zri Q)
    refine z0 (op := 4) (a := 6) (b := 0) (by rfl) (by rfl) (?_ : TZ (d + 1) 243 159 [some (.inr 100), some (.inl x1), some (.inl x2), some (.inl x3), some (.inl x4), some (.inl x5), some (.inl x6), some (.inl x7), o8, o9] [.inl x6] Z (zri Q))
    exact z_reti (by rfl) (by rfl) v
  · have v := v2 h3; clear v1 v2
    show TZ (d + 1) 243 88 [some (.inr 100), some (.inl x1), some (.inl x2), some (.inl x3), some (.inl x4), some (.inl x5), some (.inl x6), some (.inl x7), o8, o9] [] Z (zri Q)
    refine z0 (op := 5) (a := 0) (b := 0) (by rfl) (by rfl) (?_ : TZ (d + 1) 243 89 [some (.inr 100), some (.inl x1), some (.inl x2), some (.inl x3), some (.inl x4), some (.inl x5), some (.inl x6), some (.inl x7), o8, o9] [.inr 100] Z (zri Q))
    refine z_fi (by rfl) fi112_100 (?_ : TZ (d + 1) 243 92 [some (.inr 100), some (.inl x1), some (.inl x2), some (.inl x3), some (.inl x4), some (.inl x5), some (.inl x6), some (.inl x7), o8, o9] [.inl (Z 100 7)] Z (zri Q))
    refine z0 (op := 4) (a := 7) (b := 0) (by rfl) (by rfl) (?_ : TZ (d + 1) 243 94 [some (.inr 100), some (.inl x1), some (.inl x2), some (.inl x3), some (.inl x4), some (.inl x5), some (.inl x6), some (.inl x7), o8, o9] [.inl x7, .inl (Z 100 7)] Z (zri Q))
    refine z0 (op := 12) (a := 0) (b := 0) (by rfl) (by rfl) (?_ : TZ (d + 1) 243 95 [some (.inr 100), some (.inl x1), some (.inl x2), some (.inl x3), some (.inl x4), some (.inl x5), some (.inl x6), some (.inl x7), o8, o9] [.inl ((Z 100 7) + x7)] Z (zri Q))
    refine z0 (op := 1) (a := 0) (b := 12) (by rfl) (by rfl) (?_ : TZ (d + 1) 243 97 [some (.inr 100), some (.inl x1), some (.inl x2), some (.inl x3), some (.inl x4), some (.inl x5), some (.inl x6), some (.inl x7), o8, o9] [.inl 12, .inl ((Z 100 7) + x7)] Z (zri Q))
    obtain ⟨c4, v⟩ := v
    refine z_rem (by rfl) c4 (by decide) (?_ : TZ (d + 1) 243 98 [some (.inr 100), some (.inl x1), some (.inl x2), some (.inl x3), some (.inl x4), some (.inl x5), some (.inl x6), some (.inl x7), o8, o9] [.inl (Int.tmod ((Z 100 7) + x7) 12)] Z (zri Q))
    refine z0 (op := 3) (a := 1) (b := 0) (by rfl) (by rfl) (?_ : TZ (d + 1) 243 99 [some (.inr 100), some (.inl x1), some (.inl x2), some (.inl x3), some (.inl x4), some (.inl x5), some (.inl x6), some (.inl x7), o8, o9] [.inl x1, .inl (Int.tmod ((Z 100 7) + x7) 12)] Z (zri Q))
    refine z0 (op := 3) (a := 2) (b := 0) (by rfl) (by rfl) (?_ : TZ (d + 1) 243 100 [some (.inr 100), some (.inl x1), some (.inl x2), some (.inl x3), some (.inl x4), some (.inl x5), some (.inl x6), some (.inl x7), o8, o9] [.inl x2, .inl x1, .inl (Int.tmod ((Z 100 7) + x7) 12)] Z (zri Q))
    refine z_si (by rfl) (by rfl) (TI.mono v fun r6 Z5 v => ?_)
    show TZ (d + 1) 243 103 [some (.inr 100), some (.inl x1), some (.inl x2), some (.inl x3), some (.inl x4), some (.inl x5), some (.inl x6), some (.inl x7), o8, o9] [.inl r6] Z5 (zri Q)
    refine z0 (op := 8) (a := 8) (b := 0) (by rfl) (by rfl) (?_ : TZ (d + 1) 243 105 [some (.inr 100), some (.inl x1), some (.inl x2), some (.inl x3), some (.inl x4), some (.inl x5), some (.inl x6), some (.inl x7), some (.inl r6), o9] [] Z5 (zri Q))
    refine z0 (op := 5) (a := 0) (b := 0) (by rfl) (by rfl) (?_ : TZ (d + 1) 243 106 [some (.inr 100), some (.inl x1), some (.inl x2), some (.inl x3), some (.inl x4), some (.inl x5), some (.inl x6), some (.inl x7), some (.inl r6), o9] [.inr 100] Z5 (zri Q))
    refine z_fr (by rfl) fr98_100 (?_ : TZ (d + 1) 243 109 [some (.inr 100), some (.inl x1), some (.inl x2), some (.inl x3), some (.inl x4), some (.inl x5), some (.inl x6), some (.inl x7), some (.inl r6), o9] [.inr 111] Z5 (zri Q))
    refine z0 (op := 4) (a := 7) (b := 0) (by rfl) (by rfl) (?_ : TZ (d + 1) 243 111 [some (.inr 100), some (.inl x1), some (.inl x2), some (.inl x3), some (.inl x4), some (.inl x5), some (.inl x6), some (.inl x7), some (.inl r6), o9] [.inl x7, .inr 111] Z5 (zri Q))
    obtain ⟨c7, v⟩ := v
    refine z_al (by rfl) ln_111 c7 (?_ : TZ (d + 1) 243 112 [some (.inr 100), some (.inl x1), some (.inl x2), some (.inl x3), some (.inl x4), some (.inl x5), some (.inl x6), some (.inl x7), some (.inl r6), o9] [.inl (Z5 111 x7)] Z5 (zri Q))
    refine z0 (op := 3) (a := 1) (b := 0) (by rfl) (by rfl) (?_ : TZ (d + 1) 243 113 [some (.inr 100), some (.inl x1), some (.inl x2), some (.inl x3), some (.inl x4), some (.inl x5), some (.inl x6), some (.inl x7), some (.inl r6), o9] [.inl x1, .inl (Z5 111 x7)] Z5 (zri Q))
    refine z0 (op := 3) (a := 2) (b := 0) (by rfl) (by rfl) (?_ : TZ (d + 1) 243 114 [some (.inr 100), some (.inl x1), some (.inl x2), some (.inl x3), some (.inl x4), some (.inl x5), some (.inl x6), some (.inl x7), some (.inl r6), o9] [.inl x2, .inl x1, .inl (Z5 111 x7)] Z5 (zri Q))
    refine z_si (by rfl) (by rfl) (TI.mono v fun r9 Z8 v => ?_)
    show TZ (d + 1) 243 117 [some (.inr 100), some (.inl x1), some (.inl x2), some (.inl x3), some (.inl x4), some (.inl x5), some (.inl x6), some (.inl x7), some (.inl r6), o9] [.inl r9] Z8 (zri Q)
    refine z0 (op := 8) (a := 9) (b := 0) (by rfl) (by rfl) (?_ : TZ (d + 1) 243 119 [some (.inr 100), some (.inl x1), some (.inl x2), some (.inl x3), some (.inl x4), some (.inl x5), some (.inl x6), some (.inl x7), some (.inl r6), some (.inl r9)] [] Z8 (zri Q))
    refine z0 (op := 4) (a := 6) (b := 0) (by rfl) (by rfl) (?_ : TZ (d + 1) 243 121 [some (.inr 100), some (.inl x1), some (.inl x2), some (.inl x3), some (.inl x4), some (.inl x5), some (.inl x6), some (.inl x7), some (.inl r6), some (.inl r9)] [.inl x6] Z8 (zri Q))
    refine z0 (op := 4) (a := 8) (b := 0) (by rfl) (by rfl) (?_ : TZ (d + 1) 243 123 [some (.inr 100), some (.inl x1), some (.inl x2), some (.inl x3), some (.inl x4), some (.inl x5), some (.inl x6), some (.inl x7), some (.inl r6), some (.inl r9)] [.inl r6, .inl x6] Z8 (zri Q))
    refine z0 (op := 4) (a := 9) (b := 0) (by rfl) (by rfl) (?_ : TZ (d + 1) 243 125 [some (.inr 100), some (.inl x1), some (.inl x2), some (.inl x3), some (.inl x4), some (.inl x5), some (.inl x6), some (.inl x7), some (.inl r6), some (.inl r9)] [.inl r9, .inl r6, .inl x6] Z8 (zri Q))
    obtain ⟨c10, c11, v1, v2⟩ := v
    refine z_if2 (a := 0) (t := 147) (by rfl) (by rfl) c10 c11 (fun h12 => ?_) (fun h12 => ?_)
    · have v := v1 h12; clear v1 v2
      show TZ (d + 1) 243 147 [some (.inr 100), some (.inl x1), some (.inl x2), some (.inl x3), some (.inl x4), some (.inl x5), some (.inl x6), some (.inl x7), some (.inl r6), some (.inl r9)] [.inl x6] Z8 (zri Q)
      refine z0 (op := 0) (a := 0) (b := 0) (by rfl) (by rfl) (?_ : TZ (d + 1) 243 148 [some (.inr 100), some (.inl x1), some (.inl x2), some (.inl x3), some (.inl x4), some (.inl x5), some (.inl x6), some (.inl x7), some (.inl r6), some (.inl r9)] [.inl 0, .inl x6] Z8 (zri Q))
      refine z0 (op := 12) (a := 0) (b := 0) (by rfl) (by rfl) (?_ : TZ (d + 1) 243 149 [some (.inr 100), some (.inl x1), some (.inl x2), some (.inl x3), some (.inl x4), some (.inl x5), some (.inl x6), some (.inl x7), some (.inl r6), some (.inl r9)] [.inl (x6 + 0)] Z8 (zri Q))
      refine z0 (op := 8) (a := 6) (b := 0) (by rfl) (by rfl) (?_ : TZ (d + 1) 243 151 [some (.inr 100), some (.inl x1), some (.inl x2), some (.inl x3), some (.inl x4), some (.inl x5), some (.inl (x6 + 0)), some (.inl x7), some (.inl r6), some (.inl r9)] [] Z8 (zri Q))
      refine z0 (op := 11) (a := 7) (b := 1) (by rfl) (by rfl) (?_ : TZ (d + 1) 243 154 [some (.inr 100), some (.inl x1), some (.inl x2), some (.inl x3), some (.inl x4), some (.inl x5), some (.inl (x6 + 0)), some (.inl (x7 + 1)), some (.inl r6), some (.inl r9)] [] Z8 (zri Q))
      refine z_goto (t := 82) (by rfl) (by rfl) (?_ : TZ (d + 1) 243 82 [some (.inr 100), some (.inl x1), some (.inl x2), some (.inl x3), some (.inl x4), some (.inl x5), some (.inl (x6 + 0)), some (.inl (x7 + 1)), some (.inl r6), some (.inl r9)] [] Z8 (zri Q))
      exact v
    · have v := v2 h12; clear v1 v2
      show TZ (d + 1) 243 128 [some (.inr 100), some (.inl x1), some (.inl x2), some (.inl x3), some (.inl x4), some (.inl x5), some (.inl x6), some (.inl x7), some (.inl r6), some (.inl r9)] [.inl x6] Z8 (zri Q)
      refine z0 (op := 4) (a := 8) (b := 0) (by rfl) (by rfl) (?_ : TZ (d + 1) 243 130 [some (.inr 100), some (.inl x1), some (.inl x2), some (.inl x3), some (.inl x4), some (.inl x5), some (.inl x6), some (.inl x7), some (.inl r6), some (.inl r9)] [.inl r6, .inl x6] Z8 (zri Q))
      refine z0 (op := 4) (a := 4) (b := 0) (by rfl) (by rfl) (?_ : TZ (d + 1) 243 132 [some (.inr 100), some (.inl x1), some (.inl x2), some (.inl x3), some (.inl x4), some (.inl x5), some (.inl x6), some (.inl x7), some (.inl r6), some (.inl r9)] [.inl x4, .inl r6, .inl x6] Z8 (zri Q))
      obtain ⟨c13, v1, v2⟩ := v
      refine z_if0 (a := 1) (t := 139) (by rfl) (by rfl) c13 (fun h14 => ?_) (fun h14 => ?_)
      · have v := v1 h14; clear v1 v2
        show TZ (d + 1) 243 139 [some (.inr 100), some (.inl x1), some (.inl x2), some (.inl x3), some (.inl x4), some (.inl x5), some (.inl x6), some (.inl x7), some (.inl r6), some (.inl r9)] [.inl r6, .inl x6] Z8 (zri Q)
        refine z0 (op := 0) (a := 0) (b := 0) (by rfl) (by rfl) (?_ : TZ (d + 1) 243 140 [some (.inr 100), some (.inl x1), some (.inl x2), some (.inl x3), some (.inl x4), some (.inl x5), some (.inl x6), some (.inl x7), some (.inl r6), some (.inl r9)] [.inl 0, .inl r6, .inl x6] Z8 (zri Q))
        obtain ⟨c15, v1, v2⟩ := v
        refine z_if2 (a := 1) (t := 147) (by rfl) (by rfl) c15 (by decide) (fun h16 => ?_) (fun h16 => ?_)
        · have v := v1 h16; clear v1 v2
          show TZ (d + 1) 243 147 [some (.inr 100), some (.inl x1), some (.inl x2), some (.inl x3), some (.inl x4), some (.inl x5), some (.inl x6), some (.inl x7), some (.inl r6), some (.inl r9)] [.inl x6] Z8 (zri Q)
          refine z0 (op := 0) (a := 0) (b := 0) (by rfl) (by rfl) (?_ : TZ (d + 1) 243 148 [some (.inr 100), some (.inl x1), some (.inl x2), some (.inl x3), some (.inl x4), some (.inl x5), some (.inl x6), some (.inl x7), some (.inl r6), some (.inl r9)] [.inl 0, .inl x6] Z8 (zri Q))
          refine z0 (op := 12) (a := 0) (b := 0) (by rfl) (by rfl) (?_ : TZ (d + 1) 243 149 [some (.inr 100), some (.inl x1), some (.inl x2), some (.inl x3), some (.inl x4), some (.inl x5), some (.inl x6), some (.inl x7), some (.inl r6), some (.inl r9)] [.inl (x6 + 0)] Z8 (zri Q))
          refine z0 (op := 8) (a := 6) (b := 0) (by rfl) (by rfl) (?_ : TZ (d + 1) 243 151 [some (.inr 100), some (.inl x1), some (.inl x2), some (.inl x3), some (.inl x4), some (.inl x5), some (.inl (x6 + 0)), some (.inl x7), some (.inl r6), some (.inl r9)] [] Z8 (zri Q))
          refine z0 (op := 11) (a := 7) (b := 1) (by rfl) (by rfl) (?_ : TZ (d + 1) 243 154 [some (.inr 100), some (.inl x1), some (.inl x2), some (.inl x3), some (.inl x4), some (.inl x5), some (.inl (x6 + 0)), some (.inl (x7 + 1)), some (.inl r6), some (.inl r9)] [] Z8 (zri Q))
          refine z_goto (t := 82) (by rfl) (by rfl) (?_ : TZ (d + 1) 243 82 [some (.inr 100), some (.inl x1), some (.inl x2), some (.inl x3), some (.inl x4), some (.inl x5), some (.inl (x6 + 0)), some (.inl (x7 + 1)), some (.inl r6), some (.inl r9)] [] Z8 (zri Q))
          exact v
        · have v := v2 h16; clear v1 v2
          show TZ (d + 1) 243 143 [some (.inr 100), some (.inl x1), some (.inl x2), some (.inl x3), some (.inl x4), some (.inl x5), some (.inl x6), some (.inl x7), some (.inl r6), some (.inl r9)] [.inl x6] Z8 (zri Q)
          refine z0 (op := 0) (a := 0) (b := 1) (by rfl) (by rfl) (?_ : TZ (d + 1) 243 144 [some (.inr 100), some (.inl x1), some (.inl x2), some (.inl x3), some (.inl x4), some (.inl x5), some (.inl x6), some (.inl x7), some (.inl r6), some (.inl r9)] [.inl 1, .inl x6] Z8 (zri Q))
          refine z_goto (t := 148) (by rfl) (by rfl) (?_ : TZ (d + 1) 243 148 [some (.inr 100), some (.inl x1), some (.inl x2), some (.inl x3), some (.inl x4), some (.inl x5), some (.inl x6), some (.inl x7), some (.inl r6), some (.inl r9)] [.inl 1, .inl x6] Z8 (zri Q))
          refine z0 (op := 12) (a := 0) (b := 0) (by rfl) (by rfl) (?_ : TZ (d + 1) 243 149 [some (.inr 100), some (.inl x1), some (.inl x2), some (.inl x3), some (.inl x4), some (.inl x5), some (.inl x6), some (.inl x7), some (.inl r6), some (.inl r9)] [.inl (x6 + 1)] Z8 (zri Q))
          refine z0 (op := 8) (a := 6) (b := 0) (by rfl) (by rfl) (?_ : TZ (d + 1) 243 151 [some (.inr 100), some (.inl x1), some (.inl x2), some (.inl x3), some (.inl x4), some (.inl x5), some (.inl (x6 + 1)), some (.inl x7), some (.inl r6), some (.inl r9)] [] Z8 (zri Q))
          refine z0 (op := 11) (a := 7) (b := 1) (by rfl) (by rfl) (?_ : TZ (d + 1) 243 154 [some (.inr 100), some (.inl x1), some (.inl x2), some (.inl x3), some (.inl x4), some (.inl x5), some (.inl (x6 + 1)), some (.inl (x7 + 1)), some (.inl r6), some (.inl r9)] [] Z8 (zri Q))
          refine z_goto (t := 82) (by rfl) (by rfl) (?_ : TZ (d + 1) 243 82 [some (.inr 100), some (.inl x1), some (.inl x2), some (.inl x3), some (.inl x4), some (.inl x5), some (.inl (x6 + 1)), some (.inl (x7 + 1)), some (.inl r6), some (.inl r9)] [] Z8 (zri Q))
          exact v
      · have v := v2 h14; clear v1 v2
        show TZ (d + 1) 243 135 [some (.inr 100), some (.inl x1), some (.inl x2), some (.inl x3), some (.inl x4), some (.inl x5), some (.inl x6), some (.inl x7), some (.inl r6), some (.inl r9)] [.inl r6, .inl x6] Z8 (zri Q)
        refine z0 (op := 0) (a := 0) (b := 1) (by rfl) (by rfl) (?_ : TZ (d + 1) 243 136 [some (.inr 100), some (.inl x1), some (.inl x2), some (.inl x3), some (.inl x4), some (.inl x5), some (.inl x6), some (.inl x7), some (.inl r6), some (.inl r9)] [.inl 1, .inl r6, .inl x6] Z8 (zri Q))
        refine z_goto (t := 140) (by rfl) (by rfl) (?_ : TZ (d + 1) 243 140 [some (.inr 100), some (.inl x1), some (.inl x2), some (.inl x3), some (.inl x4), some (.inl x5), some (.inl x6), some (.inl x7), some (.inl r6), some (.inl r9)] [.inl 1, .inl r6, .inl x6] Z8 (zri Q))
        obtain ⟨c17, v1, v2⟩ := v
        refine z_if2 (a := 1) (t := 147) (by rfl) (by rfl) c17 (by decide) (fun h18 => ?_) (fun h18 => ?_)
        · have v := v1 h18; clear v1 v2
          show TZ (d + 1) 243 147 [some (.inr 100), some (.inl x1), some (.inl x2), some (.inl x3), some (.inl x4), some (.inl x5), some (.inl x6), some (.inl x7), some (.inl r6), some (.inl r9)] [.inl x6] Z8 (zri Q)
          refine z0 (op := 0) (a := 0) (b := 0) (by rfl) (by rfl) (?_ : TZ (d + 1) 243 148 [some (.inr 100), some (.inl x1), some (.inl x2), some (.inl x3), some (.inl x4), some (.inl x5), some (.inl x6), some (.inl x7), some (.inl r6), some (.inl r9)] [.inl 0, .inl x6] Z8 (zri Q))
          refine z0 (op := 12) (a := 0) (b := 0) (by rfl) (by rfl) (?_ : TZ (d + 1) 243 149 [some (.inr 100), some (.inl x1), some (.inl x2), some (.inl x3), some (.inl x4), some (.inl x5), some (.inl x6), some (.inl x7), some (.inl r6), some (.inl r9)] [.inl (x6 + 0)] Z8 (zri Q))
          refine z0 (op := 8) (a := 6) (b := 0) (by rfl) (by rfl) (?_ : TZ (d + 1) 243 151 [some (.inr 100), some (.inl x1), some (.inl x2), some (.inl x3), some (.inl x4), some (.inl x5), some (.inl (x6 + 0)), some (.inl x7), some (.inl r6), some (.inl r9)] [] Z8 (zri Q))
          refine z0 (op := 11) (a := 7) (b := 1) (by rfl) (by rfl) (?_ : TZ (d + 1) 243 154 [some (.inr 100), some (.inl x1), some (.inl x2), some (.inl x3), some (.inl x4), some (.inl x5), some (.inl (x6 + 0)), some (.inl (x7 + 1)), some (.inl r6), some (.inl r9)] [] Z8 (zri Q))
          refine z_goto (t := 82) (by rfl) (by rfl) (?_ : TZ (d + 1) 243 82 [some (.inr 100), some (.inl x1), some (.inl x2), some (.inl x3), some (.inl x4), some (.inl x5), some (.inl (x6 + 0)), some (.inl (x7 + 1)), some (.inl r6), some (.inl r9)] [] Z8 (zri Q))
          exact v
        · have v := v2 h18; clear v1 v2
          show TZ (d + 1) 243 143 [some (.inr 100), some (.inl x1), some (.inl x2), some (.inl x3), some (.inl x4), some (.inl x5), some (.inl x6), some (.inl x7), some (.inl r6), some (.inl r9)] [.inl x6] Z8 (zri Q)
          refine z0 (op := 0) (a := 0) (b := 1) (by rfl) (by rfl) (?_ : TZ (d + 1) 243 144 [some (.inr 100), some (.inl x1), some (.inl x2), some (.inl x3), some (.inl x4), some (.inl x5), some (.inl x6), some (.inl x7), some (.inl r6), some (.inl r9)] [.inl 1, .inl x6] Z8 (zri Q))
          refine z_goto (t := 148) (by rfl) (by rfl) (?_ : TZ (d + 1) 243 148 [some (.inr 100), some (.inl x1), some (.inl x2), some (.inl x3), some (.inl x4), some (.inl x5), some (.inl x6), some (.inl x7), some (.inl r6), some (.inl r9)] [.inl 1, .inl x6] Z8 (zri Q))
          refine z0 (op := 12) (a := 0) (b := 0) (by rfl) (by rfl) (?_ : TZ (d + 1) 243 149 [some (.inr 100), some (.inl x1), some (.inl x2), some (.inl x3), some (.inl x4), some (.inl x5), some (.inl x6), some (.inl x7), some (.inl r6), some (.inl r9)] [.inl (x6 + 1)] Z8 (zri Q))
          refine z0 (op := 8) (a := 6) (b := 0) (by rfl) (by rfl) (?_ : TZ (d + 1) 243 151 [some (.inr 100), some (.inl x1), some (.inl x2), some (.inl x3), some (.inl x4), some (.inl x5), some (.inl (x6 + 1)), some (.inl x7), some (.inl r6), some (.inl r9)] [] Z8 (zri Q))
          refine z0 (op := 11) (a := 7) (b := 1) (by rfl) (by rfl) (?_ : TZ (d + 1) 243 154 [some (.inr 100), some (.inl x1), some (.inl x2), some (.inl x3), some (.inl x4), some (.inl x5), some (.inl (x6 + 1)), some (.inl (x7 + 1)), some (.inl r6), some (.inl r9)] [] Z8 (zri Q))
          refine z_goto (t := 82) (by rfl) (by rfl) (?_ : TZ (d + 1) 243 82 [some (.inr 100), some (.inl x1), some (.inl x2), some (.inl x3), some (.inl x4), some (.inl x5), some (.inl (x6 + 1)), some (.inl (x7 + 1)), some (.inl r6), some (.inl r9)] [] Z8 (zri Q))
          exact v
theorem w244_0 {d : Nat} {x1 : Int} {Z : zM} {Q : Int → zM → Prop}
    (v : TI d 155 [.inl x1, .inl 0, .inl 2] Z (fun r2 Z1 =>
      zR r2 ∧
        (r2 ≠ 0 → TI d 240 [.inr 100, .inl 6] Z1 (fun r6 Z5 =>
            zR r6 ∧
              (r6 ≠ 0 → TZ (d + 1) 244 52 [some (.inr 100), some (.inl x1), some (.inl 0), some (.inl 0), some (.inl 0), some (.inl (-9)), some (.inl 0), none] [] Z5 (zri Q)) ∧
              (¬ r6 ≠ 0 → TI d 154 [.inr 100, .inl (-3)] Z5 (fun r10 Z9 =>
                  Q r10 Z9)))) ∧
        (¬ r2 ≠ 0 → TI d 154 [.inr 100, .inl (-2)] Z1 (fun r12 Z11 =>
            Q r12 Z11)))) :
    TZ (d + 1) 244 0 [some (.inr 100), some (.inl x1), none, none, none, none, none, none] [] Z (zri Q) := by
  refine z0 (op := 3) (a := 1) (b := 0) (by rfl) (by rfl) (?_ : TZ (d + 1) 244 1 [some (.inr 100), some (.inl x1), none, none, none, none, none, none] [.inl x1] Z (zri Q))
  refine z0 (op := 0) (a := 0) (b := 0) (by rfl) (by rfl) (?_ : TZ (d + 1) 244 2 [some (.inr 100), some (.inl x1), none, none, none, none, none, none] [.inl 0, .inl x1] Z (zri Q))
  refine z0 (op := 0) (a := 0) (b := 2) (by rfl) (by rfl) (?_ : TZ (d + 1) 244 3 [some (.inr 100), some (.inl x1), none, none, none, none, none, none] [.inl 2, .inl 0, .inl x1] Z (zri Q))
  refine z_si (by rfl) (by rfl) (TI.mono v fun r2 Z1 v => ?_)
  show TZ (d + 1) 244 6 [some (.inr 100), some (.inl x1), none, none, none, none, none, none] [.inl r2] Z1 (zri Q)
  obtain ⟨c3, v1, v2⟩ := v
  refine z_if0 (a := 1) (t := 14) (by rfl) (by rfl) c3 (fun h4 => ?_) (fun h4 => ?_)
  · have v := v1 h4; clear v1 v2
    show TZ (d + 1) 244 14 [some (.inr 100), some (.inl x1), none, none, none, none, none, none] [] Z1 (zri Q)
    refine z0 (op := 5) (a := 0) (b := 0) (by rfl) (by rfl) (?_ : TZ (d + 1) 244 15 [some (.inr 100), some (.inl x1), none, none, none, none, none, none] [.inr 100] Z1 (zri Q))
    refine z0 (op := 1) (a := 0) (b := 6) (by rfl) (by rfl) (?_ : TZ (d + 1) 244 17 [some (.inr 100), some (.inl x1), none, none, none, none, none, none] [.inl 6, .inr 100] Z1 (zri Q))
    refine z_vi (by rfl) (by rfl) cl_100 (TI.mono v fun r6 Z5 v => ?_)
    show TZ (d + 1) 244 20 [some (.inr 100), some (.inl x1), none, none, none, none, none, none] [.inl r6] Z5 (zri Q)
    obtain ⟨c7, v1, v2⟩ := v
    refine z_if0 (a := 1) (t := 28) (by rfl) (by rfl) c7 (fun h8 => ?_) (fun h8 => ?_)
    · have v := v1 h8; clear v1 v2
      show TZ (d + 1) 244 28 [some (.inr 100), some (.inl x1), none, none, none, none, none, none] [] Z5 (zri Q)
      refine z0 (op := 0) (a := 0) (b := 0) (by rfl) (by rfl) (?_ : TZ (d + 1) 244 29 [some (.inr 100), some (.inl x1), none, none, none, none, none, none] [.inl 0] Z5 (zri Q))
      refine z0 (op := 7) (a := 2) (b := 0) (by rfl) (by rfl) (?_ : TZ (d + 1) 244 30 [some (.inr 100), some (.inl x1), some (.inl 0), none, none, none, none, none] [] Z5 (zri Q))
      refine z0 (op := 3) (a := 2) (b := 0) (by rfl) (by rfl) (?_ : TZ (d + 1) 244 31 [some (.inr 100), some (.inl x1), some (.inl 0), none, none, none, none, none] [.inl 0] Z5 (zri Q))
      refine z_if0 (a := 0) (t := 40) (by rfl) (by rfl) (by decide) (fun _ => ?_) (fun h => absurd (show (0 : Int) = (0 : Int) by decide) h)
      show TZ (d + 1) 244 40 [some (.inr 100), some (.inl x1), some (.inl 0), none, none, none, none, none] [] Z5 (zri Q)
      refine z0 (op := 0) (a := 0) (b := 0) (by rfl) (by rfl) (?_ : TZ (d + 1) 244 41 [some (.inr 100), some (.inl x1), some (.inl 0), none, none, none, none, none] [.inl 0] Z5 (zri Q))
      refine z0 (op := 7) (a := 3) (b := 0) (by rfl) (by rfl) (?_ : TZ (d + 1) 244 42 [some (.inr 100), some (.inl x1), some (.inl 0), some (.inl 0), none, none, none, none] [] Z5 (zri Q))
      refine z0 (op := 0) (a := 0) (b := 0) (by rfl) (by rfl) (?_ : TZ (d + 1) 244 43 [some (.inr 100), some (.inl x1), some (.inl 0), some (.inl 0), none, none, none, none] [.inl 0] Z5 (zri Q))
      refine z0 (op := 8) (a := 4) (b := 0) (by rfl) (by rfl) (?_ : TZ (d + 1) 244 45 [some (.inr 100), some (.inl x1), some (.inl 0), some (.inl 0), some (.inl 0), none, none, none] [] Z5 (zri Q))
      refine z0 (op := 1) (a := 0) (b := (-9)) (by rfl) (by rfl) (?_ : TZ (d + 1) 244 47 [some (.inr 100), some (.inl x1), some (.inl 0), some (.inl 0), some (.inl 0), none, none, none] [.inl (-9)] Z5 (zri Q))
      refine z0 (op := 8) (a := 5) (b := 0) (by rfl) (by rfl) (?_ : TZ (d + 1) 244 49 [some (.inr 100), some (.inl x1), some (.inl 0), some (.inl 0), some (.inl 0), some (.inl (-9)), none, none] [] Z5 (zri Q))
      refine z0 (op := 0) (a := 0) (b := 0) (by rfl) (by rfl) (?_ : TZ (d + 1) 244 50 [some (.inr 100), some (.inl x1), some (.inl 0), some (.inl 0), some (.inl 0), some (.inl (-9)), none, none] [.inl 0] Z5 (zri Q))
      refine z0 (op := 8) (a := 6) (b := 0) (by rfl) (by rfl) (?_ : TZ (d + 1) 244 52 [some (.inr 100), some (.inl x1), some (.inl 0), some (.inl 0), some (.inl 0), some (.inl (-9)), some (.inl 0), none] [] Z5 (zri Q))
      exact v
    · have v := v2 h8; clear v1 v2
      show TZ (d + 1) 244 23 [some (.inr 100), some (.inl x1), none, none, none, none, none, none] [] Z5 (zri Q)
      refine z0 (op := 1) (a := 0) (b := (-3)) (by rfl) (by rfl) (?_ : TZ (d + 1) 244 25 [some (.inr 100), some (.inl x1), none, none, none, none, none, none] [.inl (-3)] Z5 (zri Q))
      refine z_goto (t := 29) (by rfl) (by rfl) (?_ : TZ (d + 1) 244 29 [some (.inr 100), some (.inl x1), none, none, none, none, none, none] [.inl (-3)] Z5 (zri Q))
      refine z0 (op := 7) (a := 2) (b := 0) (by rfl) (by rfl) (?_ : TZ (d + 1) 244 30 [some (.inr 100), some (.inl x1), some (.inl (-3)), none, none, none, none, none] [] Z5 (zri Q))
      refine z0 (op := 3) (a := 2) (b := 0) (by rfl) (by rfl) (?_ : TZ (d + 1) 244 31 [some (.inr 100), some (.inl x1), some (.inl (-3)), none, none, none, none, none] [.inl (-3)] Z5 (zri Q))
      refine z_if0 (a := 0) (t := 40) (by rfl) (by rfl) (by decide) (fun h => absurd (show ((-3) : Int) = (0 : Int) from h) (by decide)) (fun _ => ?_)
      show TZ (d + 1) 244 34 [some (.inr 100), some (.inl x1), some (.inl (-3)), none, none, none, none, none] [] Z5 (zri Q)
      refine z0 (op := 5) (a := 0) (b := 0) (by rfl) (by rfl) (?_ : TZ (d + 1) 244 35 [some (.inr 100), some (.inl x1), some (.inl (-3)), none, none, none, none, none] [.inr 100] Z5 (zri Q))
      refine z0 (op := 3) (a := 2) (b := 0) (by rfl) (by rfl) (?_ : TZ (d + 1) 244 36 [some (.inr 100), some (.inl x1), some (.inl (-3)), none, none, none, none, none] [.inl (-3), .inr 100] Z5 (zri Q))
      refine z_vi (by rfl) (by rfl) cl_100 (TI.mono v fun r10 Z9 v => ?_)
      show TZ (d + 1) 244 39 [some (.inr 100), some (.inl x1), some (.inl (-3)), none, none, none, none, none] [.inl r10] Z9 (zri Q)
      exact z_reti (by rfl) (by rfl) v
  · have v := v2 h4; clear v1 v2
    show TZ (d + 1) 244 9 [some (.inr 100), some (.inl x1), none, none, none, none, none, none] [] Z1 (zri Q)
    refine z0 (op := 1) (a := 0) (b := (-2)) (by rfl) (by rfl) (?_ : TZ (d + 1) 244 11 [some (.inr 100), some (.inl x1), none, none, none, none, none, none] [.inl (-2)] Z1 (zri Q))
    refine z_goto (t := 29) (by rfl) (by rfl) (?_ : TZ (d + 1) 244 29 [some (.inr 100), some (.inl x1), none, none, none, none, none, none] [.inl (-2)] Z1 (zri Q))
    refine z0 (op := 7) (a := 2) (b := 0) (by rfl) (by rfl) (?_ : TZ (d + 1) 244 30 [some (.inr 100), some (.inl x1), some (.inl (-2)), none, none, none, none, none] [] Z1 (zri Q))
    refine z0 (op := 3) (a := 2) (b := 0) (by rfl) (by rfl) (?_ : TZ (d + 1) 244 31 [some (.inr 100), some (.inl x1), some (.inl (-2)), none, none, none, none, none] [.inl (-2)] Z1 (zri Q))
    refine z_if0 (a := 0) (t := 40) (by rfl) (by rfl) (by decide) (fun h => absurd (show ((-2) : Int) = (0 : Int) from h) (by decide)) (fun _ => ?_)
    show TZ (d + 1) 244 34 [some (.inr 100), some (.inl x1), some (.inl (-2)), none, none, none, none, none] [] Z1 (zri Q)
    refine z0 (op := 5) (a := 0) (b := 0) (by rfl) (by rfl) (?_ : TZ (d + 1) 244 35 [some (.inr 100), some (.inl x1), some (.inl (-2)), none, none, none, none, none] [.inr 100] Z1 (zri Q))
    refine z0 (op := 3) (a := 2) (b := 0) (by rfl) (by rfl) (?_ : TZ (d + 1) 244 36 [some (.inr 100), some (.inl x1), some (.inl (-2)), none, none, none, none, none] [.inl (-2), .inr 100] Z1 (zri Q))
    refine z_vi (by rfl) (by rfl) cl_100 (TI.mono v fun r12 Z11 v => ?_)
    show TZ (d + 1) 244 39 [some (.inr 100), some (.inl x1), some (.inl (-2)), none, none, none, none, none] [.inl r12] Z11 (zri Q)
    exact z_reti (by rfl) (by rfl) v
theorem w244_52 {d : Nat} {x1 x2 x3 x4 x5 x6 : Int} {o7 : Option zV} {Z : zM} {Q : Int → zM → Prop}
    (v : TI d 212 [.inr 100, .inl (Z 100 26)] Z (fun r2 Z1 =>
      zR x6 ∧
        zR r2 ∧
        (r2 ≤ x6 → (zR x1 ∧
            (x1 ≠ 0 → (zR x1 ∧
                (x1 ≠ 1 → Q x5 Z1) ∧
                (¬ x1 ≠ 1 → Q x4 Z1))) ∧
            (¬ x1 ≠ 0 → Q x3 Z1))) ∧
        (¬ r2 ≤ x6 → TV d 213 [.inr 100, .inl x6, .inl (Z1 100 26)] Z1 (fun Z10 =>
            TI d 217 [.inr 100, .inl 1, .inl (Z10 100 26)] Z10 (fun r12 Z11 =>
              zR r12 ∧
                (r12 ≠ 0 → TZ (d + 1) 244 96 [some (.inr 100), some (.inl x1), some (.inl x2), some (.inl (x3 + 1)), some (.inl x4), some (.inl x5), some (.inl x6), some (.inl 0)] [] Z11 (zri Q)) ∧
                (¬ r12 ≠ 0 → TZ (d + 1) 244 52 [some (.inr 100), some (.inl x1), some (.inl x2), some (.inl x3), some (.inl x4), some (.inl x5), some (.inl (x6 + 1)), o7] [] Z11 (zri Q))))))) :
    TZ (d + 1) 244 52 [some (.inr 100), some (.inl x1), some (.inl x2), some (.inl x3), some (.inl x4), some (.inl x5), some (.inl x6), o7] [] Z (zri Q) := by
  refine z0 (op := 4) (a := 6) (b := 0) (by rfl) (by rfl) (?_ : TZ (d + 1) 244 54 [some (.inr 100), some (.inl x1), some (.inl x2), some (.inl x3), some (.inl x4), some (.inl x5), some (.inl x6), o7] [.inl x6] Z (zri Q))
  refine z0 (op := 5) (a := 0) (b := 0) (by rfl) (by rfl) (?_ : TZ (d + 1) 244 55 [some (.inr 100), some (.inl x1), some (.inl x2), some (.inl x3), some (.inl x4), some (.inl x5), some (.inl x6), o7] [.inr 100, .inl x6] Z (zri Q))
  refine z0 (op := 5) (a := 0) (b := 0) (by rfl) (by rfl) (?_ : TZ (d + 1) 244 56 [some (.inr 100), some (.inl x1), some (.inl x2), some (.inl x3), some (.inl x4), some (.inl x5), some (.inl x6), o7] [.inr 100, .inr 100, .inl x6] Z (zri Q))
  refine z_fi (by rfl) fi120_100 (?_ : TZ (d + 1) 244 59 [some (.inr 100), some (.inl x1), some (.inl x2), some (.inl x3), some (.inl x4), some (.inl x5), some (.inl x6), o7] [.inl (Z 100 26), .inr 100, .inl x6] Z (zri Q))
  refine z_vi (by rfl) (by rfl) cl_100 (TI.mono v fun r2 Z1 v => ?_)
  show TZ (d + 1) 244 62 [some (.inr 100), some (.inl x1), some (.inl x2), some (.inl x3), some (.inl x4), some (.inl x5), some (.inl x6), o7] [.inl r2, .inl x6] Z1 (zri Q)
  obtain ⟨c3, c4, v1, v2⟩ := v
  refine z_if2 (a := 3) (t := 180) (by rfl) (by rfl) c3 c4 (fun h5 => ?_) (fun h5 => ?_)
  · have v := v1 h5; clear v1 v2
    show TZ (d + 1) 244 180 [some (.inr 100), some (.inl x1), some (.inl x2), some (.inl x3), some (.inl x4), some (.inl x5), some (.inl x6), o7] [] Z1 (zri Q)
    refine z0 (op := 3) (a := 1) (b := 0) (by rfl) (by rfl) (?_ : TZ (d + 1) 244 181 [some (.inr 100), some (.inl x1), some (.inl x2), some (.inl x3), some (.inl x4), some (.inl x5), some (.inl x6), o7] [.inl x1] Z1 (zri Q))
    obtain ⟨c6, v1, v2⟩ := v
    refine z_if0 (a := 1) (t := 188) (by rfl) (by rfl) c6 (fun h7 => ?_) (fun h7 => ?_)
    · have v := v1 h7; clear v1 v2
      show TZ (d + 1) 244 188 [some (.inr 100), some (.inl x1), some (.inl x2), some (.inl x3), some (.inl x4), some (.inl x5), some (.inl x6), o7] [] Z1 (zri Q)
      refine z0 (op := 3) (a := 1) (b := 0) (by rfl) (by rfl) (?_ : TZ (d + 1) 244 189 [some (.inr 100), some (.inl x1), some (.inl x2), some (.inl x3), some (.inl x4), some (.inl x5), some (.inl x6), o7] [.inl x1] Z1 (zri Q))
      refine z0 (op := 0) (a := 0) (b := 1) (by rfl) (by rfl) (?_ : TZ (d + 1) 244 190 [some (.inr 100), some (.inl x1), some (.inl x2), some (.inl x3), some (.inl x4), some (.inl x5), some (.inl x6), o7] [.inl 1, .inl x1] Z1 (zri Q))
      obtain ⟨c8, v1, v2⟩ := v
      refine z_if2 (a := 1) (t := 198) (by rfl) (by rfl) c8 (by decide) (fun h9 => ?_) (fun h9 => ?_)
      · have v := v1 h9; clear v1 v2
        show TZ (d + 1) 244 198 [some (.inr 100), some (.inl x1), some (.inl x2), some (.inl x3), some (.inl x4), some (.inl x5), some (.inl x6), o7] [] Z1 (zri Q)
        refine z0 (op := 4) (a := 5) (b := 0) (by rfl) (by rfl) (?_ : TZ (d + 1) 244 200 [some (.inr 100), some (.inl x1), some (.inl x2), some (.inl x3), some (.inl x4), some (.inl x5), some (.inl x6), o7] [.inl x5] Z1 (zri Q))
        exact z_reti (by rfl) (by rfl) v
      · have v := v2 h9; clear v1 v2
        show TZ (d + 1) 244 193 [some (.inr 100), some (.inl x1), some (.inl x2), some (.inl x3), some (.inl x4), some (.inl x5), some (.inl x6), o7] [] Z1 (zri Q)
        refine z0 (op := 4) (a := 4) (b := 0) (by rfl) (by rfl) (?_ : TZ (d + 1) 244 195 [some (.inr 100), some (.inl x1), some (.inl x2), some (.inl x3), some (.inl x4), some (.inl x5), some (.inl x6), o7] [.inl x4] Z1 (zri Q))
        refine z_goto (t := 200) (by rfl) (by rfl) (?_ : TZ (d + 1) 244 200 [some (.inr 100), some (.inl x1), some (.inl x2), some (.inl x3), some (.inl x4), some (.inl x5), some (.inl x6), o7] [.inl x4] Z1 (zri Q))
        exact z_reti (by rfl) (by rfl) v
    · have v := v2 h7; clear v1 v2
      show TZ (d + 1) 244 184 [some (.inr 100), some (.inl x1), some (.inl x2), some (.inl x3), some (.inl x4), some (.inl x5), some (.inl x6), o7] [] Z1 (zri Q)
      refine z0 (op := 3) (a := 3) (b := 0) (by rfl) (by rfl) (?_ : TZ (d + 1) 244 185 [some (.inr 100), some (.inl x1), some (.inl x2), some (.inl x3), some (.inl x4), some (.inl x5), some (.inl x6), o7] [.inl x3] Z1 (zri Q))
      refine z_goto (t := 200) (by rfl) (by rfl) (?_ : TZ (d + 1) 244 200 [some (.inr 100), some (.inl x1), some (.inl x2), some (.inl x3), some (.inl x4), some (.inl x5), some (.inl x6), o7] [.inl x3] Z1 (zri Q))
      exact z_reti (by rfl) (by rfl) v
  · have v := v2 h5; clear v1 v2
    show TZ (d + 1) 244 65 [some (.inr 100), some (.inl x1), some (.inl x2), some (.inl x3), some (.inl x4), some (.inl x5), some (.inl x6), o7] [] Z1 (zri Q)
    refine z0 (op := 5) (a := 0) (b := 0) (by rfl) (by rfl) (?_ : TZ (d + 1) 244 66 [some (.inr 100), some (.inl x1), some (.inl x2), some (.inl x3), some (.inl x4), some (.inl x5), some (.inl x6), o7] [.inr 100] Z1 (zri Q))
    refine z0 (op := 4) (a := 6) (b := 0) (by rfl) (by rfl) (?_ : TZ (d + 1) 244 68 [some (.inr 100), some (.inl x1), some (.inl x2), some (.inl x3), some (.inl x4), some (.inl x5), some (.inl x6), o7] [.inl x6, .inr 100] Z1 (zri Q))
    refine z0 (op := 5) (a := 0) (b := 0) (by rfl) (by rfl) (?_ : TZ (d + 1) 244 69 [some (.inr 100), some (.inl x1), some (.inl x2), some (.inl x3), some (.inl x4), some (.inl x5), some (.inl x6), o7] [.inr 100, .inl x6, .inr 100] Z1 (zri Q))
    refine z_fi (by rfl) fi120_100 (?_ : TZ (d + 1) 244 72 [some (.inr 100), some (.inl x1), some (.inl x2), some (.inl x3), some (.inl x4), some (.inl x5), some (.inl x6), o7] [.inl (Z1 100 26), .inl x6, .inr 100] Z1 (zri Q))
    refine z_vv (by rfl) (by rfl) cl_100 (TV.mono v fun Z10 v => ?_)
    show TZ (d + 1) 244 75 [some (.inr 100), some (.inl x1), some (.inl x2), some (.inl x3), some (.inl x4), some (.inl x5), some (.inl x6), o7] [] Z10 (zri Q)
    refine z0 (op := 5) (a := 0) (b := 0) (by rfl) (by rfl) (?_ : TZ (d + 1) 244 76 [some (.inr 100), some (.inl x1), some (.inl x2), some (.inl x3), some (.inl x4), some (.inl x5), some (.inl x6), o7] [.inr 100] Z10 (zri Q))
    refine z0 (op := 0) (a := 0) (b := 1) (by rfl) (by rfl) (?_ : TZ (d + 1) 244 77 [some (.inr 100), some (.inl x1), some (.inl x2), some (.inl x3), some (.inl x4), some (.inl x5), some (.inl x6), o7] [.inl 1, .inr 100] Z10 (zri Q))
    refine z0 (op := 5) (a := 0) (b := 0) (by rfl) (by rfl) (?_ : TZ (d + 1) 244 78 [some (.inr 100), some (.inl x1), some (.inl x2), some (.inl x3), some (.inl x4), some (.inl x5), some (.inl x6), o7] [.inr 100, .inl 1, .inr 100] Z10 (zri Q))
    refine z_fi (by rfl) fi120_100 (?_ : TZ (d + 1) 244 81 [some (.inr 100), some (.inl x1), some (.inl x2), some (.inl x3), some (.inl x4), some (.inl x5), some (.inl x6), o7] [.inl (Z10 100 26), .inl 1, .inr 100] Z10 (zri Q))
    refine z_vi (by rfl) (by rfl) cl_100 (TI.mono v fun r12 Z11 v => ?_)
    show TZ (d + 1) 244 84 [some (.inr 100), some (.inl x1), some (.inl x2), some (.inl x3), some (.inl x4), some (.inl x5), some (.inl x6), o7] [.inl r12] Z11 (zri Q)
    obtain ⟨c13, v1, v2⟩ := v
    refine z_if0 (a := 1) (t := 90) (by rfl) (by rfl) c13 (fun h14 => ?_) (fun h14 => ?_)
    · have v := v1 h14; clear v1 v2
      show TZ (d + 1) 244 90 [some (.inr 100), some (.inl x1), some (.inl x2), some (.inl x3), some (.inl x4), some (.inl x5), some (.inl x6), o7] [] Z11 (zri Q)
      refine z0 (op := 11) (a := 3) (b := 1) (by rfl) (by rfl) (?_ : TZ (d + 1) 244 93 [some (.inr 100), some (.inl x1), some (.inl x2), some (.inl (x3 + 1)), some (.inl x4), some (.inl x5), some (.inl x6), o7] [] Z11 (zri Q))
      refine z0 (op := 0) (a := 0) (b := 0) (by rfl) (by rfl) (?_ : TZ (d + 1) 244 94 [some (.inr 100), some (.inl x1), some (.inl x2), some (.inl (x3 + 1)), some (.inl x4), some (.inl x5), some (.inl x6), o7] [.inl 0] Z11 (zri Q))
      refine z0 (op := 8) (a := 7) (b := 0) (by rfl) (by rfl) (?_ : TZ (d + 1) 244 96 [some (.inr 100), some (.inl x1), some (.inl x2), some (.inl (x3 + 1)), some (.inl x4), some (.inl x5), some (.inl x6), some (.inl 0)] [] Z11 (zri Q))
      exact v
    · have v := v2 h14; clear v1 v2
      show TZ (d + 1) 244 87 [some (.inr 100), some (.inl x1), some (.inl x2), some (.inl x3), some (.inl x4), some (.inl x5), some (.inl x6), o7] [] Z11 (zri Q)
      refine z_goto (t := 174) (by rfl) (by rfl) (?_ : TZ (d + 1) 244 174 [some (.inr 100), some (.inl x1), some (.inl x2), some (.inl x3), some (.inl x4), some (.inl x5), some (.inl x6), o7] [] Z11 (zri Q))
      refine z0 (op := 11) (a := 6) (b := 1) (by rfl) (by rfl) (?_ : TZ (d + 1) 244 177 [some (.inr 100), some (.inl x1), some (.inl x2), some (.inl x3), some (.inl x4), some (.inl x5), some (.inl (x6 + 1)), o7] [] Z11 (zri Q))
      refine z_goto (t := 52) (by rfl) (by rfl) (?_ : TZ (d + 1) 244 52 [some (.inr 100), some (.inl x1), some (.inl x2), some (.inl x3), some (.inl x4), some (.inl x5), some (.inl (x6 + 1)), o7] [] Z11 (zri Q))
      exact v
theorem w244_96 {d : Nat} {x1 x2 x3 x4 x5 x6 x7 : Int} {Z : zM} {Q : Int → zM → Prop}
    (v : zR x7 ∧
      zR (Z 100 26) ∧
      ((Z 100 26) ≤ x7 → (zR x5 ∧
          (x5 < 0 → TI d 214 [.inr 100, .inl (Z 100 26)] Z (fun r7 Z6 =>
              TZ (d + 1) 244 52 [some (.inr 100), some (.inl x1), some (.inl x2), some (.inl x3), some (.inl x4), some (.inl r7), some (.inl (x6 + 1)), some (.inl x7)] [] Z6 (zri Q))) ∧
          (¬ x5 < 0 → TI d 214 [.inr 100, .inl (Z 100 26)] Z (fun r9 Z8 =>
              zR r9 ∧
                zR x5 ∧
                (x5 ≤ r9 → TZ (d + 1) 244 52 [some (.inr 100), some (.inl x1), some (.inl x2), some (.inl x3), some (.inl x4), some (.inl x5), some (.inl (x6 + 1)), some (.inl x7)] [] Z8 (zri Q)) ∧
                (¬ x5 ≤ r9 → TI d 214 [.inr 100, .inl (Z8 100 26)] Z8 (fun r14 Z13 =>
                    TZ (d + 1) 244 52 [some (.inr 100), some (.inl x1), some (.inl x2), some (.inl x3), some (.inl x4), some (.inl r14), some (.inl (x6 + 1)), some (.inl x7)] [] Z13 (zri Q))))))) ∧
      (¬ (Z 100 26) ≤ x7 → ((0 ≤ x7 ∧ x7 < 4) ∧
          zR (Z 114 x7) ∧
          ((Z 114 x7) ≤ 0 → TZ (d + 1) 244 96 [some (.inr 100), some (.inl x1), some (.inl x2), some (.inl x3), some (.inl (zbit 4 x4 0)), some (.inl x5), some (.inl x6), some (.inl (x7 + 1))] [] Z (zri Q)) ∧
          (¬ (Z 114 x7) ≤ 0 → ((0 ≤ x7 ∧ x7 < 4) ∧ TZ (d + 1) 244 96 [some (.inr 100), some (.inl x1), some (.inl x2), some (.inl x3), some (.inl (zbit 4 x4 (zbit 6 1 ((Z 114 x7) - 1)))), some (.inl x5), some (.inl x6), some (.inl (x7 + 1))] [] Z (zri Q)))))) :
    TZ (d + 1) 244 96 [some (.inr 100), some (.inl x1), some (.inl x2), some (.inl x3), some (.inl x4), some (.inl x5), some (.inl x6), some (.inl x7)] [] Z (zri Q) := by
  refine z0 (op := 4) (a := 7) (b := 0) (by rfl) (by rfl) (?_ : TZ (d + 1) 244 98 [some (.inr 100), some (.inl x1), some (.inl x2), some (.inl x3), some (.inl x4), some (.inl x5), some (.inl x6), some (.inl x7)] [.inl x7] Z (zri Q))
  refine z0 (op := 5) (a := 0) (b := 0) (by rfl) (by rfl) (?_ : TZ (d + 1) 244 99 [some (.inr 100), some (.inl x1), some (.inl x2), some (.inl x3), some (.inl x4), some (.inl x5), some (.inl x6), some (.inl x7)] [.inr 100, .inl x7] Z (zri Q))
  refine z_fi (by rfl) fi120_100 (?_ : TZ (d + 1) 244 102 [some (.inr 100), some (.inl x1), some (.inl x2), some (.inl x3), some (.inl x4), some (.inl x5), some (.inl x6), some (.inl x7)] [.inl (Z 100 26), .inl x7] Z (zri Q))
  obtain ⟨c1, c2, v1, v2⟩ := v
  refine z_if2 (a := 3) (t := 141) (by rfl) (by rfl) c1 c2 (fun h3 => ?_) (fun h3 => ?_)
  · have v := v1 h3; clear v1 v2
    show TZ (d + 1) 244 141 [some (.inr 100), some (.inl x1), some (.inl x2), some (.inl x3), some (.inl x4), some (.inl x5), some (.inl x6), some (.inl x7)] [] Z (zri Q)
    refine z0 (op := 4) (a := 5) (b := 0) (by rfl) (by rfl) (?_ : TZ (d + 1) 244 143 [some (.inr 100), some (.inl x1), some (.inl x2), some (.inl x3), some (.inl x4), some (.inl x5), some (.inl x6), some (.inl x7)] [.inl x5] Z (zri Q))
    obtain ⟨c4, v1, v2⟩ := v
    refine z_if0 (a := 2) (t := 159) (by rfl) (by rfl) c4 (fun h5 => ?_) (fun h5 => ?_)
    · have v := v1 h5; clear v1 v2
      show TZ (d + 1) 244 159 [some (.inr 100), some (.inl x1), some (.inl x2), some (.inl x3), some (.inl x4), some (.inl x5), some (.inl x6), some (.inl x7)] [] Z (zri Q)
      refine z0 (op := 5) (a := 0) (b := 0) (by rfl) (by rfl) (?_ : TZ (d + 1) 244 160 [some (.inr 100), some (.inl x1), some (.inl x2), some (.inl x3), some (.inl x4), some (.inl x5), some (.inl x6), some (.inl x7)] [.inr 100] Z (zri Q))
      refine z0 (op := 5) (a := 0) (b := 0) (by rfl) (by rfl) (?_ : TZ (d + 1) 244 161 [some (.inr 100), some (.inl x1), some (.inl x2), some (.inl x3), some (.inl x4), some (.inl x5), some (.inl x6), some (.inl x7)] [.inr 100, .inr 100] Z (zri Q))
      refine z_fi (by rfl) fi120_100 (?_ : TZ (d + 1) 244 164 [some (.inr 100), some (.inl x1), some (.inl x2), some (.inl x3), some (.inl x4), some (.inl x5), some (.inl x6), some (.inl x7)] [.inl (Z 100 26), .inr 100] Z (zri Q))
      refine z_vi (by rfl) (by rfl) cl_100 (TI.mono v fun r7 Z6 v => ?_)
      show TZ (d + 1) 244 167 [some (.inr 100), some (.inl x1), some (.inl x2), some (.inl x3), some (.inl x4), some (.inl x5), some (.inl x6), some (.inl x7)] [.inl r7] Z6 (zri Q)
      refine z_goto (t := 172) (by rfl) (by rfl) (?_ : TZ (d + 1) 244 172 [some (.inr 100), some (.inl x1), some (.inl x2), some (.inl x3), some (.inl x4), some (.inl x5), some (.inl x6), some (.inl x7)] [.inl r7] Z6 (zri Q))
      refine z0 (op := 8) (a := 5) (b := 0) (by rfl) (by rfl) (?_ : TZ (d + 1) 244 174 [some (.inr 100), some (.inl x1), some (.inl x2), some (.inl x3), some (.inl x4), some (.inl r7), some (.inl x6), some (.inl x7)] [] Z6 (zri Q))
      refine z0 (op := 11) (a := 6) (b := 1) (by rfl) (by rfl) (?_ : TZ (d + 1) 244 177 [some (.inr 100), some (.inl x1), some (.inl x2), some (.inl x3), some (.inl x4), some (.inl r7), some (.inl (x6 + 1)), some (.inl x7)] [] Z6 (zri Q))
      refine z_goto (t := 52) (by rfl) (by rfl) (?_ : TZ (d + 1) 244 52 [some (.inr 100), some (.inl x1), some (.inl x2), some (.inl x3), some (.inl x4), some (.inl r7), some (.inl (x6 + 1)), some (.inl x7)] [] Z6 (zri Q))
      exact v
    · have v := v2 h5; clear v1 v2
      show TZ (d + 1) 244 146 [some (.inr 100), some (.inl x1), some (.inl x2), some (.inl x3), some (.inl x4), some (.inl x5), some (.inl x6), some (.inl x7)] [] Z (zri Q)
      refine z0 (op := 5) (a := 0) (b := 0) (by rfl) (by rfl) (?_ : TZ (d + 1) 244 147 [some (.inr 100), some (.inl x1), some (.inl x2), some (.inl x3), some (.inl x4), some (.inl x5), some (.inl x6), some (.inl x7)] [.inr 100] Z (zri Q))
      refine z0 (op := 5) (a := 0) (b := 0) (by rfl) (by rfl) (?_ : TZ (d + 1) 244 148 [some (.inr 100), some (.inl x1), some (.inl x2), some (.inl x3), some (.inl x4), some (.inl x5), some (.inl x6), some (.inl x7)] [.inr 100, .inr 100] Z (zri Q))
      refine z_fi (by rfl) fi120_100 (?_ : TZ (d + 1) 244 151 [some (.inr 100), some (.inl x1), some (.inl x2), some (.inl x3), some (.inl x4), some (.inl x5), some (.inl x6), some (.inl x7)] [.inl (Z 100 26), .inr 100] Z (zri Q))
      refine z_vi (by rfl) (by rfl) cl_100 (TI.mono v fun r9 Z8 v => ?_)
      show TZ (d + 1) 244 154 [some (.inr 100), some (.inl x1), some (.inl x2), some (.inl x3), some (.inl x4), some (.inl x5), some (.inl x6), some (.inl x7)] [.inl r9] Z8 (zri Q)
      refine z0 (op := 4) (a := 5) (b := 0) (by rfl) (by rfl) (?_ : TZ (d + 1) 244 156 [some (.inr 100), some (.inl x1), some (.inl x2), some (.inl x3), some (.inl x4), some (.inl x5), some (.inl x6), some (.inl x7)] [.inl x5, .inl r9] Z8 (zri Q))
      obtain ⟨c10, c11, v1, v2⟩ := v
      refine z_if2 (a := 3) (t := 170) (by rfl) (by rfl) c10 c11 (fun h12 => ?_) (fun h12 => ?_)
      · have v := v1 h12; clear v1 v2
        show TZ (d + 1) 244 170 [some (.inr 100), some (.inl x1), some (.inl x2), some (.inl x3), some (.inl x4), some (.inl x5), some (.inl x6), some (.inl x7)] [] Z8 (zri Q)
        refine z0 (op := 4) (a := 5) (b := 0) (by rfl) (by rfl) (?_ : TZ (d + 1) 244 172 [some (.inr 100), some (.inl x1), some (.inl x2), some (.inl x3), some (.inl x4), some (.inl x5), some (.inl x6), some (.inl x7)] [.inl x5] Z8 (zri Q))
        refine z0 (op := 8) (a := 5) (b := 0) (by rfl) (by rfl) (?_ : TZ (d + 1) 244 174 [some (.inr 100), some (.inl x1), some (.inl x2), some (.inl x3), some (.inl x4), some (.inl x5), some (.inl x6), some (.inl x7)] [] Z8 (zri Q))
        refine z0 (op := 11) (a := 6) (b := 1) (by rfl) (by rfl) (?_ : TZ (d + 1) 244 177 [some (.inr 100), some (.inl x1), some (.inl x2), some (.inl x3), some (.inl x4), some (.inl x5), some (.inl (x6 + 1)), some (.inl x7)] [] Z8 (zri Q))
        refine z_goto (t := 52) (by rfl) (by rfl) (?_ : TZ (d + 1) 244 52 [some (.inr 100), some (.inl x1), some (.inl x2), some (.inl x3), some (.inl x4), some (.inl x5), some (.inl (x6 + 1)), some (.inl x7)] [] Z8 (zri Q))
        exact v
      · have v := v2 h12; clear v1 v2
        show TZ (d + 1) 244 159 [some (.inr 100), some (.inl x1), some (.inl x2), some (.inl x3), some (.inl x4), some (.inl x5), some (.inl x6), some (.inl x7)] [] Z8 (zri Q)
        refine z0 (op := 5) (a := 0) (b := 0) (by rfl) (by rfl) (?_ : TZ (d + 1) 244 160 [some (.inr 100), some (.inl x1), some (.inl x2), some (.inl x3), some (.inl x4), some (.inl x5), some (.inl x6), some (.inl x7)] [.inr 100] Z8 (zri Q))
        refine z0 (op := 5) (a := 0) (b := 0) (by rfl) (by rfl) (?_ : TZ (d + 1) 244 161 [some (.inr 100), some (.inl x1), some (.inl x2), some (.inl x3), some (.inl x4), some (.inl x5), some (.inl x6), some (.inl x7)] [.inr 100, .inr 100] Z8 (zri Q))
        refine z_fi (by rfl) fi120_100 (?_ : TZ (d + 1) 244 164 [some (.inr 100), some (.inl x1), some (.inl x2), some (.inl x3), some (.inl x4), some (.inl x5), some (.inl x6), some (.inl x7)] [.inl (Z8 100 26), .inr 100] Z8 (zri Q))
        refine z_vi (by rfl) (by rfl) cl_100 (TI.mono v fun r14 Z13 v => ?_)
        show TZ (d + 1) 244 167 [some (.inr 100), some (.inl x1), some (.inl x2), some (.inl x3), some (.inl x4), some (.inl x5), some (.inl x6), some (.inl x7)] [.inl r14] Z13 (zri Q)
        refine z_goto (t := 172) (by rfl) (by rfl) (?_ : TZ (d + 1) 244 172 [some (.inr 100), some (.inl x1), some (.inl x2), some (.inl x3), some (.inl x4), some (.inl x5), some (.inl x6), some (.inl x7)] [.inl r14] Z13 (zri Q))
        refine z0 (op := 8) (a := 5) (b := 0) (by rfl) (by rfl) (?_ : TZ (d + 1) 244 174 [some (.inr 100), some (.inl x1), some (.inl x2), some (.inl x3), some (.inl x4), some (.inl r14), some (.inl x6), some (.inl x7)] [] Z13 (zri Q))
        refine z0 (op := 11) (a := 6) (b := 1) (by rfl) (by rfl) (?_ : TZ (d + 1) 244 177 [some (.inr 100), some (.inl x1), some (.inl x2), some (.inl x3), some (.inl x4), some (.inl r14), some (.inl (x6 + 1)), some (.inl x7)] [] Z13 (zri Q))
        refine z_goto (t := 52) (by rfl) (by rfl) (?_ : TZ (d + 1) 244 52 [some (.inr 100), some (.inl x1), some (.inl x2), some (.inl x3), some (.inl x4), some (.inl r14), some (.inl (x6 + 1)), some (.inl x7)] [] Z13 (zri Q))
        exact v
  · have v := v2 h3; clear v1 v2
    show TZ (d + 1) 244 105 [some (.inr 100), some (.inl x1), some (.inl x2), some (.inl x3), some (.inl x4), some (.inl x5), some (.inl x6), some (.inl x7)] [] Z (zri Q)
    refine z0 (op := 4) (a := 4) (b := 0) (by rfl) (by rfl) (?_ : TZ (d + 1) 244 107 [some (.inr 100), some (.inl x1), some (.inl x2), some (.inl x3), some (.inl x4), some (.inl x5), some (.inl x6), some (.inl x7)] [.inl x4] Z (zri Q))
    refine z0 (op := 5) (a := 0) (b := 0) (by rfl) (by rfl) (?_ : TZ (d + 1) 244 108 [some (.inr 100), some (.inl x1), some (.inl x2), some (.inl x3), some (.inl x4), some (.inl x5), some (.inl x6), some (.inl x7)] [.inr 100, .inl x4] Z (zri Q))
    refine z_fr (by rfl) fr101_100 (?_ : TZ (d + 1) 244 111 [some (.inr 100), some (.inl x1), some (.inl x2), some (.inl x3), some (.inl x4), some (.inl x5), some (.inl x6), some (.inl x7)] [.inr 114, .inl x4] Z (zri Q))
    refine z0 (op := 4) (a := 7) (b := 0) (by rfl) (by rfl) (?_ : TZ (d + 1) 244 113 [some (.inr 100), some (.inl x1), some (.inl x2), some (.inl x3), some (.inl x4), some (.inl x5), some (.inl x6), some (.inl x7)] [.inl x7, .inr 114, .inl x4] Z (zri Q))
    obtain ⟨c15, v⟩ := v
    refine z_al (by rfl) ln_114 c15 (?_ : TZ (d + 1) 244 114 [some (.inr 100), some (.inl x1), some (.inl x2), some (.inl x3), some (.inl x4), some (.inl x5), some (.inl x6), some (.inl x7)] [.inl (Z 114 x7), .inl x4] Z (zri Q))
    obtain ⟨c16, v1, v2⟩ := v
    refine z_if0 (a := 5) (t := 131) (by rfl) (by rfl) c16 (fun h17 => ?_) (fun h17 => ?_)
    · have v := v1 h17; clear v1 v2
      show TZ (d + 1) 244 131 [some (.inr 100), some (.inl x1), some (.inl x2), some (.inl x3), some (.inl x4), some (.inl x5), some (.inl x6), some (.inl x7)] [.inl x4] Z (zri Q)
      refine z0 (op := 0) (a := 0) (b := 0) (by rfl) (by rfl) (?_ : TZ (d + 1) 244 132 [some (.inr 100), some (.inl x1), some (.inl x2), some (.inl x3), some (.inl x4), some (.inl x5), some (.inl x6), some (.inl x7)] [.inl 0, .inl x4] Z (zri Q))
      refine z0 (op := 12) (a := 4) (b := 0) (by rfl) (by rfl) (?_ : TZ (d + 1) 244 133 [some (.inr 100), some (.inl x1), some (.inl x2), some (.inl x3), some (.inl x4), some (.inl x5), some (.inl x6), some (.inl x7)] [.inl (zbit 4 x4 0)] Z (zri Q))
      refine z0 (op := 8) (a := 4) (b := 0) (by rfl) (by rfl) (?_ : TZ (d + 1) 244 135 [some (.inr 100), some (.inl x1), some (.inl x2), some (.inl x3), some (.inl (zbit 4 x4 0)), some (.inl x5), some (.inl x6), some (.inl x7)] [] Z (zri Q))
      refine z0 (op := 11) (a := 7) (b := 1) (by rfl) (by rfl) (?_ : TZ (d + 1) 244 138 [some (.inr 100), some (.inl x1), some (.inl x2), some (.inl x3), some (.inl (zbit 4 x4 0)), some (.inl x5), some (.inl x6), some (.inl (x7 + 1))] [] Z (zri Q))
      refine z_goto (t := 96) (by rfl) (by rfl) (?_ : TZ (d + 1) 244 96 [some (.inr 100), some (.inl x1), some (.inl x2), some (.inl x3), some (.inl (zbit 4 x4 0)), some (.inl x5), some (.inl x6), some (.inl (x7 + 1))] [] Z (zri Q))
      exact v
    · have v := v2 h17; clear v1 v2
      show TZ (d + 1) 244 117 [some (.inr 100), some (.inl x1), some (.inl x2), some (.inl x3), some (.inl x4), some (.inl x5), some (.inl x6), some (.inl x7)] [.inl x4] Z (zri Q)
      refine z0 (op := 0) (a := 0) (b := 1) (by rfl) (by rfl) (?_ : TZ (d + 1) 244 118 [some (.inr 100), some (.inl x1), some (.inl x2), some (.inl x3), some (.inl x4), some (.inl x5), some (.inl x6), some (.inl x7)] [.inl 1, .inl x4] Z (zri Q))
      refine z0 (op := 5) (a := 0) (b := 0) (by rfl) (by rfl) (?_ : TZ (d + 1) 244 119 [some (.inr 100), some (.inl x1), some (.inl x2), some (.inl x3), some (.inl x4), some (.inl x5), some (.inl x6), some (.inl x7)] [.inr 100, .inl 1, .inl x4] Z (zri Q))
      refine z_fr (by rfl) fr101_100 (?_ : TZ (d + 1) 244 122 [some (.inr 100), some (.inl x1), some (.inl x2), some (.inl x3), some (.inl x4), some (.inl x5), some (.inl x6), some (.inl x7)] [.inr 114, .inl 1, .inl x4] Z (zri Q))
      refine z0 (op := 4) (a := 7) (b := 0) (by rfl) (by rfl) (?_ : TZ (d + 1) 244 124 [some (.inr 100), some (.inl x1), some (.inl x2), some (.inl x3), some (.inl x4), some (.inl x5), some (.inl x6), some (.inl x7)] [.inl x7, .inr 114, .inl 1, .inl x4] Z (zri Q))
      obtain ⟨c18, v⟩ := v
      refine z_al (by rfl) ln_114 c18 (?_ : TZ (d + 1) 244 125 [some (.inr 100), some (.inl x1), some (.inl x2), some (.inl x3), some (.inl x4), some (.inl x5), some (.inl x6), some (.inl x7)] [.inl (Z 114 x7), .inl 1, .inl x4] Z (zri Q))
      refine z0 (op := 0) (a := 0) (b := 1) (by rfl) (by rfl) (?_ : TZ (d + 1) 244 126 [some (.inr 100), some (.inl x1), some (.inl x2), some (.inl x3), some (.inl x4), some (.inl x5), some (.inl x6), some (.inl x7)] [.inl 1, .inl (Z 114 x7), .inl 1, .inl x4] Z (zri Q))
      refine z0 (op := 12) (a := 1) (b := 0) (by rfl) (by rfl) (?_ : TZ (d + 1) 244 127 [some (.inr 100), some (.inl x1), some (.inl x2), some (.inl x3), some (.inl x4), some (.inl x5), some (.inl x6), some (.inl x7)] [.inl ((Z 114 x7) - 1), .inl 1, .inl x4] Z (zri Q))
      refine z0 (op := 12) (a := 6) (b := 0) (by rfl) (by rfl) (?_ : TZ (d + 1) 244 128 [some (.inr 100), some (.inl x1), some (.inl x2), some (.inl x3), some (.inl x4), some (.inl x5), some (.inl x6), some (.inl x7)] [.inl (zbit 6 1 ((Z 114 x7) - 1)), .inl x4] Z (zri Q))
      refine z_goto (t := 132) (by rfl) (by rfl) (?_ : TZ (d + 1) 244 132 [some (.inr 100), some (.inl x1), some (.inl x2), some (.inl x3), some (.inl x4), some (.inl x5), some (.inl x6), some (.inl x7)] [.inl (zbit 6 1 ((Z 114 x7) - 1)), .inl x4] Z (zri Q))
      refine z0 (op := 12) (a := 4) (b := 0) (by rfl) (by rfl) (?_ : TZ (d + 1) 244 133 [some (.inr 100), some (.inl x1), some (.inl x2), some (.inl x3), some (.inl x4), some (.inl x5), some (.inl x6), some (.inl x7)] [.inl (zbit 4 x4 (zbit 6 1 ((Z 114 x7) - 1)))] Z (zri Q))
      refine z0 (op := 8) (a := 4) (b := 0) (by rfl) (by rfl) (?_ : TZ (d + 1) 244 135 [some (.inr 100), some (.inl x1), some (.inl x2), some (.inl x3), some (.inl (zbit 4 x4 (zbit 6 1 ((Z 114 x7) - 1)))), some (.inl x5), some (.inl x6), some (.inl x7)] [] Z (zri Q))
      refine z0 (op := 11) (a := 7) (b := 1) (by rfl) (by rfl) (?_ : TZ (d + 1) 244 138 [some (.inr 100), some (.inl x1), some (.inl x2), some (.inl x3), some (.inl (zbit 4 x4 (zbit 6 1 ((Z 114 x7) - 1)))), some (.inl x5), some (.inl x6), some (.inl (x7 + 1))] [] Z (zri Q))
      refine z_goto (t := 96) (by rfl) (by rfl) (?_ : TZ (d + 1) 244 96 [some (.inr 100), some (.inl x1), some (.inl x2), some (.inl x3), some (.inl (zbit 4 x4 (zbit 6 1 ((Z 114 x7) - 1)))), some (.inl x5), some (.inl x6), some (.inl (x7 + 1))] [] Z (zri Q))
      exact v
theorem w245_0 {d : Nat} {x1 x2 : Int} {Z : zM} {Q : Int → zM → Prop}
    (v : zR x1 ∧
      zR x2 ∧
      (x1 ≠ x2 → TI d 220 [.inr 100, .inl x2] Z (fun r5 Z4 =>
          Q r5 Z4)) ∧
      (¬ x1 ≠ x2 → TI d 220 [.inr 100, .inl (-1)] Z (fun r7 Z6 =>
          Q r7 Z6))) :
    TZ (d + 1) 245 0 [some (.inr 100), some (.inl x1), some (.inl x2)] [] Z (zri Q) := by
  refine z0 (op := 5) (a := 0) (b := 0) (by rfl) (by rfl) (?_ : TZ (d + 1) 245 1 [some (.inr 100), some (.inl x1), some (.inl x2)] [.inr 100] Z (zri Q))
  refine z0 (op := 3) (a := 1) (b := 0) (by rfl) (by rfl) (?_ : TZ (d + 1) 245 2 [some (.inr 100), some (.inl x1), some (.inl x2)] [.inl x1, .inr 100] Z (zri Q))
  refine z0 (op := 3) (a := 2) (b := 0) (by rfl) (by rfl) (?_ : TZ (d + 1) 245 3 [some (.inr 100), some (.inl x1), some (.inl x2)] [.inl x2, .inl x1, .inr 100] Z (zri Q))
  obtain ⟨c1, c2, v1, v2⟩ := v
  refine z_if2 (a := 1) (t := 10) (by rfl) (by rfl) c1 c2 (fun h3 => ?_) (fun h3 => ?_)
  · have v := v1 h3; clear v1 v2
    show TZ (d + 1) 245 10 [some (.inr 100), some (.inl x1), some (.inl x2)] [.inr 100] Z (zri Q)
    refine z0 (op := 3) (a := 2) (b := 0) (by rfl) (by rfl) (?_ : TZ (d + 1) 245 11 [some (.inr 100), some (.inl x1), some (.inl x2)] [.inl x2, .inr 100] Z (zri Q))
    refine z_vi (by rfl) (by rfl) cl_100 (TI.mono v fun r5 Z4 v => ?_)
    show TZ (d + 1) 245 14 [some (.inr 100), some (.inl x1), some (.inl x2)] [.inl r5] Z4 (zri Q)
    exact z_reti (by rfl) (by rfl) v
  · have v := v2 h3; clear v1 v2
    show TZ (d + 1) 245 6 [some (.inr 100), some (.inl x1), some (.inl x2)] [.inr 100] Z (zri Q)
    refine z0 (op := 0) (a := 0) (b := (-1)) (by rfl) (by rfl) (?_ : TZ (d + 1) 245 7 [some (.inr 100), some (.inl x1), some (.inl x2)] [.inl (-1), .inr 100] Z (zri Q))
    refine z_goto (t := 11) (by rfl) (by rfl) (?_ : TZ (d + 1) 245 11 [some (.inr 100), some (.inl x1), some (.inl x2)] [.inl (-1), .inr 100] Z (zri Q))
    refine z_vi (by rfl) (by rfl) cl_100 (TI.mono v fun r7 Z6 v => ?_)
    show TZ (d + 1) 245 14 [some (.inr 100), some (.inl x1), some (.inl x2)] [.inl r7] Z6 (zri Q)
    exact z_reti (by rfl) (by rfl) v
theorem w246_0 {d : Nat} {x1 : Int} {Z : zM} {Q : Int → zM → Prop}
    (v : TZ d 246 4 [some (.inr 100), some (.inl x1), some (.inl 0), some (.inl 0)] [] Z (zri Q)) :
    TZ d 246 0 [some (.inr 100), some (.inl x1), none, none] [] Z (zri Q) := by
  refine z0 (op := 0) (a := 0) (b := 0) (by rfl) (by rfl) (?_ : TZ d 246 1 [some (.inr 100), some (.inl x1), none, none] [.inl 0] Z (zri Q))
  refine z0 (op := 7) (a := 2) (b := 0) (by rfl) (by rfl) (?_ : TZ d 246 2 [some (.inr 100), some (.inl x1), some (.inl 0), none] [] Z (zri Q))
  refine z0 (op := 0) (a := 0) (b := 0) (by rfl) (by rfl) (?_ : TZ d 246 3 [some (.inr 100), some (.inl x1), some (.inl 0), none] [.inl 0] Z (zri Q))
  refine z0 (op := 7) (a := 3) (b := 0) (by rfl) (by rfl) (?_ : TZ d 246 4 [some (.inr 100), some (.inl x1), some (.inl 0), some (.inl 0)] [] Z (zri Q))
  exact v
theorem w246_4 {d : Nat} {x1 x2 x3 : Int} {Z : zM} {Q : Int → zM → Prop}
    (v : zR x3 ∧
      (5 ≤ x3 → Q x2 Z) ∧
      (¬ 5 ≤ x3 → TI d 245 [.inr 100, .inl x1, .inl x3] Z (fun r4 Z3 =>
          zR r4 ∧
            zR x2 ∧
            (r4 ≤ x2 → TZ (d + 1) 246 4 [some (.inr 100), some (.inl x1), some (.inl x2), some (.inl (x3 + 1))] [] Z3 (zri Q)) ∧
            (¬ r4 ≤ x2 → TI d 245 [.inr 100, .inl x1, .inl x3] Z3 (fun r9 Z8 =>
                TZ (d + 1) 246 4 [some (.inr 100), some (.inl x1), some (.inl r9), some (.inl (x3 + 1))] [] Z8 (zri Q)))))) :
    TZ (d + 1) 246 4 [some (.inr 100), some (.inl x1), some (.inl x2), some (.inl x3)] [] Z (zri Q) := by
  refine z0 (op := 3) (a := 3) (b := 0) (by rfl) (by rfl) (?_ : TZ (d + 1) 246 5 [some (.inr 100), some (.inl x1), some (.inl x2), some (.inl x3)] [.inl x3] Z (zri Q))
  refine z0 (op := 0) (a := 0) (b := 5) (by rfl) (by rfl) (?_ : TZ (d + 1) 246 6 [some (.inr 100), some (.inl x1), some (.inl x2), some (.inl x3)] [.inl 5, .inl x3] Z (zri Q))
  obtain ⟨c1, v1, v2⟩ := v
  refine z_if2 (a := 3) (t := 36) (by rfl) (by rfl) c1 (by decide) (fun h2 => ?_) (fun h2 => ?_)
  · have v := v1 h2; clear v1 v2
    show TZ (d + 1) 246 36 [some (.inr 100), some (.inl x1), some (.inl x2), some (.inl x3)] [] Z (zri Q)
    refine z0 (op := 3) (a := 2) (b := 0) (by rfl) (by rfl) (?_ : TZ (d + 1) 246 37 [some (.inr 100), some (.inl x1), some (.inl x2), some (.inl x3)] [.inl x2] Z (zri Q))
    exact z_reti (by rfl) (by rfl) v
  · have v := v2 h2; clear v1 v2
    show TZ (d + 1) 246 9 [some (.inr 100), some (.inl x1), some (.inl x2), some (.inl x3)] [] Z (zri Q)
    refine z0 (op := 5) (a := 0) (b := 0) (by rfl) (by rfl) (?_ : TZ (d + 1) 246 10 [some (.inr 100), some (.inl x1), some (.inl x2), some (.inl x3)] [.inr 100] Z (zri Q))
    refine z0 (op := 3) (a := 1) (b := 0) (by rfl) (by rfl) (?_ : TZ (d + 1) 246 11 [some (.inr 100), some (.inl x1), some (.inl x2), some (.inl x3)] [.inl x1, .inr 100] Z (zri Q))
    refine z0 (op := 3) (a := 3) (b := 0) (by rfl) (by rfl) (?_ : TZ (d + 1) 246 12 [some (.inr 100), some (.inl x1), some (.inl x2), some (.inl x3)] [.inl x3, .inl x1, .inr 100] Z (zri Q))
    refine z_vi (by rfl) (by rfl) cl_100 (TI.mono v fun r4 Z3 v => ?_)
    show TZ (d + 1) 246 15 [some (.inr 100), some (.inl x1), some (.inl x2), some (.inl x3)] [.inl r4] Z3 (zri Q)
    refine z0 (op := 3) (a := 2) (b := 0) (by rfl) (by rfl) (?_ : TZ (d + 1) 246 16 [some (.inr 100), some (.inl x1), some (.inl x2), some (.inl x3)] [.inl x2, .inl r4] Z3 (zri Q))
    obtain ⟨c5, c6, v1, v2⟩ := v
    refine z_if2 (a := 5) (t := 28) (by rfl) (by rfl) c5 c6 (fun h7 => ?_) (fun h7 => ?_)
    · have v := v1 h7; clear v1 v2
      show TZ (d + 1) 246 28 [some (.inr 100), some (.inl x1), some (.inl x2), some (.inl x3)] [] Z3 (zri Q)
      refine z0 (op := 3) (a := 2) (b := 0) (by rfl) (by rfl) (?_ : TZ (d + 1) 246 29 [some (.inr 100), some (.inl x1), some (.inl x2), some (.inl x3)] [.inl x2] Z3 (zri Q))
      refine z0 (op := 7) (a := 2) (b := 0) (by rfl) (by rfl) (?_ : TZ (d + 1) 246 30 [some (.inr 100), some (.inl x1), some (.inl x2), some (.inl x3)] [] Z3 (zri Q))
      refine z0 (op := 11) (a := 3) (b := 1) (by rfl) (by rfl) (?_ : TZ (d + 1) 246 33 [some (.inr 100), some (.inl x1), some (.inl x2), some (.inl (x3 + 1))] [] Z3 (zri Q))
      refine z_goto (t := 4) (by rfl) (by rfl) (?_ : TZ (d + 1) 246 4 [some (.inr 100), some (.inl x1), some (.inl x2), some (.inl (x3 + 1))] [] Z3 (zri Q))
      exact v
    · have v := v2 h7; clear v1 v2
      show TZ (d + 1) 246 19 [some (.inr 100), some (.inl x1), some (.inl x2), some (.inl x3)] [] Z3 (zri Q)
      refine z0 (op := 5) (a := 0) (b := 0) (by rfl) (by rfl) (?_ : TZ (d + 1) 246 20 [some (.inr 100), some (.inl x1), some (.inl x2), some (.inl x3)] [.inr 100] Z3 (zri Q))
      refine z0 (op := 3) (a := 1) (b := 0) (by rfl) (by rfl) (?_ : TZ (d + 1) 246 21 [some (.inr 100), some (.inl x1), some (.inl x2), some (.inl x3)] [.inl x1, .inr 100] Z3 (zri Q))
      refine z0 (op := 3) (a := 3) (b := 0) (by rfl) (by rfl) (?_ : TZ (d + 1) 246 22 [some (.inr 100), some (.inl x1), some (.inl x2), some (.inl x3)] [.inl x3, .inl x1, .inr 100] Z3 (zri Q))
      refine z_vi (by rfl) (by rfl) cl_100 (TI.mono v fun r9 Z8 v => ?_)
      show TZ (d + 1) 246 25 [some (.inr 100), some (.inl x1), some (.inl x2), some (.inl x3)] [.inl r9] Z8 (zri Q)
      refine z_goto (t := 29) (by rfl) (by rfl) (?_ : TZ (d + 1) 246 29 [some (.inr 100), some (.inl x1), some (.inl x2), some (.inl x3)] [.inl r9] Z8 (zri Q))
      refine z0 (op := 7) (a := 2) (b := 0) (by rfl) (by rfl) (?_ : TZ (d + 1) 246 30 [some (.inr 100), some (.inl x1), some (.inl r9), some (.inl x3)] [] Z8 (zri Q))
      refine z0 (op := 11) (a := 3) (b := 1) (by rfl) (by rfl) (?_ : TZ (d + 1) 246 33 [some (.inr 100), some (.inl x1), some (.inl r9), some (.inl (x3 + 1))] [] Z8 (zri Q))
      refine z_goto (t := 4) (by rfl) (by rfl) (?_ : TZ (d + 1) 246 4 [some (.inr 100), some (.inl x1), some (.inl r9), some (.inl (x3 + 1))] [] Z8 (zri Q))
      exact v
theorem w247_0 {d : Nat} {x1 : Int} {Z : zM} {Q : Int → zM → Prop}
    (v : TZ d 247 5 [some (.inr 100), some (.inl x1), some (.inl 12), some (.inl 0)] [] Z (zri Q)) :
    TZ d 247 0 [some (.inr 100), some (.inl x1), none, none] [] Z (zri Q) := by
  refine z0 (op := 1) (a := 0) (b := 12) (by rfl) (by rfl) (?_ : TZ d 247 2 [some (.inr 100), some (.inl x1), none, none] [.inl 12] Z (zri Q))
  refine z0 (op := 7) (a := 2) (b := 0) (by rfl) (by rfl) (?_ : TZ d 247 3 [some (.inr 100), some (.inl x1), some (.inl 12), none] [] Z (zri Q))
  refine z0 (op := 0) (a := 0) (b := 0) (by rfl) (by rfl) (?_ : TZ d 247 4 [some (.inr 100), some (.inl x1), some (.inl 12), none] [.inl 0] Z (zri Q))
  refine z0 (op := 7) (a := 3) (b := 0) (by rfl) (by rfl) (?_ : TZ d 247 5 [some (.inr 100), some (.inl x1), some (.inl 12), some (.inl 0)] [] Z (zri Q))
  exact v
theorem w247_5 {d : Nat} {x1 x2 x3 : Int} {Z : zM} {Q : Int → zM → Prop}
    (v : zR x3 ∧
      (5 ≤ x3 → Q x2 Z) ∧
      (¬ 5 ≤ x3 → TI d 245 [.inr 100, .inl x3, .inl x1] Z (fun r4 Z3 =>
          TI d 183 [.inl x2, .inl r4] Z3 (fun r6 Z5 =>
            TZ (d + 1) 247 5 [some (.inr 100), some (.inl x1), some (.inl r6), some (.inl (x3 + 1))] [] Z5 (zri Q))))) :
    TZ (d + 1) 247 5 [some (.inr 100), some (.inl x1), some (.inl x2), some (.inl x3)] [] Z (zri Q) := by
  refine z0 (op := 3) (a := 3) (b := 0) (by rfl) (by rfl) (?_ : TZ (d + 1) 247 6 [some (.inr 100), some (.inl x1), some (.inl x2), some (.inl x3)] [.inl x3] Z (zri Q))
  refine z0 (op := 0) (a := 0) (b := 5) (by rfl) (by rfl) (?_ : TZ (d + 1) 247 7 [some (.inr 100), some (.inl x1), some (.inl x2), some (.inl x3)] [.inl 5, .inl x3] Z (zri Q))
  obtain ⟨c1, v1, v2⟩ := v
  refine z_if2 (a := 3) (t := 27) (by rfl) (by rfl) c1 (by decide) (fun h2 => ?_) (fun h2 => ?_)
  · have v := v1 h2; clear v1 v2
    show TZ (d + 1) 247 27 [some (.inr 100), some (.inl x1), some (.inl x2), some (.inl x3)] [] Z (zri Q)
    refine z0 (op := 3) (a := 2) (b := 0) (by rfl) (by rfl) (?_ : TZ (d + 1) 247 28 [some (.inr 100), some (.inl x1), some (.inl x2), some (.inl x3)] [.inl x2] Z (zri Q))
    exact z_reti (by rfl) (by rfl) v
  · have v := v2 h2; clear v1 v2
    show TZ (d + 1) 247 10 [some (.inr 100), some (.inl x1), some (.inl x2), some (.inl x3)] [] Z (zri Q)
    refine z0 (op := 3) (a := 2) (b := 0) (by rfl) (by rfl) (?_ : TZ (d + 1) 247 11 [some (.inr 100), some (.inl x1), some (.inl x2), some (.inl x3)] [.inl x2] Z (zri Q))
    refine z0 (op := 5) (a := 0) (b := 0) (by rfl) (by rfl) (?_ : TZ (d + 1) 247 12 [some (.inr 100), some (.inl x1), some (.inl x2), some (.inl x3)] [.inr 100, .inl x2] Z (zri Q))
    refine z0 (op := 3) (a := 3) (b := 0) (by rfl) (by rfl) (?_ : TZ (d + 1) 247 13 [some (.inr 100), some (.inl x1), some (.inl x2), some (.inl x3)] [.inl x3, .inr 100, .inl x2] Z (zri Q))
    refine z0 (op := 3) (a := 1) (b := 0) (by rfl) (by rfl) (?_ : TZ (d + 1) 247 14 [some (.inr 100), some (.inl x1), some (.inl x2), some (.inl x3)] [.inl x1, .inl x3, .inr 100, .inl x2] Z (zri Q))
    refine z_vi (by rfl) (by rfl) cl_100 (TI.mono v fun r4 Z3 v => ?_)
    show TZ (d + 1) 247 17 [some (.inr 100), some (.inl x1), some (.inl x2), some (.inl x3)] [.inl r4, .inl x2] Z3 (zri Q)
    refine z_si (by rfl) (by rfl) (TI.mono v fun r6 Z5 v => ?_)
    show TZ (d + 1) 247 20 [some (.inr 100), some (.inl x1), some (.inl x2), some (.inl x3)] [.inl r6] Z5 (zri Q)
    refine z0 (op := 7) (a := 2) (b := 0) (by rfl) (by rfl) (?_ : TZ (d + 1) 247 21 [some (.inr 100), some (.inl x1), some (.inl r6), some (.inl x3)] [] Z5 (zri Q))
    refine z0 (op := 11) (a := 3) (b := 1) (by rfl) (by rfl) (?_ : TZ (d + 1) 247 24 [some (.inr 100), some (.inl x1), some (.inl r6), some (.inl (x3 + 1))] [] Z5 (zri Q))
    refine z_goto (t := 5) (by rfl) (by rfl) (?_ : TZ (d + 1) 247 5 [some (.inr 100), some (.inl x1), some (.inl r6), some (.inl (x3 + 1))] [] Z5 (zri Q))
    exact v
theorem w248_0 {d : Nat} {x1 : Int} {Z : zM} {Q : Int → zM → Prop}
    (v : TI d 155 [.inl x1, .inl 0, .inl 2] Z (fun r2 Z1 =>
      zR r2 ∧
        (r2 ≠ 0 → TZ (d + 1) 248 23 [some (.inr 100), some (.inl x1), some (.inl 0), some (.inl 0), some (.inl 0)] [] Z1 (zri Q)) ∧
        (¬ r2 ≠ 0 → TI d 154 [.inr 100, .inl (-2)] Z1 (fun r6 Z5 =>
            Q r6 Z5)))) :
    TZ (d + 1) 248 0 [some (.inr 100), some (.inl x1), none, none, none] [] Z (zri Q) := by
  refine z0 (op := 3) (a := 1) (b := 0) (by rfl) (by rfl) (?_ : TZ (d + 1) 248 1 [some (.inr 100), some (.inl x1), none, none, none] [.inl x1] Z (zri Q))
  refine z0 (op := 0) (a := 0) (b := 0) (by rfl) (by rfl) (?_ : TZ (d + 1) 248 2 [some (.inr 100), some (.inl x1), none, none, none] [.inl 0, .inl x1] Z (zri Q))
  refine z0 (op := 0) (a := 0) (b := 2) (by rfl) (by rfl) (?_ : TZ (d + 1) 248 3 [some (.inr 100), some (.inl x1), none, none, none] [.inl 2, .inl 0, .inl x1] Z (zri Q))
  refine z_si (by rfl) (by rfl) (TI.mono v fun r2 Z1 v => ?_)
  show TZ (d + 1) 248 6 [some (.inr 100), some (.inl x1), none, none, none] [.inl r2] Z1 (zri Q)
  obtain ⟨c3, v1, v2⟩ := v
  refine z_if0 (a := 1) (t := 16) (by rfl) (by rfl) c3 (fun h4 => ?_) (fun h4 => ?_)
  · have v := v1 h4; clear v1 v2
    show TZ (d + 1) 248 16 [some (.inr 100), some (.inl x1), none, none, none] [] Z1 (zri Q)
    refine z0 (op := 0) (a := 0) (b := 0) (by rfl) (by rfl) (?_ : TZ (d + 1) 248 17 [some (.inr 100), some (.inl x1), none, none, none] [.inl 0] Z1 (zri Q))
    refine z0 (op := 7) (a := 2) (b := 0) (by rfl) (by rfl) (?_ : TZ (d + 1) 248 18 [some (.inr 100), some (.inl x1), some (.inl 0), none, none] [] Z1 (zri Q))
    refine z0 (op := 0) (a := 0) (b := 0) (by rfl) (by rfl) (?_ : TZ (d + 1) 248 19 [some (.inr 100), some (.inl x1), some (.inl 0), none, none] [.inl 0] Z1 (zri Q))
    refine z0 (op := 7) (a := 3) (b := 0) (by rfl) (by rfl) (?_ : TZ (d + 1) 248 20 [some (.inr 100), some (.inl x1), some (.inl 0), some (.inl 0), none] [] Z1 (zri Q))
    refine z0 (op := 0) (a := 0) (b := 0) (by rfl) (by rfl) (?_ : TZ (d + 1) 248 21 [some (.inr 100), some (.inl x1), some (.inl 0), some (.inl 0), none] [.inl 0] Z1 (zri Q))
    refine z0 (op := 8) (a := 4) (b := 0) (by rfl) (by rfl) (?_ : TZ (d + 1) 248 23 [some (.inr 100), some (.inl x1), some (.inl 0), some (.inl 0), some (.inl 0)] [] Z1 (zri Q))
    exact v
  · have v := v2 h4; clear v1 v2
    show TZ (d + 1) 248 9 [some (.inr 100), some (.inl x1), none, none, none] [] Z1 (zri Q)
    refine z0 (op := 5) (a := 0) (b := 0) (by rfl) (by rfl) (?_ : TZ (d + 1) 248 10 [some (.inr 100), some (.inl x1), none, none, none] [.inr 100] Z1 (zri Q))
    refine z0 (op := 1) (a := 0) (b := (-2)) (by rfl) (by rfl) (?_ : TZ (d + 1) 248 12 [some (.inr 100), some (.inl x1), none, none, none] [.inl (-2), .inr 100] Z1 (zri Q))
    refine z_vi (by rfl) (by rfl) cl_100 (TI.mono v fun r6 Z5 v => ?_)
    show TZ (d + 1) 248 15 [some (.inr 100), some (.inl x1), none, none, none] [.inl r6] Z5 (zri Q)
    exact z_reti (by rfl) (by rfl) v
theorem w248_23 {d : Nat} {x1 x2 x3 x4 : Int} {Z : zM} {Q : Int → zM → Prop}
    (v : zR x4 ∧
      (5 ≤ x4 → (zR x1 ∧
          (x1 ≠ 0 → (zR x1 ∧
              (x1 ≠ 1 → Q x3 Z) ∧
              (¬ x1 ≠ 1 → Q x2 Z))) ∧
          (¬ x1 ≠ 0 → TI d 246 [.inr 100, .inl x2] Z (fun r8 Z7 =>
              Q r8 Z7)))) ∧
      (¬ 5 ≤ x4 → TI d 246 [.inr 100, .inl x4] Z (fun r10 Z9 =>
          TI d 246 [.inr 100, .inl x2] Z9 (fun r12 Z11 =>
            zR r10 ∧
              zR r12 ∧
              (r12 ≤ r10 → TI d 247 [.inr 100, .inl x4] Z11 (fun r17 Z16 =>
                  zR r17 ∧
                    zR x3 ∧
                    (r17 ≤ x3 → TZ (d + 1) 248 23 [some (.inr 100), some (.inl x1), some (.inl x2), some (.inl x3), some (.inl (x4 + 1))] [] Z16 (zri Q)) ∧
                    (¬ r17 ≤ x3 → TI d 247 [.inr 100, .inl x4] Z16 (fun r22 Z21 =>
                        TZ (d + 1) 248 23 [some (.inr 100), some (.inl x1), some (.inl x2), some (.inl r22), some (.inl (x4 + 1))] [] Z21 (zri Q))))) ∧
              (¬ r12 ≤ r10 → TI d 247 [.inr 100, .inl x4] Z11 (fun r24 Z23 =>
                  zR r24 ∧
                    zR x3 ∧
                    (r24 ≤ x3 → TZ (d + 1) 248 23 [some (.inr 100), some (.inl x1), some (.inl x4), some (.inl x3), some (.inl (x4 + 1))] [] Z23 (zri Q)) ∧
                    (¬ r24 ≤ x3 → TI d 247 [.inr 100, .inl x4] Z23 (fun r29 Z28 =>
                        TZ (d + 1) 248 23 [some (.inr 100), some (.inl x1), some (.inl x4), some (.inl r29), some (.inl (x4 + 1))] [] Z28 (zri Q))))))))) :
    TZ (d + 1) 248 23 [some (.inr 100), some (.inl x1), some (.inl x2), some (.inl x3), some (.inl x4)] [] Z (zri Q) := by
  refine z0 (op := 4) (a := 4) (b := 0) (by rfl) (by rfl) (?_ : TZ (d + 1) 248 25 [some (.inr 100), some (.inl x1), some (.inl x2), some (.inl x3), some (.inl x4)] [.inl x4] Z (zri Q))
  refine z0 (op := 0) (a := 0) (b := 5) (by rfl) (by rfl) (?_ : TZ (d + 1) 248 26 [some (.inr 100), some (.inl x1), some (.inl x2), some (.inl x3), some (.inl x4)] [.inl 5, .inl x4] Z (zri Q))
  obtain ⟨c1, v1, v2⟩ := v
  refine z_if2 (a := 3) (t := 77) (by rfl) (by rfl) c1 (by decide) (fun h2 => ?_) (fun h2 => ?_)
  · have v := v1 h2; clear v1 v2
    show TZ (d + 1) 248 77 [some (.inr 100), some (.inl x1), some (.inl x2), some (.inl x3), some (.inl x4)] [] Z (zri Q)
    refine z0 (op := 3) (a := 1) (b := 0) (by rfl) (by rfl) (?_ : TZ (d + 1) 248 78 [some (.inr 100), some (.inl x1), some (.inl x2), some (.inl x3), some (.inl x4)] [.inl x1] Z (zri Q))
    obtain ⟨c3, v1, v2⟩ := v
    refine z_if0 (a := 1) (t := 89) (by rfl) (by rfl) c3 (fun h4 => ?_) (fun h4 => ?_)
    · have v := v1 h4; clear v1 v2
      show TZ (d + 1) 248 89 [some (.inr 100), some (.inl x1), some (.inl x2), some (.inl x3), some (.inl x4)] [] Z (zri Q)
      refine z0 (op := 3) (a := 1) (b := 0) (by rfl) (by rfl) (?_ : TZ (d + 1) 248 90 [some (.inr 100), some (.inl x1), some (.inl x2), some (.inl x3), some (.inl x4)] [.inl x1] Z (zri Q))
      refine z0 (op := 0) (a := 0) (b := 1) (by rfl) (by rfl) (?_ : TZ (d + 1) 248 91 [some (.inr 100), some (.inl x1), some (.inl x2), some (.inl x3), some (.inl x4)] [.inl 1, .inl x1] Z (zri Q))
      obtain ⟨c5, v1, v2⟩ := v
      refine z_if2 (a := 1) (t := 98) (by rfl) (by rfl) c5 (by decide) (fun h6 => ?_) (fun h6 => ?_)
      · have v := v1 h6; clear v1 v2
        show TZ (d + 1) 248 98 [some (.inr 100), some (.inl x1), some (.inl x2), some (.inl x3), some (.inl x4)] [] Z (zri Q)
        refine z0 (op := 3) (a := 3) (b := 0) (by rfl) (by rfl) (?_ : TZ (d + 1) 248 99 [some (.inr 100), some (.inl x1), some (.inl x2), some (.inl x3), some (.inl x4)] [.inl x3] Z (zri Q))
        exact z_reti (by rfl) (by rfl) v
      · have v := v2 h6; clear v1 v2
        show TZ (d + 1) 248 94 [some (.inr 100), some (.inl x1), some (.inl x2), some (.inl x3), some (.inl x4)] [] Z (zri Q)
        refine z0 (op := 3) (a := 2) (b := 0) (by rfl) (by rfl) (?_ : TZ (d + 1) 248 95 [some (.inr 100), some (.inl x1), some (.inl x2), some (.inl x3), some (.inl x4)] [.inl x2] Z (zri Q))
        refine z_goto (t := 99) (by rfl) (by rfl) (?_ : TZ (d + 1) 248 99 [some (.inr 100), some (.inl x1), some (.inl x2), some (.inl x3), some (.inl x4)] [.inl x2] Z (zri Q))
        exact z_reti (by rfl) (by rfl) v
    · have v := v2 h4; clear v1 v2
      show TZ (d + 1) 248 81 [some (.inr 100), some (.inl x1), some (.inl x2), some (.inl x3), some (.inl x4)] [] Z (zri Q)
      refine z0 (op := 5) (a := 0) (b := 0) (by rfl) (by rfl) (?_ : TZ (d + 1) 248 82 [some (.inr 100), some (.inl x1), some (.inl x2), some (.inl x3), some (.inl x4)] [.inr 100] Z (zri Q))
      refine z0 (op := 3) (a := 2) (b := 0) (by rfl) (by rfl) (?_ : TZ (d + 1) 248 83 [some (.inr 100), some (.inl x1), some (.inl x2), some (.inl x3), some (.inl x4)] [.inl x2, .inr 100] Z (zri Q))
      refine z_vi (by rfl) (by rfl) cl_100 (TI.mono v fun r8 Z7 v => ?_)
      show TZ (d + 1) 248 86 [some (.inr 100), some (.inl x1), some (.inl x2), some (.inl x3), some (.inl x4)] [.inl r8] Z7 (zri Q)
      refine z_goto (t := 99) (by rfl) (by rfl) (?_ : TZ (d + 1) 248 99 [some (.inr 100), some (.inl x1), some (.inl x2), some (.inl x3), some (.inl x4)] [.inl r8] Z7 (zri Q))
      exact z_reti (by rfl) (by rfl) v
  · have v := v2 h2; clear v1 v2
    show TZ (d + 1) 248 29 [some (.inr 100), some (.inl x1), some (.inl x2), some (.inl x3), some (.inl x4)] [] Z (zri Q)
    refine z0 (op := 5) (a := 0) (b := 0) (by rfl) (by rfl) (?_ : TZ (d + 1) 248 30 [some (.inr 100), some (.inl x1), some (.inl x2), some (.inl x3), some (.inl x4)] [.inr 100] Z (zri Q))
    refine z0 (op := 4) (a := 4) (b := 0) (by rfl) (by rfl) (?_ : TZ (d + 1) 248 32 [some (.inr 100), some (.inl x1), some (.inl x2), some (.inl x3), some (.inl x4)] [.inl x4, .inr 100] Z (zri Q))
    refine z_vi (by rfl) (by rfl) cl_100 (TI.mono v fun r10 Z9 v => ?_)
    show TZ (d + 1) 248 35 [some (.inr 100), some (.inl x1), some (.inl x2), some (.inl x3), some (.inl x4)] [.inl r10] Z9 (zri Q)
    refine z0 (op := 5) (a := 0) (b := 0) (by rfl) (by rfl) (?_ : TZ (d + 1) 248 36 [some (.inr 100), some (.inl x1), some (.inl x2), some (.inl x3), some (.inl x4)] [.inr 100, .inl r10] Z9 (zri Q))
    refine z0 (op := 3) (a := 2) (b := 0) (by rfl) (by rfl) (?_ : TZ (d + 1) 248 37 [some (.inr 100), some (.inl x1), some (.inl x2), some (.inl x3), some (.inl x4)] [.inl x2, .inr 100, .inl r10] Z9 (zri Q))
    refine z_vi (by rfl) (by rfl) cl_100 (TI.mono v fun r12 Z11 v => ?_)
    show TZ (d + 1) 248 40 [some (.inr 100), some (.inl x1), some (.inl x2), some (.inl x3), some (.inl x4)] [.inl r12, .inl r10] Z11 (zri Q)
    obtain ⟨c13, c14, v1, v2⟩ := v
    refine z_if2 (a := 3) (t := 48) (by rfl) (by rfl) c13 c14 (fun h15 => ?_) (fun h15 => ?_)
    · have v := v1 h15; clear v1 v2
      show TZ (d + 1) 248 48 [some (.inr 100), some (.inl x1), some (.inl x2), some (.inl x3), some (.inl x4)] [] Z11 (zri Q)
      refine z0 (op := 3) (a := 2) (b := 0) (by rfl) (by rfl) (?_ : TZ (d + 1) 248 49 [some (.inr 100), some (.inl x1), some (.inl x2), some (.inl x3), some (.inl x4)] [.inl x2] Z11 (zri Q))
      refine z0 (op := 7) (a := 2) (b := 0) (by rfl) (by rfl) (?_ : TZ (d + 1) 248 50 [some (.inr 100), some (.inl x1), some (.inl x2), some (.inl x3), some (.inl x4)] [] Z11 (zri Q))
      refine z0 (op := 5) (a := 0) (b := 0) (by rfl) (by rfl) (?_ : TZ (d + 1) 248 51 [some (.inr 100), some (.inl x1), some (.inl x2), some (.inl x3), some (.inl x4)] [.inr 100] Z11 (zri Q))
      refine z0 (op := 4) (a := 4) (b := 0) (by rfl) (by rfl) (?_ : TZ (d + 1) 248 53 [some (.inr 100), some (.inl x1), some (.inl x2), some (.inl x3), some (.inl x4)] [.inl x4, .inr 100] Z11 (zri Q))
      refine z_vi (by rfl) (by rfl) cl_100 (TI.mono v fun r17 Z16 v => ?_)
      show TZ (d + 1) 248 56 [some (.inr 100), some (.inl x1), some (.inl x2), some (.inl x3), some (.inl x4)] [.inl r17] Z16 (zri Q)
      refine z0 (op := 3) (a := 3) (b := 0) (by rfl) (by rfl) (?_ : TZ (d + 1) 248 57 [some (.inr 100), some (.inl x1), some (.inl x2), some (.inl x3), some (.inl x4)] [.inl x3, .inl r17] Z16 (zri Q))
      obtain ⟨c18, c19, v1, v2⟩ := v
      refine z_if2 (a := 5) (t := 69) (by rfl) (by rfl) c18 c19 (fun h20 => ?_) (fun h20 => ?_)
      · have v := v1 h20; clear v1 v2
        show TZ (d + 1) 248 69 [some (.inr 100), some (.inl x1), some (.inl x2), some (.inl x3), some (.inl x4)] [] Z16 (zri Q)
        refine z0 (op := 3) (a := 3) (b := 0) (by rfl) (by rfl) (?_ : TZ (d + 1) 248 70 [some (.inr 100), some (.inl x1), some (.inl x2), some (.inl x3), some (.inl x4)] [.inl x3] Z16 (zri Q))
        refine z0 (op := 7) (a := 3) (b := 0) (by rfl) (by rfl) (?_ : TZ (d + 1) 248 71 [some (.inr 100), some (.inl x1), some (.inl x2), some (.inl x3), some (.inl x4)] [] Z16 (zri Q))
        refine z0 (op := 11) (a := 4) (b := 1) (by rfl) (by rfl) (?_ : TZ (d + 1) 248 74 [some (.inr 100), some (.inl x1), some (.inl x2), some (.inl x3), some (.inl (x4 + 1))] [] Z16 (zri Q))
        refine z_goto (t := 23) (by rfl) (by rfl) (?_ : TZ (d + 1) 248 23 [some (.inr 100), some (.inl x1), some (.inl x2), some (.inl x3), some (.inl (x4 + 1))] [] Z16 (zri Q))
        exact v
      · have v := v2 h20; clear v1 v2
        show TZ (d + 1) 248 60 [some (.inr 100), some (.inl x1), some (.inl x2), some (.inl x3), some (.inl x4)] [] Z16 (zri Q)
        refine z0 (op := 5) (a := 0) (b := 0) (by rfl) (by rfl) (?_ : TZ (d + 1) 248 61 [some (.inr 100), some (.inl x1), some (.inl x2), some (.inl x3), some (.inl x4)] [.inr 100] Z16 (zri Q))
        refine z0 (op := 4) (a := 4) (b := 0) (by rfl) (by rfl) (?_ : TZ (d + 1) 248 63 [some (.inr 100), some (.inl x1), some (.inl x2), some (.inl x3), some (.inl x4)] [.inl x4, .inr 100] Z16 (zri Q))
        refine z_vi (by rfl) (by rfl) cl_100 (TI.mono v fun r22 Z21 v => ?_)
        show TZ (d + 1) 248 66 [some (.inr 100), some (.inl x1), some (.inl x2), some (.inl x3), some (.inl x4)] [.inl r22] Z21 (zri Q)
        refine z_goto (t := 70) (by rfl) (by rfl) (?_ : TZ (d + 1) 248 70 [some (.inr 100), some (.inl x1), some (.inl x2), some (.inl x3), some (.inl x4)] [.inl r22] Z21 (zri Q))
        refine z0 (op := 7) (a := 3) (b := 0) (by rfl) (by rfl) (?_ : TZ (d + 1) 248 71 [some (.inr 100), some (.inl x1), some (.inl x2), some (.inl r22), some (.inl x4)] [] Z21 (zri Q))
        refine z0 (op := 11) (a := 4) (b := 1) (by rfl) (by rfl) (?_ : TZ (d + 1) 248 74 [some (.inr 100), some (.inl x1), some (.inl x2), some (.inl r22), some (.inl (x4 + 1))] [] Z21 (zri Q))
        refine z_goto (t := 23) (by rfl) (by rfl) (?_ : TZ (d + 1) 248 23 [some (.inr 100), some (.inl x1), some (.inl x2), some (.inl r22), some (.inl (x4 + 1))] [] Z21 (zri Q))
        exact v
    · have v := v2 h15; clear v1 v2
      show TZ (d + 1) 248 43 [some (.inr 100), some (.inl x1), some (.inl x2), some (.inl x3), some (.inl x4)] [] Z11 (zri Q)
      refine z0 (op := 4) (a := 4) (b := 0) (by rfl) (by rfl) (?_ : TZ (d + 1) 248 45 [some (.inr 100), some (.inl x1), some (.inl x2), some (.inl x3), some (.inl x4)] [.inl x4] Z11 (zri Q))
      refine z_goto (t := 49) (by rfl) (by rfl) (?_ : TZ (d + 1) 248 49 [some (.inr 100), some (.inl x1), some (.inl x2), some (.inl x3), some (.inl x4)] [.inl x4] Z11 (zri Q))
      refine z0 (op := 7) (a := 2) (b := 0) (by rfl) (by rfl) (?_ : TZ (d + 1) 248 50 [some (.inr 100), some (.inl x1), some (.inl x4), some (.inl x3), some (.inl x4)] [] Z11 (zri Q))
      refine z0 (op := 5) (a := 0) (b := 0) (by rfl) (by rfl) (?_ : TZ (d + 1) 248 51 [some (.inr 100), some (.inl x1), some (.inl x4), some (.inl x3), some (.inl x4)] [.inr 100] Z11 (zri Q))
      refine z0 (op := 4) (a := 4) (b := 0) (by rfl) (by rfl) (?_ : TZ (d + 1) 248 53 [some (.inr 100), some (.inl x1), some (.inl x4), some (.inl x3), some (.inl x4)] [.inl x4, .inr 100] Z11 (zri Q))
      refine z_vi (by rfl) (by rfl) cl_100 (TI.mono v fun r24 Z23 v => ?_)
      show TZ (d + 1) 248 56 [some (.inr 100), some (.inl x1), some (.inl x4), some (.inl x3), some (.inl x4)] [.inl r24] Z23 (zri Q)
      refine z0 (op := 3) (a := 3) (b := 0) (by rfl) (by rfl) (?_ : TZ (d + 1) 248 57 [some (.inr 100), some (.inl x1), some (.inl x4), some (.inl x3), some (.inl x4)] [.inl x3, .inl r24] Z23 (zri Q))
      obtain ⟨c25, c26, v1, v2⟩ := v
      refine z_if2 (a := 5) (t := 69) (by rfl) (by rfl) c25 c26 (fun h27 => ?_) (fun h27 => ?_)
      · have v := v1 h27; clear v1 v2
        show TZ (d + 1) 248 69 [some (.inr 100), some (.inl x1), some (.inl x4), some (.inl x3), some (.inl x4)] [] Z23 (zri Q)
        refine z0 (op := 3) (a := 3) (b := 0) (by rfl) (by rfl) (?_ : TZ (d + 1) 248 70 [some (.inr 100), some (.inl x1), some (.inl x4), some (.inl x3), some (.inl x4)] [.inl x3] Z23 (zri Q))
        refine z0 (op := 7) (a := 3) (b := 0) (by rfl) (by rfl) (?_ : TZ (d + 1) 248 71 [some (.inr 100), some (.inl x1), some (.inl x4), some (.inl x3), some (.inl x4)] [] Z23 (zri Q))
        refine z0 (op := 11) (a := 4) (b := 1) (by rfl) (by rfl) (?_ : TZ (d + 1) 248 74 [some (.inr 100), some (.inl x1), some (.inl x4), some (.inl x3), some (.inl (x4 + 1))] [] Z23 (zri Q))
        refine z_goto (t := 23) (by rfl) (by rfl) (?_ : TZ (d + 1) 248 23 [some (.inr 100), some (.inl x1), some (.inl x4), some (.inl x3), some (.inl (x4 + 1))] [] Z23 (zri Q))
        exact v
      · have v := v2 h27; clear v1 v2
        show TZ (d + 1) 248 60 [some (.inr 100), some (.inl x1), some (.inl x4), some (.inl x3), some (.inl x4)] [] Z23 (zri Q)
        refine z0 (op := 5) (a := 0) (b := 0) (by rfl) (by rfl) (?_ : TZ (d + 1) 248 61 [some (.inr 100), some (.inl x1), some (.inl x4), some (.inl x3), some (.inl x4)] [.inr 100] Z23 (zri Q))
        refine z0 (op := 4) (a := 4) (b := 0) (by rfl) (by rfl) (?_ : TZ (d + 1) 248 63 [some (.inr 100), some (.inl x1), some (.inl x4), some (.inl x3), some (.inl x4)] [.inl x4, .inr 100] Z23 (zri Q))
        refine z_vi (by rfl) (by rfl) cl_100 (TI.mono v fun r29 Z28 v => ?_)
        show TZ (d + 1) 248 66 [some (.inr 100), some (.inl x1), some (.inl x4), some (.inl x3), some (.inl x4)] [.inl r29] Z28 (zri Q)
        refine z_goto (t := 70) (by rfl) (by rfl) (?_ : TZ (d + 1) 248 70 [some (.inr 100), some (.inl x1), some (.inl x4), some (.inl x3), some (.inl x4)] [.inl r29] Z28 (zri Q))
        refine z0 (op := 7) (a := 3) (b := 0) (by rfl) (by rfl) (?_ : TZ (d + 1) 248 71 [some (.inr 100), some (.inl x1), some (.inl x4), some (.inl r29), some (.inl x4)] [] Z28 (zri Q))
        refine z0 (op := 11) (a := 4) (b := 1) (by rfl) (by rfl) (?_ : TZ (d + 1) 248 74 [some (.inr 100), some (.inl x1), some (.inl x4), some (.inl r29), some (.inl (x4 + 1))] [] Z28 (zri Q))
        refine z_goto (t := 23) (by rfl) (by rfl) (?_ : TZ (d + 1) 248 23 [some (.inr 100), some (.inl x1), some (.inl x4), some (.inl r29), some (.inl (x4 + 1))] [] Z28 (zri Q))
        exact v
theorem w249_0 {d : Nat} {x0 x1 x2 : Int} {Z : zM} {Q : Int → zM → Prop}
    (v : TI d 183 [.inl x1, .inl x2] Z (fun r2 Z1 =>
      TI d 183 [.inl x0, .inl r2] Z1 (fun r4 Z3 =>
        TI d 183 [.inl (-x1), .inl (-x2)] Z3 (fun r6 Z5 =>
          TI d 183 [.inl (-x0), .inl r6] Z5 (fun r8 Z7 =>
            Q ((((x0 + x1) + x2) - r4) - (-r8)) Z7))))) :
    TZ (d + 1) 249 0 [some (.inl x0), some (.inl x1), some (.inl x2), none, none] [] Z (zri Q) := by
  refine z0 (op := 3) (a := 0) (b := 0) (by rfl) (by rfl) (?_ : TZ (d + 1) 249 1 [some (.inl x0), some (.inl x1), some (.inl x2), none, none] [.inl x0] Z (zri Q))
  refine z0 (op := 3) (a := 1) (b := 0) (by rfl) (by rfl) (?_ : TZ (d + 1) 249 2 [some (.inl x0), some (.inl x1), some (.inl x2), none, none] [.inl x1, .inl x0] Z (zri Q))
  refine z0 (op := 3) (a := 2) (b := 0) (by rfl) (by rfl) (?_ : TZ (d + 1) 249 3 [some (.inl x0), some (.inl x1), some (.inl x2), none, none] [.inl x2, .inl x1, .inl x0] Z (zri Q))
  refine z_si (by rfl) (by rfl) (TI.mono v fun r2 Z1 v => ?_)
  show TZ (d + 1) 249 6 [some (.inl x0), some (.inl x1), some (.inl x2), none, none] [.inl r2, .inl x0] Z1 (zri Q)
  refine z_si (by rfl) (by rfl) (TI.mono v fun r4 Z3 v => ?_)
  show TZ (d + 1) 249 9 [some (.inl x0), some (.inl x1), some (.inl x2), none, none] [.inl r4] Z3 (zri Q)
  refine z0 (op := 7) (a := 3) (b := 0) (by rfl) (by rfl) (?_ : TZ (d + 1) 249 10 [some (.inl x0), some (.inl x1), some (.inl x2), some (.inl r4), none] [] Z3 (zri Q))
  refine z0 (op := 3) (a := 0) (b := 0) (by rfl) (by rfl) (?_ : TZ (d + 1) 249 11 [some (.inl x0), some (.inl x1), some (.inl x2), some (.inl r4), none] [.inl x0] Z3 (zri Q))
  refine z0 (op := 13) (a := 0) (b := 0) (by rfl) (by rfl) (?_ : TZ (d + 1) 249 12 [some (.inl x0), some (.inl x1), some (.inl x2), some (.inl r4), none] [.inl (-x0)] Z3 (zri Q))
  refine z0 (op := 3) (a := 1) (b := 0) (by rfl) (by rfl) (?_ : TZ (d + 1) 249 13 [some (.inl x0), some (.inl x1), some (.inl x2), some (.inl r4), none] [.inl x1, .inl (-x0)] Z3 (zri Q))
  refine z0 (op := 13) (a := 0) (b := 0) (by rfl) (by rfl) (?_ : TZ (d + 1) 249 14 [some (.inl x0), some (.inl x1), some (.inl x2), some (.inl r4), none] [.inl (-x1), .inl (-x0)] Z3 (zri Q))
  refine z0 (op := 3) (a := 2) (b := 0) (by rfl) (by rfl) (?_ : TZ (d + 1) 249 15 [some (.inl x0), some (.inl x1), some (.inl x2), some (.inl r4), none] [.inl x2, .inl (-x1), .inl (-x0)] Z3 (zri Q))
  refine z0 (op := 13) (a := 0) (b := 0) (by rfl) (by rfl) (?_ : TZ (d + 1) 249 16 [some (.inl x0), some (.inl x1), some (.inl x2), some (.inl r4), none] [.inl (-x2), .inl (-x1), .inl (-x0)] Z3 (zri Q))
  refine z_si (by rfl) (by rfl) (TI.mono v fun r6 Z5 v => ?_)
  show TZ (d + 1) 249 19 [some (.inl x0), some (.inl x1), some (.inl x2), some (.inl r4), none] [.inl r6, .inl (-x0)] Z5 (zri Q)
  refine z_si (by rfl) (by rfl) (TI.mono v fun r8 Z7 v => ?_)
  show TZ (d + 1) 249 22 [some (.inl x0), some (.inl x1), some (.inl x2), some (.inl r4), none] [.inl r8] Z7 (zri Q)
  refine z0 (op := 13) (a := 0) (b := 0) (by rfl) (by rfl) (?_ : TZ (d + 1) 249 23 [some (.inl x0), some (.inl x1), some (.inl x2), some (.inl r4), none] [.inl (-r8)] Z7 (zri Q))
  refine z0 (op := 8) (a := 4) (b := 0) (by rfl) (by rfl) (?_ : TZ (d + 1) 249 25 [some (.inl x0), some (.inl x1), some (.inl x2), some (.inl r4), some (.inl (-r8))] [] Z7 (zri Q))
  refine z0 (op := 3) (a := 0) (b := 0) (by rfl) (by rfl) (?_ : TZ (d + 1) 249 26 [some (.inl x0), some (.inl x1), some (.inl x2), some (.inl r4), some (.inl (-r8))] [.inl x0] Z7 (zri Q))
  refine z0 (op := 3) (a := 1) (b := 0) (by rfl) (by rfl) (?_ : TZ (d + 1) 249 27 [some (.inl x0), some (.inl x1), some (.inl x2), some (.inl r4), some (.inl (-r8))] [.inl x1, .inl x0] Z7 (zri Q))
  refine z0 (op := 12) (a := 0) (b := 0) (by rfl) (by rfl) (?_ : TZ (d + 1) 249 28 [some (.inl x0), some (.inl x1), some (.inl x2), some (.inl r4), some (.inl (-r8))] [.inl (x0 + x1)] Z7 (zri Q))
  refine z0 (op := 3) (a := 2) (b := 0) (by rfl) (by rfl) (?_ : TZ (d + 1) 249 29 [some (.inl x0), some (.inl x1), some (.inl x2), some (.inl r4), some (.inl (-r8))] [.inl x2, .inl (x0 + x1)] Z7 (zri Q))
  refine z0 (op := 12) (a := 0) (b := 0) (by rfl) (by rfl) (?_ : TZ (d + 1) 249 30 [some (.inl x0), some (.inl x1), some (.inl x2), some (.inl r4), some (.inl (-r8))] [.inl ((x0 + x1) + x2)] Z7 (zri Q))
  refine z0 (op := 3) (a := 3) (b := 0) (by rfl) (by rfl) (?_ : TZ (d + 1) 249 31 [some (.inl x0), some (.inl x1), some (.inl x2), some (.inl r4), some (.inl (-r8))] [.inl r4, .inl ((x0 + x1) + x2)] Z7 (zri Q))
  refine z0 (op := 12) (a := 1) (b := 0) (by rfl) (by rfl) (?_ : TZ (d + 1) 249 32 [some (.inl x0), some (.inl x1), some (.inl x2), some (.inl r4), some (.inl (-r8))] [.inl (((x0 + x1) + x2) - r4)] Z7 (zri Q))
  refine z0 (op := 4) (a := 4) (b := 0) (by rfl) (by rfl) (?_ : TZ (d + 1) 249 34 [some (.inl x0), some (.inl x1), some (.inl x2), some (.inl r4), some (.inl (-r8))] [.inl (-r8), .inl (((x0 + x1) + x2) - r4)] Z7 (zri Q))
  refine z0 (op := 12) (a := 1) (b := 0) (by rfl) (by rfl) (?_ : TZ (d + 1) 249 35 [some (.inl x0), some (.inl x1), some (.inl x2), some (.inl r4), some (.inl (-r8))] [.inl ((((x0 + x1) + x2) - r4) - (-r8))] Z7 (zri Q))
  exact z_reti (by rfl) (by rfl) v
theorem w250_0 {d : Nat} {Z : zM} {Q : Int → zM → Prop}
    (v : TZ d 250 4 [some (.inr 100), some (.inl 0), some (.inl 0)] [] Z (zri Q)) :
    TZ d 250 0 [some (.inr 100), none, none] [] Z (zri Q) := by
  refine z0 (op := 0) (a := 0) (b := 0) (by rfl) (by rfl) (?_ : TZ d 250 1 [some (.inr 100), none, none] [.inl 0] Z (zri Q))
  refine z0 (op := 7) (a := 1) (b := 0) (by rfl) (by rfl) (?_ : TZ d 250 2 [some (.inr 100), some (.inl 0), none] [] Z (zri Q))
  refine z0 (op := 0) (a := 0) (b := 0) (by rfl) (by rfl) (?_ : TZ d 250 3 [some (.inr 100), some (.inl 0), none] [.inl 0] Z (zri Q))
  refine z0 (op := 7) (a := 2) (b := 0) (by rfl) (by rfl) (?_ : TZ d 250 4 [some (.inr 100), some (.inl 0), some (.inl 0)] [] Z (zri Q))
  exact v
theorem w250_4 {d : Nat} {x1 x2 : Int} {Z : zM} {Q : Int → zM → Prop}
    (v : zR x2 ∧
      zR (Z 100 26) ∧
      ((Z 100 26) ≤ x2 → TZ (d + 1) 250 83 [some (.inr 100), some (.inl x1), some (.inl 0)] [] Z (zri Q)) ∧
      (¬ (Z 100 26) ≤ x2 → (zR (Z 100 26) ∧
          (3 ≤ (Z 100 26) → ((0 ≤ x2 ∧ x2 < 12) ∧
              zR (x2 + 1) ∧
              (1 ≤ (Z 100 26) ∧ (Z 100 26) ≤ 2147483647) ∧
              (0 ≤ (Int.tmod (x2 + 1) (Z 100 26)) ∧ (Int.tmod (x2 + 1) (Z 100 26)) < 12) ∧
              zR ((x2 + (Z 100 26)) - 1) ∧
              (1 ≤ (Z 100 26) ∧ (Z 100 26) ≤ 2147483647) ∧
              (0 ≤ (Int.tmod ((x2 + (Z 100 26)) - 1) (Z 100 26)) ∧ (Int.tmod ((x2 + (Z 100 26)) - 1) (Z 100 26)) < 12) ∧
              TI d 249 [.inl (Z 120 x2), .inl (Z 120 (Int.tmod (x2 + 1) (Z 100 26))), .inl (Z 120 (Int.tmod ((x2 + (Z 100 26)) - 1) (Z 100 26)))] Z (fun r14 Z13 =>
              (0 ≤ x2 ∧ x2 < 12) ∧
                ∀ Z16, Z16 = zup Z13 121 x2 r14 →
                TZ (d + 1) 250 4 [some (.inr 100), some (.inl x1), some (.inl (x2 + 1))] [] Z16 (zri Q)))) ∧
          (¬ 3 ≤ (Z 100 26) → ((0 ≤ x2 ∧ x2 < 12) ∧
              (0 ≤ x2 ∧ x2 < 12) ∧
              ∀ Z19, Z19 = zup Z 121 x2 (Z 120 x2) →
              TZ (d + 1) 250 4 [some (.inr 100), some (.inl x1), some (.inl (x2 + 1))] [] Z19 (zri Q)))))) :
    TZ (d + 1) 250 4 [some (.inr 100), some (.inl x1), some (.inl x2)] [] Z (zri Q) := by
  refine z0 (op := 3) (a := 2) (b := 0) (by rfl) (by rfl) (?_ : TZ (d + 1) 250 5 [some (.inr 100), some (.inl x1), some (.inl x2)] [.inl x2] Z (zri Q))
  refine z0 (op := 5) (a := 0) (b := 0) (by rfl) (by rfl) (?_ : TZ (d + 1) 250 6 [some (.inr 100), some (.inl x1), some (.inl x2)] [.inr 100, .inl x2] Z (zri Q))
  refine z_fi (by rfl) fi120_100 (?_ : TZ (d + 1) 250 9 [some (.inr 100), some (.inl x1), some (.inl x2)] [.inl (Z 100 26), .inl x2] Z (zri Q))
  obtain ⟨c1, c2, v1, v2⟩ := v
  refine z_if2 (a := 3) (t := 81) (by rfl) (by rfl) c1 c2 (fun h3 => ?_) (fun h3 => ?_)
  · have v := v1 h3; clear v1 v2
    show TZ (d + 1) 250 81 [some (.inr 100), some (.inl x1), some (.inl x2)] [] Z (zri Q)
    refine z0 (op := 0) (a := 0) (b := 0) (by rfl) (by rfl) (?_ : TZ (d + 1) 250 82 [some (.inr 100), some (.inl x1), some (.inl x2)] [.inl 0] Z (zri Q))
    refine z0 (op := 7) (a := 2) (b := 0) (by rfl) (by rfl) (?_ : TZ (d + 1) 250 83 [some (.inr 100), some (.inl x1), some (.inl 0)] [] Z (zri Q))
    exact v
  · have v := v2 h3; clear v1 v2
    show TZ (d + 1) 250 12 [some (.inr 100), some (.inl x1), some (.inl x2)] [] Z (zri Q)
    refine z0 (op := 5) (a := 0) (b := 0) (by rfl) (by rfl) (?_ : TZ (d + 1) 250 13 [some (.inr 100), some (.inl x1), some (.inl x2)] [.inr 100] Z (zri Q))
    refine z_fr (by rfl) fr108_100 (?_ : TZ (d + 1) 250 16 [some (.inr 100), some (.inl x1), some (.inl x2)] [.inr 121] Z (zri Q))
    refine z0 (op := 3) (a := 2) (b := 0) (by rfl) (by rfl) (?_ : TZ (d + 1) 250 17 [some (.inr 100), some (.inl x1), some (.inl x2)] [.inl x2, .inr 121] Z (zri Q))
    refine z0 (op := 5) (a := 0) (b := 0) (by rfl) (by rfl) (?_ : TZ (d + 1) 250 18 [some (.inr 100), some (.inl x1), some (.inl x2)] [.inr 100, .inl x2, .inr 121] Z (zri Q))
    refine z_fi (by rfl) fi120_100 (?_ : TZ (d + 1) 250 21 [some (.inr 100), some (.inl x1), some (.inl x2)] [.inl (Z 100 26), .inl x2, .inr 121] Z (zri Q))
    refine z0 (op := 0) (a := 0) (b := 3) (by rfl) (by rfl) (?_ : TZ (d + 1) 250 22 [some (.inr 100), some (.inl x1), some (.inl x2)] [.inl 3, .inl (Z 100 26), .inl x2, .inr 121] Z (zri Q))
    obtain ⟨c4, v1, v2⟩ := v
    refine z_if2 (a := 3) (t := 34) (by rfl) (by rfl) c4 (by decide) (fun h5 => ?_) (fun h5 => ?_)
    · have v := v1 h5; clear v1 v2
      show TZ (d + 1) 250 34 [some (.inr 100), some (.inl x1), some (.inl x2)] [.inl x2, .inr 121] Z (zri Q)
      refine z0 (op := 5) (a := 0) (b := 0) (by rfl) (by rfl) (?_ : TZ (d + 1) 250 35 [some (.inr 100), some (.inl x1), some (.inl x2)] [.inr 100, .inl x2, .inr 121] Z (zri Q))
      refine z_fr (by rfl) fr107_100 (?_ : TZ (d + 1) 250 38 [some (.inr 100), some (.inl x1), some (.inl x2)] [.inr 120, .inl x2, .inr 121] Z (zri Q))
      refine z0 (op := 3) (a := 2) (b := 0) (by rfl) (by rfl) (?_ : TZ (d + 1) 250 39 [some (.inr 100), some (.inl x1), some (.inl x2)] [.inl x2, .inr 120, .inl x2, .inr 121] Z (zri Q))
      obtain ⟨c6, v⟩ := v
      refine z_al (by rfl) ln_120 c6 (?_ : TZ (d + 1) 250 40 [some (.inr 100), some (.inl x1), some (.inl x2)] [.inl (Z 120 x2), .inl x2, .inr 121] Z (zri Q))
      refine z0 (op := 5) (a := 0) (b := 0) (by rfl) (by rfl) (?_ : TZ (d + 1) 250 41 [some (.inr 100), some (.inl x1), some (.inl x2)] [.inr 100, .inl (Z 120 x2), .inl x2, .inr 121] Z (zri Q))
      refine z_fr (by rfl) fr107_100 (?_ : TZ (d + 1) 250 44 [some (.inr 100), some (.inl x1), some (.inl x2)] [.inr 120, .inl (Z 120 x2), .inl x2, .inr 121] Z (zri Q))
      refine z0 (op := 3) (a := 2) (b := 0) (by rfl) (by rfl) (?_ : TZ (d + 1) 250 45 [some (.inr 100), some (.inl x1), some (.inl x2)] [.inl x2, .inr 120, .inl (Z 120 x2), .inl x2, .inr 121] Z (zri Q))
      refine z0 (op := 0) (a := 0) (b := 1) (by rfl) (by rfl) (?_ : TZ (d + 1) 250 46 [some (.inr 100), some (.inl x1), some (.inl x2)] [.inl 1, .inl x2, .inr 120, .inl (Z 120 x2), .inl x2, .inr 121] Z (zri Q))
      refine z0 (op := 12) (a := 0) (b := 0) (by rfl) (by rfl) (?_ : TZ (d + 1) 250 47 [some (.inr 100), some (.inl x1), some (.inl x2)] [.inl (x2 + 1), .inr 120, .inl (Z 120 x2), .inl x2, .inr 121] Z (zri Q))
      refine z0 (op := 5) (a := 0) (b := 0) (by rfl) (by rfl) (?_ : TZ (d + 1) 250 48 [some (.inr 100), some (.inl x1), some (.inl x2)] [.inr 100, .inl (x2 + 1), .inr 120, .inl (Z 120 x2), .inl x2, .inr 121] Z (zri Q))
      refine z_fi (by rfl) fi120_100 (?_ : TZ (d + 1) 250 51 [some (.inr 100), some (.inl x1), some (.inl x2)] [.inl (Z 100 26), .inl (x2 + 1), .inr 120, .inl (Z 120 x2), .inl x2, .inr 121] Z (zri Q))
      obtain ⟨c7, c8, v⟩ := v
      refine z_rem (by rfl) c7 c8 (?_ : TZ (d + 1) 250 52 [some (.inr 100), some (.inl x1), some (.inl x2)] [.inl (Int.tmod (x2 + 1) (Z 100 26)), .inr 120, .inl (Z 120 x2), .inl x2, .inr 121] Z (zri Q))
      obtain ⟨c9, v⟩ := v
      refine z_al (by rfl) ln_120 c9 (?_ : TZ (d + 1) 250 53 [some (.inr 100), some (.inl x1), some (.inl x2)] [.inl (Z 120 (Int.tmod (x2 + 1) (Z 100 26))), .inl (Z 120 x2), .inl x2, .inr 121] Z (zri Q))
      refine z0 (op := 5) (a := 0) (b := 0) (by rfl) (by rfl) (?_ : TZ (d + 1) 250 54 [some (.inr 100), some (.inl x1), some (.inl x2)] [.inr 100, .inl (Z 120 (Int.tmod (x2 + 1) (Z 100 26))), .inl (Z 120 x2), .inl x2, .inr 121] Z (zri Q))
      refine z_fr (by rfl) fr107_100 (?_ : TZ (d + 1) 250 57 [some (.inr 100), some (.inl x1), some (.inl x2)] [.inr 120, .inl (Z 120 (Int.tmod (x2 + 1) (Z 100 26))), .inl (Z 120 x2), .inl x2, .inr 121] Z (zri Q))
      refine z0 (op := 3) (a := 2) (b := 0) (by rfl) (by rfl) (?_ : TZ (d + 1) 250 58 [some (.inr 100), some (.inl x1), some (.inl x2)] [.inl x2, .inr 120, .inl (Z 120 (Int.tmod (x2 + 1) (Z 100 26))), .inl (Z 120 x2), .inl x2, .inr 121] Z (zri Q))
      refine z0 (op := 5) (a := 0) (b := 0) (by rfl) (by rfl) (?_ : TZ (d + 1) 250 59 [some (.inr 100), some (.inl x1), some (.inl x2)] [.inr 100, .inl x2, .inr 120, .inl (Z 120 (Int.tmod (x2 + 1) (Z 100 26))), .inl (Z 120 x2), .inl x2, .inr 121] Z (zri Q))
      refine z_fi (by rfl) fi120_100 (?_ : TZ (d + 1) 250 62 [some (.inr 100), some (.inl x1), some (.inl x2)] [.inl (Z 100 26), .inl x2, .inr 120, .inl (Z 120 (Int.tmod (x2 + 1) (Z 100 26))), .inl (Z 120 x2), .inl x2, .inr 121] Z (zri Q))
      refine z0 (op := 12) (a := 0) (b := 0) (by rfl) (by rfl) (?_ : TZ (d + 1) 250 63 [some (.inr 100), some (.inl x1), some (.inl x2)] [.inl (x2 + (Z 100 26)), .inr 120, .inl (Z 120 (Int.tmod (x2 + 1) (Z 100 26))), .inl (Z 120 x2), .inl x2, .inr 121] Z (zri Q))
      refine z0 (op := 0) (a := 0) (b := 1) (by rfl) (by rfl) (?_ : TZ (d + 1) 250 64 [some (.inr 100), some (.inl x1), some (.inl x2)] [.inl 1, .inl (x2 + (Z 100 26)), .inr 120, .inl (Z 120 (Int.tmod (x2 + 1) (Z 100 26))), .inl (Z 120 x2), .inl x2, .inr 121] Z (zri Q))
      refine z0 (op := 12) (a := 1) (b := 0) (by rfl) (by rfl) (?_ : TZ (d + 1) 250 65 [some (.inr 100), some (.inl x1), some (.inl x2)] [.inl ((x2 + (Z 100 26)) - 1), .inr 120, .inl (Z 120 (Int.tmod (x2 + 1) (Z 100 26))), .inl (Z 120 x2), .inl x2, .inr 121] Z (zri Q))
      refine z0 (op := 5) (a := 0) (b := 0) (by rfl) (by rfl) (?_ : TZ (d + 1) 250 66 [some (.inr 100), some (.inl x1), some (.inl x2)] [.inr 100, .inl ((x2 + (Z 100 26)) - 1), .inr 120, .inl (Z 120 (Int.tmod (x2 + 1) (Z 100 26))), .inl (Z 120 x2), .inl x2, .inr 121] Z (zri Q))
      refine z_fi (by rfl) fi120_100 (?_ : TZ (d + 1) 250 69 [some (.inr 100), some (.inl x1), some (.inl x2)] [.inl (Z 100 26), .inl ((x2 + (Z 100 26)) - 1), .inr 120, .inl (Z 120 (Int.tmod (x2 + 1) (Z 100 26))), .inl (Z 120 x2), .inl x2, .inr 121] Z (zri Q))
      obtain ⟨c10, c11, v⟩ := v
      refine z_rem (by rfl) c10 c11 (?_ : TZ (d + 1) 250 70 [some (.inr 100), some (.inl x1), some (.inl x2)] [.inl (Int.tmod ((x2 + (Z 100 26)) - 1) (Z 100 26)), .inr 120, .inl (Z 120 (Int.tmod (x2 + 1) (Z 100 26))), .inl (Z 120 x2), .inl x2, .inr 121] Z (zri Q))
      obtain ⟨c12, v⟩ := v
      refine z_al (by rfl) ln_120 c12 (?_ : TZ (d + 1) 250 71 [some (.inr 100), some (.inl x1), some (.inl x2)] [.inl (Z 120 (Int.tmod ((x2 + (Z 100 26)) - 1) (Z 100 26))), .inl (Z 120 (Int.tmod (x2 + 1) (Z 100 26))), .inl (Z 120 x2), .inl x2, .inr 121] Z (zri Q))
      refine z_si (by rfl) (by rfl) (TI.mono v fun r14 Z13 v => ?_)
      show TZ (d + 1) 250 74 [some (.inr 100), some (.inl x1), some (.inl x2)] [.inl r14, .inl x2, .inr 121] Z13 (zri Q)
      obtain ⟨c15, v⟩ := v
      obtain ⟨Z16, eZ16⟩ : ∃ zz, zz = zup Z13 121 x2 r14 := ⟨_, rfl⟩
      have v := v Z16 eZ16
      refine z_as (by rfl) ln_121 c15 ?_
      show TZ (d + 1) 250 75 [some (.inr 100), some (.inl x1), some (.inl x2)] [] (zup Z13 121 x2 r14) _
      rw [← eZ16]
      refine z0 (op := 11) (a := 2) (b := 1) (by rfl) (by rfl) (?_ : TZ (d + 1) 250 78 [some (.inr 100), some (.inl x1), some (.inl (x2 + 1))] [] Z16 (zri Q))
      refine z_goto (t := 4) (by rfl) (by rfl) (?_ : TZ (d + 1) 250 4 [some (.inr 100), some (.inl x1), some (.inl (x2 + 1))] [] Z16 (zri Q))
      exact v
    · have v := v2 h5; clear v1 v2
      show TZ (d + 1) 250 25 [some (.inr 100), some (.inl x1), some (.inl x2)] [.inl x2, .inr 121] Z (zri Q)
      refine z0 (op := 5) (a := 0) (b := 0) (by rfl) (by rfl) (?_ : TZ (d + 1) 250 26 [some (.inr 100), some (.inl x1), some (.inl x2)] [.inr 100, .inl x2, .inr 121] Z (zri Q))
      refine z_fr (by rfl) fr107_100 (?_ : TZ (d + 1) 250 29 [some (.inr 100), some (.inl x1), some (.inl x2)] [.inr 120, .inl x2, .inr 121] Z (zri Q))
      refine z0 (op := 3) (a := 2) (b := 0) (by rfl) (by rfl) (?_ : TZ (d + 1) 250 30 [some (.inr 100), some (.inl x1), some (.inl x2)] [.inl x2, .inr 120, .inl x2, .inr 121] Z (zri Q))
      obtain ⟨c17, v⟩ := v
      refine z_al (by rfl) ln_120 c17 (?_ : TZ (d + 1) 250 31 [some (.inr 100), some (.inl x1), some (.inl x2)] [.inl (Z 120 x2), .inl x2, .inr 121] Z (zri Q))
      refine z_goto (t := 74) (by rfl) (by rfl) (?_ : TZ (d + 1) 250 74 [some (.inr 100), some (.inl x1), some (.inl x2)] [.inl (Z 120 x2), .inl x2, .inr 121] Z (zri Q))
      obtain ⟨c18, v⟩ := v
      obtain ⟨Z19, eZ19⟩ : ∃ zz, zz = zup Z 121 x2 (Z 120 x2) := ⟨_, rfl⟩
      have v := v Z19 eZ19
      refine z_as (by rfl) ln_121 c18 ?_
      show TZ (d + 1) 250 75 [some (.inr 100), some (.inl x1), some (.inl x2)] [] (zup Z 121 x2 (Z 120 x2)) _
      rw [← eZ19]
      refine z0 (op := 11) (a := 2) (b := 1) (by rfl) (by rfl) (?_ : TZ (d + 1) 250 78 [some (.inr 100), some (.inl x1), some (.inl (x2 + 1))] [] Z19 (zri Q))
      refine z_goto (t := 4) (by rfl) (by rfl) (?_ : TZ (d + 1) 250 4 [some (.inr 100), some (.inl x1), some (.inl (x2 + 1))] [] Z19 (zri Q))
      exact v
theorem w250_83 {d : Nat} {x1 x2 : Int} {Z : zM} {Q : Int → zM → Prop}
    (v : zR x2 ∧
      zR (Z 100 26) ∧
      ((Z 100 26) ≤ x2 → ((x1 = 0 ∨ x1 = 1) ∧ Q x1 Z)) ∧
      (¬ (Z 100 26) ≤ x2 → ((0 ≤ x2 ∧ x2 < 12) ∧
          (0 ≤ x2 ∧ x2 < 12) ∧
          zR (Z 121 x2) ∧
          zR (Z 120 x2) ∧
          ((Z 121 x2) = (Z 120 x2) → ((0 ≤ x2 ∧ x2 < 12) ∧
              (0 ≤ x2 ∧ x2 < 12) ∧
              ∀ Z12, Z12 = zup Z 120 x2 (Z 121 x2) →
              TZ d 250 83 [some (.inr 100), some (.inl (zbit 4 x1 0)), some (.inl (x2 + 1))] [] Z12 (zri Q))) ∧
          (¬ (Z 121 x2) = (Z 120 x2) → ((0 ≤ x2 ∧ x2 < 12) ∧
              (0 ≤ x2 ∧ x2 < 12) ∧
              ∀ Z15, Z15 = zup Z 120 x2 (Z 121 x2) →
              TZ d 250 83 [some (.inr 100), some (.inl (zbit 4 x1 1)), some (.inl (x2 + 1))] [] Z15 (zri Q)))))) :
    TZ d 250 83 [some (.inr 100), some (.inl x1), some (.inl x2)] [] Z (zri Q) := by
  refine z0 (op := 3) (a := 2) (b := 0) (by rfl) (by rfl) (?_ : TZ d 250 84 [some (.inr 100), some (.inl x1), some (.inl x2)] [.inl x2] Z (zri Q))
  refine z0 (op := 5) (a := 0) (b := 0) (by rfl) (by rfl) (?_ : TZ d 250 85 [some (.inr 100), some (.inl x1), some (.inl x2)] [.inr 100, .inl x2] Z (zri Q))
  refine z_fi (by rfl) fi120_100 (?_ : TZ d 250 88 [some (.inr 100), some (.inl x1), some (.inl x2)] [.inl (Z 100 26), .inl x2] Z (zri Q))
  obtain ⟨c1, c2, v1, v2⟩ := v
  refine z_if2 (a := 3) (t := 132) (by rfl) (by rfl) c1 c2 (fun h3 => ?_) (fun h3 => ?_)
  · have v := v1 h3; clear v1 v2
    show TZ d 250 132 [some (.inr 100), some (.inl x1), some (.inl x2)] [] Z (zri Q)
    refine z0 (op := 3) (a := 1) (b := 0) (by rfl) (by rfl) (?_ : TZ d 250 133 [some (.inr 100), some (.inl x1), some (.inl x2)] [.inl x1] Z (zri Q))
    obtain ⟨c4, v⟩ := v
    exact z_retb (by rfl) (by rfl) c4 v
  · have v := v2 h3; clear v1 v2
    show TZ d 250 91 [some (.inr 100), some (.inl x1), some (.inl x2)] [] Z (zri Q)
    refine z0 (op := 3) (a := 1) (b := 0) (by rfl) (by rfl) (?_ : TZ d 250 92 [some (.inr 100), some (.inl x1), some (.inl x2)] [.inl x1] Z (zri Q))
    refine z0 (op := 5) (a := 0) (b := 0) (by rfl) (by rfl) (?_ : TZ d 250 93 [some (.inr 100), some (.inl x1), some (.inl x2)] [.inr 100, .inl x1] Z (zri Q))
    refine z_fr (by rfl) fr108_100 (?_ : TZ d 250 96 [some (.inr 100), some (.inl x1), some (.inl x2)] [.inr 121, .inl x1] Z (zri Q))
    refine z0 (op := 3) (a := 2) (b := 0) (by rfl) (by rfl) (?_ : TZ d 250 97 [some (.inr 100), some (.inl x1), some (.inl x2)] [.inl x2, .inr 121, .inl x1] Z (zri Q))
    obtain ⟨c5, v⟩ := v
    refine z_al (by rfl) ln_121 c5 (?_ : TZ d 250 98 [some (.inr 100), some (.inl x1), some (.inl x2)] [.inl (Z 121 x2), .inl x1] Z (zri Q))
    refine z0 (op := 5) (a := 0) (b := 0) (by rfl) (by rfl) (?_ : TZ d 250 99 [some (.inr 100), some (.inl x1), some (.inl x2)] [.inr 100, .inl (Z 121 x2), .inl x1] Z (zri Q))
    refine z_fr (by rfl) fr107_100 (?_ : TZ d 250 102 [some (.inr 100), some (.inl x1), some (.inl x2)] [.inr 120, .inl (Z 121 x2), .inl x1] Z (zri Q))
    refine z0 (op := 3) (a := 2) (b := 0) (by rfl) (by rfl) (?_ : TZ d 250 103 [some (.inr 100), some (.inl x1), some (.inl x2)] [.inl x2, .inr 120, .inl (Z 121 x2), .inl x1] Z (zri Q))
    obtain ⟨c6, v⟩ := v
    refine z_al (by rfl) ln_120 c6 (?_ : TZ d 250 104 [some (.inr 100), some (.inl x1), some (.inl x2)] [.inl (Z 120 x2), .inl (Z 121 x2), .inl x1] Z (zri Q))
    obtain ⟨c7, c8, v1, v2⟩ := v
    refine z_if2 (a := 0) (t := 111) (by rfl) (by rfl) c7 c8 (fun h9 => ?_) (fun h9 => ?_)
    · have v := v1 h9; clear v1 v2
      show TZ d 250 111 [some (.inr 100), some (.inl x1), some (.inl x2)] [.inl x1] Z (zri Q)
      refine z0 (op := 0) (a := 0) (b := 0) (by rfl) (by rfl) (?_ : TZ d 250 112 [some (.inr 100), some (.inl x1), some (.inl x2)] [.inl 0, .inl x1] Z (zri Q))
      refine z0 (op := 12) (a := 4) (b := 0) (by rfl) (by rfl) (?_ : TZ d 250 113 [some (.inr 100), some (.inl x1), some (.inl x2)] [.inl (zbit 4 x1 0)] Z (zri Q))
      refine z0 (op := 7) (a := 1) (b := 0) (by rfl) (by rfl) (?_ : TZ d 250 114 [some (.inr 100), some (.inl (zbit 4 x1 0)), some (.inl x2)] [] Z (zri Q))
      refine z0 (op := 5) (a := 0) (b := 0) (by rfl) (by rfl) (?_ : TZ d 250 115 [some (.inr 100), some (.inl (zbit 4 x1 0)), some (.inl x2)] [.inr 100] Z (zri Q))
      refine z_fr (by rfl) fr107_100 (?_ : TZ d 250 118 [some (.inr 100), some (.inl (zbit 4 x1 0)), some (.inl x2)] [.inr 120] Z (zri Q))
      refine z0 (op := 3) (a := 2) (b := 0) (by rfl) (by rfl) (?_ : TZ d 250 119 [some (.inr 100), some (.inl (zbit 4 x1 0)), some (.inl x2)] [.inl x2, .inr 120] Z (zri Q))
      refine z0 (op := 5) (a := 0) (b := 0) (by rfl) (by rfl) (?_ : TZ d 250 120 [some (.inr 100), some (.inl (zbit 4 x1 0)), some (.inl x2)] [.inr 100, .inl x2, .inr 120] Z (zri Q))
      refine z_fr (by rfl) fr108_100 (?_ : TZ d 250 123 [some (.inr 100), some (.inl (zbit 4 x1 0)), some (.inl x2)] [.inr 121, .inl x2, .inr 120] Z (zri Q))
      refine z0 (op := 3) (a := 2) (b := 0) (by rfl) (by rfl) (?_ : TZ d 250 124 [some (.inr 100), some (.inl (zbit 4 x1 0)), some (.inl x2)] [.inl x2, .inr 121, .inl x2, .inr 120] Z (zri Q))
      obtain ⟨c10, v⟩ := v
      refine z_al (by rfl) ln_121 c10 (?_ : TZ d 250 125 [some (.inr 100), some (.inl (zbit 4 x1 0)), some (.inl x2)] [.inl (Z 121 x2), .inl x2, .inr 120] Z (zri Q))
      obtain ⟨c11, v⟩ := v
      obtain ⟨Z12, eZ12⟩ : ∃ zz, zz = zup Z 120 x2 (Z 121 x2) := ⟨_, rfl⟩
      have v := v Z12 eZ12
      refine z_as (by rfl) ln_120 c11 ?_
      show TZ d 250 126 [some (.inr 100), some (.inl (zbit 4 x1 0)), some (.inl x2)] [] (zup Z 120 x2 (Z 121 x2)) _
      rw [← eZ12]
      refine z0 (op := 11) (a := 2) (b := 1) (by rfl) (by rfl) (?_ : TZ d 250 129 [some (.inr 100), some (.inl (zbit 4 x1 0)), some (.inl (x2 + 1))] [] Z12 (zri Q))
      refine z_goto (t := 83) (by rfl) (by rfl) (?_ : TZ d 250 83 [some (.inr 100), some (.inl (zbit 4 x1 0)), some (.inl (x2 + 1))] [] Z12 (zri Q))
      exact v
    · have v := v2 h9; clear v1 v2
      show TZ d 250 107 [some (.inr 100), some (.inl x1), some (.inl x2)] [.inl x1] Z (zri Q)
      refine z0 (op := 0) (a := 0) (b := 1) (by rfl) (by rfl) (?_ : TZ d 250 108 [some (.inr 100), some (.inl x1), some (.inl x2)] [.inl 1, .inl x1] Z (zri Q))
      refine z_goto (t := 112) (by rfl) (by rfl) (?_ : TZ d 250 112 [some (.inr 100), some (.inl x1), some (.inl x2)] [.inl 1, .inl x1] Z (zri Q))
      refine z0 (op := 12) (a := 4) (b := 0) (by rfl) (by rfl) (?_ : TZ d 250 113 [some (.inr 100), some (.inl x1), some (.inl x2)] [.inl (zbit 4 x1 1)] Z (zri Q))
      refine z0 (op := 7) (a := 1) (b := 0) (by rfl) (by rfl) (?_ : TZ d 250 114 [some (.inr 100), some (.inl (zbit 4 x1 1)), some (.inl x2)] [] Z (zri Q))
      refine z0 (op := 5) (a := 0) (b := 0) (by rfl) (by rfl) (?_ : TZ d 250 115 [some (.inr 100), some (.inl (zbit 4 x1 1)), some (.inl x2)] [.inr 100] Z (zri Q))
      refine z_fr (by rfl) fr107_100 (?_ : TZ d 250 118 [some (.inr 100), some (.inl (zbit 4 x1 1)), some (.inl x2)] [.inr 120] Z (zri Q))
      refine z0 (op := 3) (a := 2) (b := 0) (by rfl) (by rfl) (?_ : TZ d 250 119 [some (.inr 100), some (.inl (zbit 4 x1 1)), some (.inl x2)] [.inl x2, .inr 120] Z (zri Q))
      refine z0 (op := 5) (a := 0) (b := 0) (by rfl) (by rfl) (?_ : TZ d 250 120 [some (.inr 100), some (.inl (zbit 4 x1 1)), some (.inl x2)] [.inr 100, .inl x2, .inr 120] Z (zri Q))
      refine z_fr (by rfl) fr108_100 (?_ : TZ d 250 123 [some (.inr 100), some (.inl (zbit 4 x1 1)), some (.inl x2)] [.inr 121, .inl x2, .inr 120] Z (zri Q))
      refine z0 (op := 3) (a := 2) (b := 0) (by rfl) (by rfl) (?_ : TZ d 250 124 [some (.inr 100), some (.inl (zbit 4 x1 1)), some (.inl x2)] [.inl x2, .inr 121, .inl x2, .inr 120] Z (zri Q))
      obtain ⟨c13, v⟩ := v
      refine z_al (by rfl) ln_121 c13 (?_ : TZ d 250 125 [some (.inr 100), some (.inl (zbit 4 x1 1)), some (.inl x2)] [.inl (Z 121 x2), .inl x2, .inr 120] Z (zri Q))
      obtain ⟨c14, v⟩ := v
      obtain ⟨Z15, eZ15⟩ : ∃ zz, zz = zup Z 120 x2 (Z 121 x2) := ⟨_, rfl⟩
      have v := v Z15 eZ15
      refine z_as (by rfl) ln_120 c14 ?_
      show TZ d 250 126 [some (.inr 100), some (.inl (zbit 4 x1 1)), some (.inl x2)] [] (zup Z 120 x2 (Z 121 x2)) _
      rw [← eZ15]
      refine z0 (op := 11) (a := 2) (b := 1) (by rfl) (by rfl) (?_ : TZ d 250 129 [some (.inr 100), some (.inl (zbit 4 x1 1)), some (.inl (x2 + 1))] [] Z15 (zri Q))
      refine z_goto (t := 83) (by rfl) (by rfl) (?_ : TZ d 250 83 [some (.inr 100), some (.inl (zbit 4 x1 1)), some (.inl (x2 + 1))] [] Z15 (zri Q))
      exact v
theorem w251_0 {d : Nat} {x1 : Int} {Z : zM} {Q : Int → zM → Prop}
    (v : TI d 155 [.inl x1, .inl 0, .inl 1] Z (fun r2 Z1 =>
      zR r2 ∧
        (r2 ≠ 0 → (zR (Z1 100 26) ∧
            ((Z1 100 26) ≠ 0 → TZ (d + 1) 251 40 [some (.inr 100), some (.inl x1), some (.inl 0), some (.inl 0), none, none, none] [] Z1 (zri Q)) ∧
            (¬ (Z1 100 26) ≠ 0 → TI d 154 [.inr 100, .inl (-3)] Z1 (fun r8 Z7 =>
                Q r8 Z7)))) ∧
        (¬ r2 ≠ 0 → TI d 154 [.inr 100, .inl (-2)] Z1 (fun r10 Z9 =>
            Q r10 Z9)))) :
    TZ (d + 1) 251 0 [some (.inr 100), some (.inl x1), none, none, none, none, none] [] Z (zri Q) := by
  refine z0 (op := 3) (a := 1) (b := 0) (by rfl) (by rfl) (?_ : TZ (d + 1) 251 1 [some (.inr 100), some (.inl x1), none, none, none, none, none] [.inl x1] Z (zri Q))
  refine z0 (op := 0) (a := 0) (b := 0) (by rfl) (by rfl) (?_ : TZ (d + 1) 251 2 [some (.inr 100), some (.inl x1), none, none, none, none, none] [.inl 0, .inl x1] Z (zri Q))
  refine z0 (op := 0) (a := 0) (b := 1) (by rfl) (by rfl) (?_ : TZ (d + 1) 251 3 [some (.inr 100), some (.inl x1), none, none, none, none, none] [.inl 1, .inl 0, .inl x1] Z (zri Q))
  refine z_si (by rfl) (by rfl) (TI.mono v fun r2 Z1 v => ?_)
  show TZ (d + 1) 251 6 [some (.inr 100), some (.inl x1), none, none, none, none, none] [.inl r2] Z1 (zri Q)
  obtain ⟨c3, v1, v2⟩ := v
  refine z_if0 (a := 1) (t := 14) (by rfl) (by rfl) c3 (fun h4 => ?_) (fun h4 => ?_)
  · have v := v1 h4; clear v1 v2
    show TZ (d + 1) 251 14 [some (.inr 100), some (.inl x1), none, none, none, none, none] [] Z1 (zri Q)
    refine z0 (op := 5) (a := 0) (b := 0) (by rfl) (by rfl) (?_ : TZ (d + 1) 251 15 [some (.inr 100), some (.inl x1), none, none, none, none, none] [.inr 100] Z1 (zri Q))
    refine z_fi (by rfl) fi120_100 (?_ : TZ (d + 1) 251 18 [some (.inr 100), some (.inl x1), none, none, none, none, none] [.inl (Z1 100 26)] Z1 (zri Q))
    obtain ⟨c5, v1, v2⟩ := v
    refine z_if0 (a := 1) (t := 26) (by rfl) (by rfl) c5 (fun h6 => ?_) (fun h6 => ?_)
    · have v := v1 h6; clear v1 v2
      show TZ (d + 1) 251 26 [some (.inr 100), some (.inl x1), none, none, none, none, none] [] Z1 (zri Q)
      refine z0 (op := 0) (a := 0) (b := 0) (by rfl) (by rfl) (?_ : TZ (d + 1) 251 27 [some (.inr 100), some (.inl x1), none, none, none, none, none] [.inl 0] Z1 (zri Q))
      refine z0 (op := 7) (a := 2) (b := 0) (by rfl) (by rfl) (?_ : TZ (d + 1) 251 28 [some (.inr 100), some (.inl x1), some (.inl 0), none, none, none, none] [] Z1 (zri Q))
      refine z0 (op := 3) (a := 2) (b := 0) (by rfl) (by rfl) (?_ : TZ (d + 1) 251 29 [some (.inr 100), some (.inl x1), some (.inl 0), none, none, none, none] [.inl 0] Z1 (zri Q))
      refine z_if0 (a := 0) (t := 38) (by rfl) (by rfl) (by decide) (fun _ => ?_) (fun h => absurd (show (0 : Int) = (0 : Int) by decide) h)
      show TZ (d + 1) 251 38 [some (.inr 100), some (.inl x1), some (.inl 0), none, none, none, none] [] Z1 (zri Q)
      refine z0 (op := 0) (a := 0) (b := 0) (by rfl) (by rfl) (?_ : TZ (d + 1) 251 39 [some (.inr 100), some (.inl x1), some (.inl 0), none, none, none, none] [.inl 0] Z1 (zri Q))
      refine z0 (op := 7) (a := 3) (b := 0) (by rfl) (by rfl) (?_ : TZ (d + 1) 251 40 [some (.inr 100), some (.inl x1), some (.inl 0), some (.inl 0), none, none, none] [] Z1 (zri Q))
      exact v
    · have v := v2 h6; clear v1 v2
      show TZ (d + 1) 251 21 [some (.inr 100), some (.inl x1), none, none, none, none, none] [] Z1 (zri Q)
      refine z0 (op := 1) (a := 0) (b := (-3)) (by rfl) (by rfl) (?_ : TZ (d + 1) 251 23 [some (.inr 100), some (.inl x1), none, none, none, none, none] [.inl (-3)] Z1 (zri Q))
      refine z_goto (t := 27) (by rfl) (by rfl) (?_ : TZ (d + 1) 251 27 [some (.inr 100), some (.inl x1), none, none, none, none, none] [.inl (-3)] Z1 (zri Q))
      refine z0 (op := 7) (a := 2) (b := 0) (by rfl) (by rfl) (?_ : TZ (d + 1) 251 28 [some (.inr 100), some (.inl x1), some (.inl (-3)), none, none, none, none] [] Z1 (zri Q))
      refine z0 (op := 3) (a := 2) (b := 0) (by rfl) (by rfl) (?_ : TZ (d + 1) 251 29 [some (.inr 100), some (.inl x1), some (.inl (-3)), none, none, none, none] [.inl (-3)] Z1 (zri Q))
      refine z_if0 (a := 0) (t := 38) (by rfl) (by rfl) (by decide) (fun h => absurd (show ((-3) : Int) = (0 : Int) from h) (by decide)) (fun _ => ?_)
      show TZ (d + 1) 251 32 [some (.inr 100), some (.inl x1), some (.inl (-3)), none, none, none, none] [] Z1 (zri Q)
      refine z0 (op := 5) (a := 0) (b := 0) (by rfl) (by rfl) (?_ : TZ (d + 1) 251 33 [some (.inr 100), some (.inl x1), some (.inl (-3)), none, none, none, none] [.inr 100] Z1 (zri Q))
      refine z0 (op := 3) (a := 2) (b := 0) (by rfl) (by rfl) (?_ : TZ (d + 1) 251 34 [some (.inr 100), some (.inl x1), some (.inl (-3)), none, none, none, none] [.inl (-3), .inr 100] Z1 (zri Q))
      refine z_vi (by rfl) (by rfl) cl_100 (TI.mono v fun r8 Z7 v => ?_)
      show TZ (d + 1) 251 37 [some (.inr 100), some (.inl x1), some (.inl (-3)), none, none, none, none] [.inl r8] Z7 (zri Q)
      exact z_reti (by rfl) (by rfl) v
  · have v := v2 h4; clear v1 v2
    show TZ (d + 1) 251 9 [some (.inr 100), some (.inl x1), none, none, none, none, none] [] Z1 (zri Q)
    refine z0 (op := 1) (a := 0) (b := (-2)) (by rfl) (by rfl) (?_ : TZ (d + 1) 251 11 [some (.inr 100), some (.inl x1), none, none, none, none, none] [.inl (-2)] Z1 (zri Q))
    refine z_goto (t := 27) (by rfl) (by rfl) (?_ : TZ (d + 1) 251 27 [some (.inr 100), some (.inl x1), none, none, none, none, none] [.inl (-2)] Z1 (zri Q))
    refine z0 (op := 7) (a := 2) (b := 0) (by rfl) (by rfl) (?_ : TZ (d + 1) 251 28 [some (.inr 100), some (.inl x1), some (.inl (-2)), none, none, none, none] [] Z1 (zri Q))
    refine z0 (op := 3) (a := 2) (b := 0) (by rfl) (by rfl) (?_ : TZ (d + 1) 251 29 [some (.inr 100), some (.inl x1), some (.inl (-2)), none, none, none, none] [.inl (-2)] Z1 (zri Q))
    refine z_if0 (a := 0) (t := 38) (by rfl) (by rfl) (by decide) (fun h => absurd (show ((-2) : Int) = (0 : Int) from h) (by decide)) (fun _ => ?_)
    show TZ (d + 1) 251 32 [some (.inr 100), some (.inl x1), some (.inl (-2)), none, none, none, none] [] Z1 (zri Q)
    refine z0 (op := 5) (a := 0) (b := 0) (by rfl) (by rfl) (?_ : TZ (d + 1) 251 33 [some (.inr 100), some (.inl x1), some (.inl (-2)), none, none, none, none] [.inr 100] Z1 (zri Q))
    refine z0 (op := 3) (a := 2) (b := 0) (by rfl) (by rfl) (?_ : TZ (d + 1) 251 34 [some (.inr 100), some (.inl x1), some (.inl (-2)), none, none, none, none] [.inl (-2), .inr 100] Z1 (zri Q))
    refine z_vi (by rfl) (by rfl) cl_100 (TI.mono v fun r10 Z9 v => ?_)
    show TZ (d + 1) 251 37 [some (.inr 100), some (.inl x1), some (.inl (-2)), none, none, none, none] [.inl r10] Z9 (zri Q)
    exact z_reti (by rfl) (by rfl) v
theorem w251_40 {d : Nat} {x1 x2 x3 : Int} {Z : zM} {Q : Int → zM → Prop}
    (v : zR x3 ∧
      zR (Z 100 26) ∧
      ((Z 100 26) ≤ x3 → TZ d 251 71 [some (.inr 100), some (.inl x1), some (.inl x2), some (.inl 0), none, none, none] [] Z (zri Q)) ∧
      (¬ (Z 100 26) ≤ x3 → ((0 ≤ x3 ∧ x3 < 12) ∧
          zR (Z 116 x3) ∧
          (0 ≤ x3 ∧ x3 < 12) ∧
          ∀ Z7, Z7 = zup Z 120 x3 (Int.tmod (Z 116 x3) 12) →
          TZ d 251 40 [some (.inr 100), some (.inl x1), some (.inl x2), some (.inl (x3 + 1)), none, none, none] [] Z7 (zri Q)))) :
    TZ d 251 40 [some (.inr 100), some (.inl x1), some (.inl x2), some (.inl x3), none, none, none] [] Z (zri Q) := by
  refine z0 (op := 3) (a := 3) (b := 0) (by rfl) (by rfl) (?_ : TZ d 251 41 [some (.inr 100), some (.inl x1), some (.inl x2), some (.inl x3), none, none, none] [.inl x3] Z (zri Q))
  refine z0 (op := 5) (a := 0) (b := 0) (by rfl) (by rfl) (?_ : TZ d 251 42 [some (.inr 100), some (.inl x1), some (.inl x2), some (.inl x3), none, none, none] [.inr 100, .inl x3] Z (zri Q))
  refine z_fi (by rfl) fi120_100 (?_ : TZ d 251 45 [some (.inr 100), some (.inl x1), some (.inl x2), some (.inl x3), none, none, none] [.inl (Z 100 26), .inl x3] Z (zri Q))
  obtain ⟨c1, c2, v1, v2⟩ := v
  refine z_if2 (a := 3) (t := 69) (by rfl) (by rfl) c1 c2 (fun h3 => ?_) (fun h3 => ?_)
  · have v := v1 h3; clear v1 v2
    show TZ d 251 69 [some (.inr 100), some (.inl x1), some (.inl x2), some (.inl x3), none, none, none] [] Z (zri Q)
    refine z0 (op := 0) (a := 0) (b := 0) (by rfl) (by rfl) (?_ : TZ d 251 70 [some (.inr 100), some (.inl x1), some (.inl x2), some (.inl x3), none, none, none] [.inl 0] Z (zri Q))
    refine z0 (op := 7) (a := 3) (b := 0) (by rfl) (by rfl) (?_ : TZ d 251 71 [some (.inr 100), some (.inl x1), some (.inl x2), some (.inl 0), none, none, none] [] Z (zri Q))
    exact v
  · have v := v2 h3; clear v1 v2
    show TZ d 251 48 [some (.inr 100), some (.inl x1), some (.inl x2), some (.inl x3), none, none, none] [] Z (zri Q)
    refine z0 (op := 5) (a := 0) (b := 0) (by rfl) (by rfl) (?_ : TZ d 251 49 [some (.inr 100), some (.inl x1), some (.inl x2), some (.inl x3), none, none, none] [.inr 100] Z (zri Q))
    refine z_fr (by rfl) fr107_100 (?_ : TZ d 251 52 [some (.inr 100), some (.inl x1), some (.inl x2), some (.inl x3), none, none, none] [.inr 120] Z (zri Q))
    refine z0 (op := 3) (a := 3) (b := 0) (by rfl) (by rfl) (?_ : TZ d 251 53 [some (.inr 100), some (.inl x1), some (.inl x2), some (.inl x3), none, none, none] [.inl x3, .inr 120] Z (zri Q))
    refine z0 (op := 5) (a := 0) (b := 0) (by rfl) (by rfl) (?_ : TZ d 251 54 [some (.inr 100), some (.inl x1), some (.inl x2), some (.inl x3), none, none, none] [.inr 100, .inl x3, .inr 120] Z (zri Q))
    refine z_fr (by rfl) fr103_100 (?_ : TZ d 251 57 [some (.inr 100), some (.inl x1), some (.inl x2), some (.inl x3), none, none, none] [.inr 116, .inl x3, .inr 120] Z (zri Q))
    refine z0 (op := 3) (a := 3) (b := 0) (by rfl) (by rfl) (?_ : TZ d 251 58 [some (.inr 100), some (.inl x1), some (.inl x2), some (.inl x3), none, none, none] [.inl x3, .inr 116, .inl x3, .inr 120] Z (zri Q))
    obtain ⟨c4, v⟩ := v
    refine z_al (by rfl) ln_116 c4 (?_ : TZ d 251 59 [some (.inr 100), some (.inl x1), some (.inl x2), some (.inl x3), none, none, none] [.inl (Z 116 x3), .inl x3, .inr 120] Z (zri Q))
    refine z0 (op := 1) (a := 0) (b := 12) (by rfl) (by rfl) (?_ : TZ d 251 61 [some (.inr 100), some (.inl x1), some (.inl x2), some (.inl x3), none, none, none] [.inl 12, .inl (Z 116 x3), .inl x3, .inr 120] Z (zri Q))
    obtain ⟨c5, v⟩ := v
    refine z_rem (by rfl) c5 (by decide) (?_ : TZ d 251 62 [some (.inr 100), some (.inl x1), some (.inl x2), some (.inl x3), none, none, none] [.inl (Int.tmod (Z 116 x3) 12), .inl x3, .inr 120] Z (zri Q))
    obtain ⟨c6, v⟩ := v
    obtain ⟨Z7, eZ7⟩ : ∃ zz, zz = zup Z 120 x3 (Int.tmod (Z 116 x3) 12) := ⟨_, rfl⟩
    have v := v Z7 eZ7
    refine z_as (by rfl) ln_120 c6 ?_
    show TZ d 251 63 [some (.inr 100), some (.inl x1), some (.inl x2), some (.inl x3), none, none, none] [] (zup Z 120 x3 (Int.tmod (Z 116 x3) 12)) _
    rw [← eZ7]
    refine z0 (op := 11) (a := 3) (b := 1) (by rfl) (by rfl) (?_ : TZ d 251 66 [some (.inr 100), some (.inl x1), some (.inl x2), some (.inl (x3 + 1)), none, none, none] [] Z7 (zri Q))
    refine z_goto (t := 40) (by rfl) (by rfl) (?_ : TZ d 251 40 [some (.inr 100), some (.inl x1), some (.inl x2), some (.inl (x3 + 1)), none, none, none] [] Z7 (zri Q))
    exact v
