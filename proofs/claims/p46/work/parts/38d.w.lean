/-! what stretches of code need of integers -/
theorem w136_0 {d : Nat} {x1 x2 x3 : Int} {Z : zM} {Q : zM → Prop}
    (v : zR x1 ∧
      zR (Z 1 6) ∧
      (x1 < (Z 1 6) → TZ (d + 1) 136 29 [some (.inr 1), some (.inl x1), some (.inl x2), some (.inl x3), some (.inr 44), some (.inl 0)] [] Z (zrv Q)) ∧
      (¬ x1 < (Z 1 6) → (zR x2 ∧
          (x2 ≠ 0 → Q Z) ∧
          (¬ x2 ≠ 0 → TI d 2 [.inl x3, .inl 12] Z (fun r7 Z6 =>
              (0 ≤ r7 ∧ r7 < 12) ∧
                (0 ≤ r7 ∧ r7 < 12) ∧
                ∀ Z10, Z10 = zup Z6 44 r7 ((Z6 44 r7) + 1) →
                Q Z10))))) :
    TZ (d + 1) 136 0 [some (.inr 1), some (.inl x1), some (.inl x2), some (.inl x3), some (.inr 44), none] [] Z (zrv Q) := by
  refine z0 (op := 3) (a := 1) (b := 0) (by rfl) (by rfl) (?_ : TZ (d + 1) 136 1 [some (.inr 1), some (.inl x1), some (.inl x2), some (.inl x3), some (.inr 44), none] [.inl x1] Z (zrv Q))
  refine z0 (op := 5) (a := 0) (b := 0) (by rfl) (by rfl) (?_ : TZ (d + 1) 136 2 [some (.inr 1), some (.inl x1), some (.inl x2), some (.inl x3), some (.inr 44), none] [.inr 1, .inl x1] Z (zrv Q))
  refine z_fi (by rfl) fi69_1 (?_ : TZ (d + 1) 136 5 [some (.inr 1), some (.inl x1), some (.inl x2), some (.inl x3), some (.inr 44), none] [.inl (Z 1 6), .inl x1] Z (zrv Q))
  obtain ⟨c1, c2, v1, v2⟩ := v
  refine z_if2 (a := 2) (t := 26) (by rfl) (by rfl) c1 c2 (fun h3 => ?_) (fun h3 => ?_)
  · have v := v1 h3; clear v1 v2
    show TZ (d + 1) 136 26 [some (.inr 1), some (.inl x1), some (.inl x2), some (.inl x3), some (.inr 44), none] [] Z (zrv Q)
    refine z0 (op := 0) (a := 0) (b := 0) (by rfl) (by rfl) (?_ : TZ (d + 1) 136 27 [some (.inr 1), some (.inl x1), some (.inl x2), some (.inl x3), some (.inr 44), none] [.inl 0] Z (zrv Q))
    refine z0 (op := 8) (a := 5) (b := 0) (by rfl) (by rfl) (?_ : TZ (d + 1) 136 29 [some (.inr 1), some (.inl x1), some (.inl x2), some (.inl x3), some (.inr 44), some (.inl 0)] [] Z (zrv Q))
    exact v
  · have v := v2 h3; clear v1 v2
    show TZ (d + 1) 136 8 [some (.inr 1), some (.inl x1), some (.inl x2), some (.inl x3), some (.inr 44), none] [] Z (zrv Q)
    refine z0 (op := 3) (a := 2) (b := 0) (by rfl) (by rfl) (?_ : TZ (d + 1) 136 9 [some (.inr 1), some (.inl x1), some (.inl x2), some (.inl x3), some (.inr 44), none] [.inl x2] Z (zrv Q))
    obtain ⟨c4, v1, v2⟩ := v
    refine z_if0 (a := 1) (t := 25) (by rfl) (by rfl) c4 (fun h5 => ?_) (fun h5 => ?_)
    · have v := v1 h5; clear v1 v2
      show TZ (d + 1) 136 25 [some (.inr 1), some (.inl x1), some (.inl x2), some (.inl x3), some (.inr 44), none] [] Z (zrv Q)
      exact z_retv (by rfl) (by rfl) v
    · have v := v2 h5; clear v1 v2
      show TZ (d + 1) 136 12 [some (.inr 1), some (.inl x1), some (.inl x2), some (.inl x3), some (.inr 44), none] [] Z (zrv Q)
      refine z0 (op := 6) (a := 4) (b := 0) (by rfl) (by rfl) (?_ : TZ (d + 1) 136 14 [some (.inr 1), some (.inl x1), some (.inl x2), some (.inl x3), some (.inr 44), none] [.inr 44] Z (zrv Q))
      refine z0 (op := 3) (a := 3) (b := 0) (by rfl) (by rfl) (?_ : TZ (d + 1) 136 15 [some (.inr 1), some (.inl x1), some (.inl x2), some (.inl x3), some (.inr 44), none] [.inl x3, .inr 44] Z (zrv Q))
      refine z0 (op := 1) (a := 0) (b := 12) (by rfl) (by rfl) (?_ : TZ (d + 1) 136 17 [some (.inr 1), some (.inl x1), some (.inl x2), some (.inl x3), some (.inr 44), none] [.inl 12, .inl x3, .inr 44] Z (zrv Q))
      refine z_si (by rfl) (by rfl) (TI.mono v fun r7 Z6 v => ?_)
      show TZ (d + 1) 136 20 [some (.inr 1), some (.inl x1), some (.inl x2), some (.inl x3), some (.inr 44), none] [.inl r7, .inr 44] Z6 (zrv Q)
      refine z0 (op := 16) (a := 0) (b := 0) (by rfl) (by rfl) (?_ : TZ (d + 1) 136 21 [some (.inr 1), some (.inl x1), some (.inl x2), some (.inl x3), some (.inr 44), none] [.inl r7, .inr 44, .inl r7, .inr 44] Z6 (zrv Q))
      obtain ⟨c8, v⟩ := v
      refine z_al (by rfl) ln_44 c8 (?_ : TZ (d + 1) 136 22 [some (.inr 1), some (.inl x1), some (.inl x2), some (.inl x3), some (.inr 44), none] [.inl (Z6 44 r7), .inl r7, .inr 44] Z6 (zrv Q))
      refine z0 (op := 0) (a := 0) (b := 1) (by rfl) (by rfl) (?_ : TZ (d + 1) 136 23 [some (.inr 1), some (.inl x1), some (.inl x2), some (.inl x3), some (.inr 44), none] [.inl 1, .inl (Z6 44 r7), .inl r7, .inr 44] Z6 (zrv Q))
      refine z0 (op := 12) (a := 0) (b := 0) (by rfl) (by rfl) (?_ : TZ (d + 1) 136 24 [some (.inr 1), some (.inl x1), some (.inl x2), some (.inl x3), some (.inr 44), none] [.inl ((Z6 44 r7) + 1), .inl r7, .inr 44] Z6 (zrv Q))
      obtain ⟨c9, v⟩ := v
      obtain ⟨Z10, eZ10⟩ : ∃ zz, zz = zup Z6 44 r7 ((Z6 44 r7) + 1) := ⟨_, rfl⟩
      have v := v Z10 eZ10
      refine z_as (by rfl) ln_44 c9 ?_
      show TZ (d + 1) 136 25 [some (.inr 1), some (.inl x1), some (.inl x2), some (.inl x3), some (.inr 44), none] [] (zup Z6 44 r7 ((Z6 44 r7) + 1)) _
      rw [← eZ10]
      exact z_retv (by rfl) (by rfl) v
theorem w136_29 {d : Nat} {x1 x2 x3 x5 : Int} {Z : zM} {Q : zM → Prop}
    (v : zR x2 ∧
      zR x5 ∧
      zR (min x2 4) ∧
      ((min x2 4) < x5 → Q Z) ∧
      (¬ (min x2 4) < x5 → ((0 ≤ x1 ∧ x1 < 6) ∧
          TV d 136 [.inr 1, .inl (x1 + 1), .inl (x2 - x5), .inl (x3 + (x5 * (Z 6 x1))), .inr 44] Z (fun Z6 =>
          TZ (d + 1) 136 29 [some (.inr 1), some (.inl x1), some (.inl x2), some (.inl x3), some (.inr 44), some (.inl (x5 + 1))] [] Z6 (zrv Q))))) :
    TZ (d + 1) 136 29 [some (.inr 1), some (.inl x1), some (.inl x2), some (.inl x3), some (.inr 44), some (.inl x5)] [] Z (zrv Q) := by
  refine z0 (op := 4) (a := 5) (b := 0) (by rfl) (by rfl) (?_ : TZ (d + 1) 136 31 [some (.inr 1), some (.inl x1), some (.inl x2), some (.inl x3), some (.inr 44), some (.inl x5)] [.inl x5] Z (zrv Q))
  refine z0 (op := 3) (a := 2) (b := 0) (by rfl) (by rfl) (?_ : TZ (d + 1) 136 32 [some (.inr 1), some (.inl x1), some (.inl x2), some (.inl x3), some (.inr 44), some (.inl x5)] [.inl x2, .inl x5] Z (zrv Q))
  refine z0 (op := 0) (a := 0) (b := 4) (by rfl) (by rfl) (?_ : TZ (d + 1) 136 33 [some (.inr 1), some (.inl x1), some (.inl x2), some (.inl x3), some (.inr 44), some (.inl x5)] [.inl 4, .inl x2, .inl x5] Z (zrv Q))
  obtain ⟨c1, v⟩ := v
  refine z_min (by rfl) (by rfl) (Nat.le_of_ble_eq_true rfl) c1 (by decide) (?_ : TZ (d + 1) 136 36 [some (.inr 1), some (.inl x1), some (.inl x2), some (.inl x3), some (.inr 44), some (.inl x5)] [.inl (min x2 4), .inl x5] Z (zrv Q))
  obtain ⟨c2, c3, v1, v2⟩ := v
  refine z_if2 (a := 4) (t := 69) (by rfl) (by rfl) c2 c3 (fun h4 => ?_) (fun h4 => ?_)
  · have v := v1 h4; clear v1 v2
    show TZ (d + 1) 136 69 [some (.inr 1), some (.inl x1), some (.inl x2), some (.inl x3), some (.inr 44), some (.inl x5)] [] Z (zrv Q)
    exact z_retv (by rfl) (by rfl) v
  · have v := v2 h4; clear v1 v2
    show TZ (d + 1) 136 39 [some (.inr 1), some (.inl x1), some (.inl x2), some (.inl x3), some (.inr 44), some (.inl x5)] [] Z (zrv Q)
    refine z0 (op := 5) (a := 0) (b := 0) (by rfl) (by rfl) (?_ : TZ (d + 1) 136 40 [some (.inr 1), some (.inl x1), some (.inl x2), some (.inl x3), some (.inr 44), some (.inl x5)] [.inr 1] Z (zrv Q))
    refine z0 (op := 3) (a := 1) (b := 0) (by rfl) (by rfl) (?_ : TZ (d + 1) 136 41 [some (.inr 1), some (.inl x1), some (.inl x2), some (.inl x3), some (.inr 44), some (.inl x5)] [.inl x1, .inr 1] Z (zrv Q))
    refine z0 (op := 0) (a := 0) (b := 1) (by rfl) (by rfl) (?_ : TZ (d + 1) 136 42 [some (.inr 1), some (.inl x1), some (.inl x2), some (.inl x3), some (.inr 44), some (.inl x5)] [.inl 1, .inl x1, .inr 1] Z (zrv Q))
    refine z0 (op := 12) (a := 0) (b := 0) (by rfl) (by rfl) (?_ : TZ (d + 1) 136 43 [some (.inr 1), some (.inl x1), some (.inl x2), some (.inl x3), some (.inr 44), some (.inl x5)] [.inl (x1 + 1), .inr 1] Z (zrv Q))
    refine z0 (op := 3) (a := 2) (b := 0) (by rfl) (by rfl) (?_ : TZ (d + 1) 136 44 [some (.inr 1), some (.inl x1), some (.inl x2), some (.inl x3), some (.inr 44), some (.inl x5)] [.inl x2, .inl (x1 + 1), .inr 1] Z (zrv Q))
    refine z0 (op := 4) (a := 5) (b := 0) (by rfl) (by rfl) (?_ : TZ (d + 1) 136 46 [some (.inr 1), some (.inl x1), some (.inl x2), some (.inl x3), some (.inr 44), some (.inl x5)] [.inl x5, .inl x2, .inl (x1 + 1), .inr 1] Z (zrv Q))
    refine z0 (op := 12) (a := 1) (b := 0) (by rfl) (by rfl) (?_ : TZ (d + 1) 136 47 [some (.inr 1), some (.inl x1), some (.inl x2), some (.inl x3), some (.inr 44), some (.inl x5)] [.inl (x2 - x5), .inl (x1 + 1), .inr 1] Z (zrv Q))
    refine z0 (op := 3) (a := 3) (b := 0) (by rfl) (by rfl) (?_ : TZ (d + 1) 136 48 [some (.inr 1), some (.inl x1), some (.inl x2), some (.inl x3), some (.inr 44), some (.inl x5)] [.inl x3, .inl (x2 - x5), .inl (x1 + 1), .inr 1] Z (zrv Q))
    refine z0 (op := 4) (a := 5) (b := 0) (by rfl) (by rfl) (?_ : TZ (d + 1) 136 50 [some (.inr 1), some (.inl x1), some (.inl x2), some (.inl x3), some (.inr 44), some (.inl x5)] [.inl x5, .inl x3, .inl (x2 - x5), .inl (x1 + 1), .inr 1] Z (zrv Q))
    refine z0 (op := 5) (a := 0) (b := 0) (by rfl) (by rfl) (?_ : TZ (d + 1) 136 51 [some (.inr 1), some (.inl x1), some (.inl x2), some (.inl x3), some (.inr 44), some (.inl x5)] [.inr 1, .inl x5, .inl x3, .inl (x2 - x5), .inl (x1 + 1), .inr 1] Z (zrv Q))
    refine z_fr (by rfl) fr71_1 (?_ : TZ (d + 1) 136 54 [some (.inr 1), some (.inl x1), some (.inl x2), some (.inl x3), some (.inr 44), some (.inl x5)] [.inr 6, .inl x5, .inl x3, .inl (x2 - x5), .inl (x1 + 1), .inr 1] Z (zrv Q))
    refine z0 (op := 3) (a := 1) (b := 0) (by rfl) (by rfl) (?_ : TZ (d + 1) 136 55 [some (.inr 1), some (.inl x1), some (.inl x2), some (.inl x3), some (.inr 44), some (.inl x5)] [.inl x1, .inr 6, .inl x5, .inl x3, .inl (x2 - x5), .inl (x1 + 1), .inr 1] Z (zrv Q))
    obtain ⟨c5, v⟩ := v
    refine z_al (by rfl) ln_6 c5 (?_ : TZ (d + 1) 136 56 [some (.inr 1), some (.inl x1), some (.inl x2), some (.inl x3), some (.inr 44), some (.inl x5)] [.inl (Z 6 x1), .inl x5, .inl x3, .inl (x2 - x5), .inl (x1 + 1), .inr 1] Z (zrv Q))
    refine z0 (op := 12) (a := 2) (b := 0) (by rfl) (by rfl) (?_ : TZ (d + 1) 136 57 [some (.inr 1), some (.inl x1), some (.inl x2), some (.inl x3), some (.inr 44), some (.inl x5)] [.inl (x5 * (Z 6 x1)), .inl x3, .inl (x2 - x5), .inl (x1 + 1), .inr 1] Z (zrv Q))
    refine z0 (op := 12) (a := 0) (b := 0) (by rfl) (by rfl) (?_ : TZ (d + 1) 136 58 [some (.inr 1), some (.inl x1), some (.inl x2), some (.inl x3), some (.inr 44), some (.inl x5)] [.inl (x3 + (x5 * (Z 6 x1))), .inl (x2 - x5), .inl (x1 + 1), .inr 1] Z (zrv Q))
    refine z0 (op := 6) (a := 4) (b := 0) (by rfl) (by rfl) (?_ : TZ (d + 1) 136 60 [some (.inr 1), some (.inl x1), some (.inl x2), some (.inl x3), some (.inr 44), some (.inl x5)] [.inr 44, .inl (x3 + (x5 * (Z 6 x1))), .inl (x2 - x5), .inl (x1 + 1), .inr 1] Z (zrv Q))
    refine z_sv (by rfl) (by rfl) (TV.mono v fun Z6 v => ?_)
    show TZ (d + 1) 136 63 [some (.inr 1), some (.inl x1), some (.inl x2), some (.inl x3), some (.inr 44), some (.inl x5)] [] Z6 (zrv Q)
    refine z0 (op := 11) (a := 5) (b := 1) (by rfl) (by rfl) (?_ : TZ (d + 1) 136 66 [some (.inr 1), some (.inl x1), some (.inl x2), some (.inl x3), some (.inr 44), some (.inl (x5 + 1))] [] Z6 (zrv Q))
    refine z_goto (t := 29) (by rfl) (by rfl) (?_ : TZ (d + 1) 136 29 [some (.inr 1), some (.inl x1), some (.inl x2), some (.inl x3), some (.inr 44), some (.inl (x5 + 1))] [] Z6 (zrv Q))
    exact v
theorem w125_0_46 {d : Nat} {Z : zM} {Q : zM → Prop}
    (v : TZ d 125 2 [some (.inr 0), some (.inr 46), some (.inl 0)] [] Z (zrv Q)) :
    TZ d 125 0 [some (.inr 0), some (.inr 46), none] [] Z (zrv Q) := by
  refine z0 (op := 0) (a := 0) (b := 0) (by rfl) (by rfl) (?_ : TZ d 125 1 [some (.inr 0), some (.inr 46), none] [.inl 0] Z (zrv Q))
  refine z0 (op := 7) (a := 2) (b := 0) (by rfl) (by rfl) (?_ : TZ d 125 2 [some (.inr 0), some (.inr 46), some (.inl 0)] [] Z (zrv Q))
  exact v
theorem w125_2_46 {d : Nat} {x2 : Int} {Z : zM} {Q : zM → Prop}
    (v : zR x2 ∧
      (5 ≤ x2 → TV d 124 [.inr 46, .inr 25, .inl 0] Z (fun Z3 =>
          Q Z3)) ∧
      (¬ 5 ≤ x2 → (∃ t4 : Nat, zat 25 x2 = some t4 ∧
          t4 ∈ zFl ∧
          TV d 12 [.inr t4, .inr 1] Z (fun Z6 =>
          TZ (d + 1) 125 2 [some (.inr 0), some (.inr 46), some (.inl (x2 + 1))] [] Z6 (zrv Q))))) :
    TZ (d + 1) 125 2 [some (.inr 0), some (.inr 46), some (.inl x2)] [] Z (zrv Q) := by
  refine z0 (op := 3) (a := 2) (b := 0) (by rfl) (by rfl) (?_ : TZ (d + 1) 125 3 [some (.inr 0), some (.inr 46), some (.inl x2)] [.inl x2] Z (zrv Q))
  refine z0 (op := 5) (a := 0) (b := 0) (by rfl) (by rfl) (?_ : TZ (d + 1) 125 4 [some (.inr 0), some (.inr 46), some (.inl x2)] [.inr 0, .inl x2] Z (zrv Q))
  refine z_fr (by rfl) fr54_0 (?_ : TZ (d + 1) 125 7 [some (.inr 0), some (.inr 46), some (.inl x2)] [.inr 25, .inl x2] Z (zrv Q))
  refine z_len (by rfl) le_25 (?_ : TZ (d + 1) 125 8 [some (.inr 0), some (.inr 46), some (.inl x2)] [.inl 5, .inl x2] Z (zrv Q))
  obtain ⟨c1, v1, v2⟩ := v
  refine z_if2 (a := 3) (t := 30) (by rfl) (by rfl) c1 (by decide) (fun h2 => ?_) (fun h2 => ?_)
  · have v := v1 h2; clear v1 v2
    show TZ (d + 1) 125 30 [some (.inr 0), some (.inr 46), some (.inl x2)] [] Z (zrv Q)
    refine z0 (op := 5) (a := 1) (b := 0) (by rfl) (by rfl) (?_ : TZ (d + 1) 125 31 [some (.inr 0), some (.inr 46), some (.inl x2)] [.inr 46] Z (zrv Q))
    refine z0 (op := 5) (a := 0) (b := 0) (by rfl) (by rfl) (?_ : TZ (d + 1) 125 32 [some (.inr 0), some (.inr 46), some (.inl x2)] [.inr 0, .inr 46] Z (zrv Q))
    refine z_fr (by rfl) fr54_0 (?_ : TZ (d + 1) 125 35 [some (.inr 0), some (.inr 46), some (.inl x2)] [.inr 25, .inr 46] Z (zrv Q))
    refine z0 (op := 0) (a := 0) (b := 0) (by rfl) (by rfl) (?_ : TZ (d + 1) 125 36 [some (.inr 0), some (.inr 46), some (.inl x2)] [.inl 0, .inr 25, .inr 46] Z (zrv Q))
    refine z_sv (by rfl) (by rfl) (TV.mono v fun Z3 v => ?_)
    show TZ (d + 1) 125 39 [some (.inr 0), some (.inr 46), some (.inl x2)] [] Z3 (zrv Q)
    exact z_retv (by rfl) (by rfl) v
  · have v := v2 h2; clear v1 v2
    show TZ (d + 1) 125 11 [some (.inr 0), some (.inr 46), some (.inl x2)] [] Z (zrv Q)
    refine z0 (op := 5) (a := 0) (b := 0) (by rfl) (by rfl) (?_ : TZ (d + 1) 125 12 [some (.inr 0), some (.inr 46), some (.inl x2)] [.inr 0] Z (zrv Q))
    refine z_fr (by rfl) fr54_0 (?_ : TZ (d + 1) 125 15 [some (.inr 0), some (.inr 46), some (.inl x2)] [.inr 25] Z (zrv Q))
    refine z0 (op := 3) (a := 2) (b := 0) (by rfl) (by rfl) (?_ : TZ (d + 1) 125 16 [some (.inr 0), some (.inr 46), some (.inl x2)] [.inl x2, .inr 25] Z (zrv Q))
    obtain ⟨t4, c5, ht4, v⟩ := v
    refine z_aal (by rfl) c5 (?_ : TZ (d + 1) 125 17 [some (.inr 0), some (.inr 46), some (.inl x2)] [.inr t4] Z (zrv Q))
    refine z0 (op := 5) (a := 0) (b := 0) (by rfl) (by rfl) (?_ : TZ (d + 1) 125 18 [some (.inr 0), some (.inr 46), some (.inl x2)] [.inr 0, .inr t4] Z (zrv Q))
    refine z_fr (by rfl) fr50_0 (?_ : TZ (d + 1) 125 21 [some (.inr 0), some (.inr 46), some (.inl x2)] [.inr 1, .inr t4] Z (zrv Q))
    refine z_vv (by rfl) (by rfl) (cl_F0 _ ht4) (TV.mono v fun Z6 v => ?_)
    show TZ (d + 1) 125 24 [some (.inr 0), some (.inr 46), some (.inl x2)] [] Z6 (zrv Q)
    refine z0 (op := 11) (a := 2) (b := 1) (by rfl) (by rfl) (?_ : TZ (d + 1) 125 27 [some (.inr 0), some (.inr 46), some (.inl (x2 + 1))] [] Z6 (zrv Q))
    refine z_goto (t := 2) (by rfl) (by rfl) (?_ : TZ (d + 1) 125 2 [some (.inr 0), some (.inr 46), some (.inl (x2 + 1))] [] Z6 (zrv Q))
    exact v
theorem w124_0_46 {d : Nat} {x2 : Int} {Z : zM} {Q : zM → Prop}
    (v : zR x2 ∧
      (4 < x2 → Q Z) ∧
      (¬ 4 < x2 → (∃ t3 : Nat, zat 25 x2 = some t3 ∧
          t3 ∈ zFl ∧
          TI d 10 [.inr 46, .inr t3, .inl x2] Z (fun r6 Z5 =>
          zR r6 ∧
            (r6 = 0 → Q Z5) ∧
            (¬ r6 = 0 → (zR x2 ∧
                (x2 ≠ 4 → (∃ t11 : Nat, zat 25 x2 = some t11 ∧
                    t11 ∈ zFl ∧
                    ∃ t13 : Nat, zat 25 (x2 + 1) = some t13 ∧
                    t13 ∈ zFl ∧ TZ (d + 1) 124 36 [some (.inr 46), some (.inr 25), some (.inl x2), some (.inr t11), some (.inr t13), some (.inl (-1))] [] Z5 (zrv Q))) ∧
                (¬ x2 ≠ 4 → Q Z5))))))) :
    TZ (d + 1) 124 0 [some (.inr 46), some (.inr 25), some (.inl x2), none, none, none] [] Z (zrv Q) := by
  refine z0 (op := 3) (a := 2) (b := 0) (by rfl) (by rfl) (?_ : TZ (d + 1) 124 1 [some (.inr 46), some (.inr 25), some (.inl x2), none, none, none] [.inl x2] Z (zrv Q))
  refine z0 (op := 0) (a := 0) (b := 4) (by rfl) (by rfl) (?_ : TZ (d + 1) 124 2 [some (.inr 46), some (.inr 25), some (.inl x2), none, none, none] [.inl 4, .inl x2] Z (zrv Q))
  obtain ⟨c1, v1, v2⟩ := v
  refine z_if2 (a := 4) (t := 21) (by rfl) (by rfl) c1 (by decide) (fun h2 => ?_) (fun h2 => ?_)
  · have v := v1 h2; clear v1 v2
    show TZ (d + 1) 124 21 [some (.inr 46), some (.inr 25), some (.inl x2), none, none, none] [] Z (zrv Q)
    exact z_retv (by rfl) (by rfl) v
  · have v := v2 h2; clear v1 v2
    show TZ (d + 1) 124 5 [some (.inr 46), some (.inr 25), some (.inl x2), none, none, none] [] Z (zrv Q)
    refine z0 (op := 5) (a := 0) (b := 0) (by rfl) (by rfl) (?_ : TZ (d + 1) 124 6 [some (.inr 46), some (.inr 25), some (.inl x2), none, none, none] [.inr 46] Z (zrv Q))
    refine z0 (op := 5) (a := 1) (b := 0) (by rfl) (by rfl) (?_ : TZ (d + 1) 124 7 [some (.inr 46), some (.inr 25), some (.inl x2), none, none, none] [.inr 25, .inr 46] Z (zrv Q))
    refine z0 (op := 3) (a := 2) (b := 0) (by rfl) (by rfl) (?_ : TZ (d + 1) 124 8 [some (.inr 46), some (.inr 25), some (.inl x2), none, none, none] [.inl x2, .inr 25, .inr 46] Z (zrv Q))
    obtain ⟨t3, c4, ht3, v⟩ := v
    refine z_aal (by rfl) c4 (?_ : TZ (d + 1) 124 9 [some (.inr 46), some (.inr 25), some (.inl x2), none, none, none] [.inr t3, .inr 46] Z (zrv Q))
    refine z0 (op := 3) (a := 2) (b := 0) (by rfl) (by rfl) (?_ : TZ (d + 1) 124 10 [some (.inr 46), some (.inr 25), some (.inl x2), none, none, none] [.inl x2, .inr t3, .inr 46] Z (zrv Q))
    refine z_vi (by rfl) (by rfl) cl_46 (TI.mono v fun r6 Z5 v => ?_)
    show TZ (d + 1) 124 13 [some (.inr 46), some (.inr 25), some (.inl x2), none, none, none] [.inl r6] Z5 (zrv Q)
    obtain ⟨c7, v1, v2⟩ := v
    refine z_if0 (a := 0) (t := 21) (by rfl) (by rfl) c7 (fun h8 => ?_) (fun h8 => ?_)
    · have v := v1 h8; clear v1 v2
      show TZ (d + 1) 124 21 [some (.inr 46), some (.inr 25), some (.inl x2), none, none, none] [] Z5 (zrv Q)
      exact z_retv (by rfl) (by rfl) v
    · have v := v2 h8; clear v1 v2
      show TZ (d + 1) 124 16 [some (.inr 46), some (.inr 25), some (.inl x2), none, none, none] [] Z5 (zrv Q)
      refine z0 (op := 3) (a := 2) (b := 0) (by rfl) (by rfl) (?_ : TZ (d + 1) 124 17 [some (.inr 46), some (.inr 25), some (.inl x2), none, none, none] [.inl x2] Z5 (zrv Q))
      refine z0 (op := 0) (a := 0) (b := 4) (by rfl) (by rfl) (?_ : TZ (d + 1) 124 18 [some (.inr 46), some (.inr 25), some (.inl x2), none, none, none] [.inl 4, .inl x2] Z5 (zrv Q))
      obtain ⟨c9, v1, v2⟩ := v
      refine z_if2 (a := 1) (t := 22) (by rfl) (by rfl) c9 (by decide) (fun h10 => ?_) (fun h10 => ?_)
      · have v := v1 h10; clear v1 v2
        show TZ (d + 1) 124 22 [some (.inr 46), some (.inr 25), some (.inl x2), none, none, none] [] Z5 (zrv Q)
        refine z0 (op := 5) (a := 1) (b := 0) (by rfl) (by rfl) (?_ : TZ (d + 1) 124 23 [some (.inr 46), some (.inr 25), some (.inl x2), none, none, none] [.inr 25] Z5 (zrv Q))
        refine z0 (op := 3) (a := 2) (b := 0) (by rfl) (by rfl) (?_ : TZ (d + 1) 124 24 [some (.inr 46), some (.inr 25), some (.inl x2), none, none, none] [.inl x2, .inr 25] Z5 (zrv Q))
        obtain ⟨t11, c12, ht11, v⟩ := v
        refine z_aal (by rfl) c12 (?_ : TZ (d + 1) 124 25 [some (.inr 46), some (.inr 25), some (.inl x2), none, none, none] [.inr t11] Z5 (zrv Q))
        refine z0 (op := 9) (a := 3) (b := 0) (by rfl) (by rfl) (?_ : TZ (d + 1) 124 26 [some (.inr 46), some (.inr 25), some (.inl x2), some (.inr t11), none, none] [] Z5 (zrv Q))
        refine z0 (op := 5) (a := 1) (b := 0) (by rfl) (by rfl) (?_ : TZ (d + 1) 124 27 [some (.inr 46), some (.inr 25), some (.inl x2), some (.inr t11), none, none] [.inr 25] Z5 (zrv Q))
        refine z0 (op := 3) (a := 2) (b := 0) (by rfl) (by rfl) (?_ : TZ (d + 1) 124 28 [some (.inr 46), some (.inr 25), some (.inl x2), some (.inr t11), none, none] [.inl x2, .inr 25] Z5 (zrv Q))
        refine z0 (op := 0) (a := 0) (b := 1) (by rfl) (by rfl) (?_ : TZ (d + 1) 124 29 [some (.inr 46), some (.inr 25), some (.inl x2), some (.inr t11), none, none] [.inl 1, .inl x2, .inr 25] Z5 (zrv Q))
        refine z0 (op := 12) (a := 0) (b := 0) (by rfl) (by rfl) (?_ : TZ (d + 1) 124 30 [some (.inr 46), some (.inr 25), some (.inl x2), some (.inr t11), none, none] [.inl (x2 + 1), .inr 25] Z5 (zrv Q))
        obtain ⟨t13, c14, ht13, v⟩ := v
        refine z_aal (by rfl) c14 (?_ : TZ (d + 1) 124 31 [some (.inr 46), some (.inr 25), some (.inl x2), some (.inr t11), none, none] [.inr t13] Z5 (zrv Q))
        refine z0 (op := 10) (a := 4) (b := 0) (by rfl) (by rfl) (?_ : TZ (d + 1) 124 33 [some (.inr 46), some (.inr 25), some (.inl x2), some (.inr t11), some (.inr t13), none] [] Z5 (zrv Q))
        refine z0 (op := 0) (a := 0) (b := (-1)) (by rfl) (by rfl) (?_ : TZ (d + 1) 124 34 [some (.inr 46), some (.inr 25), some (.inl x2), some (.inr t11), some (.inr t13), none] [.inl (-1)] Z5 (zrv Q))
        refine z0 (op := 8) (a := 5) (b := 0) (by rfl) (by rfl) (?_ : TZ (d + 1) 124 36 [some (.inr 46), some (.inr 25), some (.inl x2), some (.inr t11), some (.inr t13), some (.inl (-1))] [] Z5 (zrv Q))
        exact v
      · have v := v2 h10; clear v1 v2
        show TZ (d + 1) 124 21 [some (.inr 46), some (.inr 25), some (.inl x2), none, none, none] [] Z5 (zrv Q)
        exact z_retv (by rfl) (by rfl) v
theorem w124_36_46 {d : Nat} {f3 f4 : Nat} {x2 x5 : Int} {Z : zM} {Q : zM → Prop} (hf3 : f3 ∈ zFl) (hf4 : f4 ∈ zFl)
    (v : zR x5 ∧
      zR (Z f3 6) ∧
      ((Z f3 6) ≤ x5 → Q Z) ∧
      (¬ (Z f3 6) ≤ x5 → ((0 ≤ x2 ∧ x2 < 4) ∧
          ∀ Z5, Z5 = zup Z 47 x2 (x5 + 1) →
          TV d 13 [.inr f4, .inr f3] Z5 (fun Z6 =>
          TI d 25 [.inr f4, .inl x5] Z6 (fun r8 Z7 =>
            TV d 124 [.inr 46, .inr 25, .inl (x2 + 1)] Z7 (fun Z9 =>
              TZ (d + 1) 124 36 [some (.inr 46), some (.inr 25), some (.inl x2), some (.inr f3), some (.inr f4), some (.inl (x5 + 1))] [] Z9 (zrv Q))))))) :
    TZ (d + 1) 124 36 [some (.inr 46), some (.inr 25), some (.inl x2), some (.inr f3), some (.inr f4), some (.inl x5)] [] Z (zrv Q) := by
  refine z0 (op := 4) (a := 5) (b := 0) (by rfl) (by rfl) (?_ : TZ (d + 1) 124 38 [some (.inr 46), some (.inr 25), some (.inl x2), some (.inr f3), some (.inr f4), some (.inl x5)] [.inl x5] Z (zrv Q))
  refine z0 (op := 5) (a := 3) (b := 0) (by rfl) (by rfl) (?_ : TZ (d + 1) 124 39 [some (.inr 46), some (.inr 25), some (.inl x2), some (.inr f3), some (.inr f4), some (.inl x5)] [.inr f3, .inl x5] Z (zrv Q))
  refine z_fi (by rfl) (fi69_F0 _ hf3) (?_ : TZ (d + 1) 124 42 [some (.inr 46), some (.inr 25), some (.inl x2), some (.inr f3), some (.inr f4), some (.inl x5)] [.inl (Z f3 6), .inl x5] Z (zrv Q))
  obtain ⟨c1, c2, v1, v2⟩ := v
  refine z_if2 (a := 3) (t := 83) (by rfl) (by rfl) c1 c2 (fun h3 => ?_) (fun h3 => ?_)
  · have v := v1 h3; clear v1 v2
    show TZ (d + 1) 124 83 [some (.inr 46), some (.inr 25), some (.inl x2), some (.inr f3), some (.inr f4), some (.inl x5)] [] Z (zrv Q)
    exact z_retv (by rfl) (by rfl) v
  · have v := v2 h3; clear v1 v2
    show TZ (d + 1) 124 45 [some (.inr 46), some (.inr 25), some (.inl x2), some (.inr f3), some (.inr f4), some (.inl x5)] [] Z (zrv Q)
    refine z0 (op := 5) (a := 0) (b := 0) (by rfl) (by rfl) (?_ : TZ (d + 1) 124 46 [some (.inr 46), some (.inr 25), some (.inl x2), some (.inr f3), some (.inr f4), some (.inl x5)] [.inr 46] Z (zrv Q))
    refine z_fr (by rfl) fr79_46 (?_ : TZ (d + 1) 124 49 [some (.inr 46), some (.inr 25), some (.inl x2), some (.inr f3), some (.inr f4), some (.inl x5)] [.inr 47] Z (zrv Q))
    refine z0 (op := 3) (a := 2) (b := 0) (by rfl) (by rfl) (?_ : TZ (d + 1) 124 50 [some (.inr 46), some (.inr 25), some (.inl x2), some (.inr f3), some (.inr f4), some (.inl x5)] [.inl x2, .inr 47] Z (zrv Q))
    refine z0 (op := 4) (a := 5) (b := 0) (by rfl) (by rfl) (?_ : TZ (d + 1) 124 52 [some (.inr 46), some (.inr 25), some (.inl x2), some (.inr f3), some (.inr f4), some (.inl x5)] [.inl x5, .inl x2, .inr 47] Z (zrv Q))
    refine z0 (op := 0) (a := 0) (b := 1) (by rfl) (by rfl) (?_ : TZ (d + 1) 124 53 [some (.inr 46), some (.inr 25), some (.inl x2), some (.inr f3), some (.inr f4), some (.inl x5)] [.inl 1, .inl x5, .inl x2, .inr 47] Z (zrv Q))
    refine z0 (op := 12) (a := 0) (b := 0) (by rfl) (by rfl) (?_ : TZ (d + 1) 124 54 [some (.inr 46), some (.inr 25), some (.inl x2), some (.inr f3), some (.inr f4), some (.inl x5)] [.inl (x5 + 1), .inl x2, .inr 47] Z (zrv Q))
    obtain ⟨c4, v⟩ := v
    obtain ⟨Z5, eZ5⟩ : ∃ zz, zz = zup Z 47 x2 (x5 + 1) := ⟨_, rfl⟩
    have v := v Z5 eZ5
    refine z_as (by rfl) ln_47 c4 ?_
    show TZ (d + 1) 124 55 [some (.inr 46), some (.inr 25), some (.inl x2), some (.inr f3), some (.inr f4), some (.inl x5)] [] (zup Z 47 x2 (x5 + 1)) _
    rw [← eZ5]
    refine z0 (op := 6) (a := 4) (b := 0) (by rfl) (by rfl) (?_ : TZ (d + 1) 124 57 [some (.inr 46), some (.inr 25), some (.inl x2), some (.inr f3), some (.inr f4), some (.inl x5)] [.inr f4] Z5 (zrv Q))
    refine z0 (op := 5) (a := 3) (b := 0) (by rfl) (by rfl) (?_ : TZ (d + 1) 124 58 [some (.inr 46), some (.inr 25), some (.inl x2), some (.inr f3), some (.inr f4), some (.inl x5)] [.inr f3, .inr f4] Z5 (zrv Q))
    refine z_vv (by rfl) (by rfl) (cl_F0 _ hf4) (TV.mono v fun Z6 v => ?_)
    show TZ (d + 1) 124 61 [some (.inr 46), some (.inr 25), some (.inl x2), some (.inr f3), some (.inr f4), some (.inl x5)] [] Z6 (zrv Q)
    refine z0 (op := 6) (a := 4) (b := 0) (by rfl) (by rfl) (?_ : TZ (d + 1) 124 63 [some (.inr 46), some (.inr 25), some (.inl x2), some (.inr f3), some (.inr f4), some (.inl x5)] [.inr f4] Z6 (zrv Q))
    refine z0 (op := 4) (a := 5) (b := 0) (by rfl) (by rfl) (?_ : TZ (d + 1) 124 65 [some (.inr 46), some (.inr 25), some (.inl x2), some (.inr f3), some (.inr f4), some (.inl x5)] [.inl x5, .inr f4] Z6 (zrv Q))
    refine z_vi (by rfl) (by rfl) (cl_F0 _ hf4) (TI.mono v fun r8 Z7 v => ?_)
    show TZ (d + 1) 124 68 [some (.inr 46), some (.inr 25), some (.inl x2), some (.inr f3), some (.inr f4), some (.inl x5)] [.inl r8] Z7 (zrv Q)
    refine z0 (op := 14) (a := 0) (b := 0) (by rfl) (by rfl) (?_ : TZ (d + 1) 124 69 [some (.inr 46), some (.inr 25), some (.inl x2), some (.inr f3), some (.inr f4), some (.inl x5)] [] Z7 (zrv Q))
    refine z0 (op := 5) (a := 0) (b := 0) (by rfl) (by rfl) (?_ : TZ (d + 1) 124 70 [some (.inr 46), some (.inr 25), some (.inl x2), some (.inr f3), some (.inr f4), some (.inl x5)] [.inr 46] Z7 (zrv Q))
    refine z0 (op := 5) (a := 1) (b := 0) (by rfl) (by rfl) (?_ : TZ (d + 1) 124 71 [some (.inr 46), some (.inr 25), some (.inl x2), some (.inr f3), some (.inr f4), some (.inl x5)] [.inr 25, .inr 46] Z7 (zrv Q))
    refine z0 (op := 3) (a := 2) (b := 0) (by rfl) (by rfl) (?_ : TZ (d + 1) 124 72 [some (.inr 46), some (.inr 25), some (.inl x2), some (.inr f3), some (.inr f4), some (.inl x5)] [.inl x2, .inr 25, .inr 46] Z7 (zrv Q))
    refine z0 (op := 0) (a := 0) (b := 1) (by rfl) (by rfl) (?_ : TZ (d + 1) 124 73 [some (.inr 46), some (.inr 25), some (.inl x2), some (.inr f3), some (.inr f4), some (.inl x5)] [.inl 1, .inl x2, .inr 25, .inr 46] Z7 (zrv Q))
    refine z0 (op := 12) (a := 0) (b := 0) (by rfl) (by rfl) (?_ : TZ (d + 1) 124 74 [some (.inr 46), some (.inr 25), some (.inl x2), some (.inr f3), some (.inr f4), some (.inl x5)] [.inl (x2 + 1), .inr 25, .inr 46] Z7 (zrv Q))
    refine z_sv (by rfl) (by rfl) (TV.mono v fun Z9 v => ?_)
    show TZ (d + 1) 124 77 [some (.inr 46), some (.inr 25), some (.inl x2), some (.inr f3), some (.inr f4), some (.inl x5)] [] Z9 (zrv Q)
    refine z0 (op := 11) (a := 5) (b := 1) (by rfl) (by rfl) (?_ : TZ (d + 1) 124 80 [some (.inr 46), some (.inr 25), some (.inl x2), some (.inr f3), some (.inr f4), some (.inl (x5 + 1))] [] Z9 (zrv Q))
    refine z_goto (t := 36) (by rfl) (by rfl) (?_ : TZ (d + 1) 124 36 [some (.inr 46), some (.inr 25), some (.inl x2), some (.inr f3), some (.inr f4), some (.inl (x5 + 1))] [] Z9 (zrv Q))
    exact v
theorem w125_0_50 {d : Nat} {Z : zM} {Q : zM → Prop}
    (v : TZ d 125 2 [some (.inr 0), some (.inr 50), some (.inl 0)] [] Z (zrv Q)) :
    TZ d 125 0 [some (.inr 0), some (.inr 50), none] [] Z (zrv Q) := by
  refine z0 (op := 0) (a := 0) (b := 0) (by rfl) (by rfl) (?_ : TZ d 125 1 [some (.inr 0), some (.inr 50), none] [.inl 0] Z (zrv Q))
  refine z0 (op := 7) (a := 2) (b := 0) (by rfl) (by rfl) (?_ : TZ d 125 2 [some (.inr 0), some (.inr 50), some (.inl 0)] [] Z (zrv Q))
  exact v
theorem w125_2_50 {d : Nat} {x2 : Int} {Z : zM} {Q : zM → Prop}
    (v : zR x2 ∧
      (5 ≤ x2 → TV d 124 [.inr 50, .inr 25, .inl 0] Z (fun Z3 =>
          Q Z3)) ∧
      (¬ 5 ≤ x2 → (∃ t4 : Nat, zat 25 x2 = some t4 ∧
          t4 ∈ zFl ∧
          TV d 12 [.inr t4, .inr 1] Z (fun Z6 =>
          TZ (d + 1) 125 2 [some (.inr 0), some (.inr 50), some (.inl (x2 + 1))] [] Z6 (zrv Q))))) :
    TZ (d + 1) 125 2 [some (.inr 0), some (.inr 50), some (.inl x2)] [] Z (zrv Q) := by
  refine z0 (op := 3) (a := 2) (b := 0) (by rfl) (by rfl) (?_ : TZ (d + 1) 125 3 [some (.inr 0), some (.inr 50), some (.inl x2)] [.inl x2] Z (zrv Q))
  refine z0 (op := 5) (a := 0) (b := 0) (by rfl) (by rfl) (?_ : TZ (d + 1) 125 4 [some (.inr 0), some (.inr 50), some (.inl x2)] [.inr 0, .inl x2] Z (zrv Q))
  refine z_fr (by rfl) fr54_0 (?_ : TZ (d + 1) 125 7 [some (.inr 0), some (.inr 50), some (.inl x2)] [.inr 25, .inl x2] Z (zrv Q))
  refine z_len (by rfl) le_25 (?_ : TZ (d + 1) 125 8 [some (.inr 0), some (.inr 50), some (.inl x2)] [.inl 5, .inl x2] Z (zrv Q))
  obtain ⟨c1, v1, v2⟩ := v
  refine z_if2 (a := 3) (t := 30) (by rfl) (by rfl) c1 (by decide) (fun h2 => ?_) (fun h2 => ?_)
  · have v := v1 h2; clear v1 v2
    show TZ (d + 1) 125 30 [some (.inr 0), some (.inr 50), some (.inl x2)] [] Z (zrv Q)
    refine z0 (op := 5) (a := 1) (b := 0) (by rfl) (by rfl) (?_ : TZ (d + 1) 125 31 [some (.inr 0), some (.inr 50), some (.inl x2)] [.inr 50] Z (zrv Q))
    refine z0 (op := 5) (a := 0) (b := 0) (by rfl) (by rfl) (?_ : TZ (d + 1) 125 32 [some (.inr 0), some (.inr 50), some (.inl x2)] [.inr 0, .inr 50] Z (zrv Q))
    refine z_fr (by rfl) fr54_0 (?_ : TZ (d + 1) 125 35 [some (.inr 0), some (.inr 50), some (.inl x2)] [.inr 25, .inr 50] Z (zrv Q))
    refine z0 (op := 0) (a := 0) (b := 0) (by rfl) (by rfl) (?_ : TZ (d + 1) 125 36 [some (.inr 0), some (.inr 50), some (.inl x2)] [.inl 0, .inr 25, .inr 50] Z (zrv Q))
    refine z_sv (by rfl) (by rfl) (TV.mono v fun Z3 v => ?_)
    show TZ (d + 1) 125 39 [some (.inr 0), some (.inr 50), some (.inl x2)] [] Z3 (zrv Q)
    exact z_retv (by rfl) (by rfl) v
  · have v := v2 h2; clear v1 v2
    show TZ (d + 1) 125 11 [some (.inr 0), some (.inr 50), some (.inl x2)] [] Z (zrv Q)
    refine z0 (op := 5) (a := 0) (b := 0) (by rfl) (by rfl) (?_ : TZ (d + 1) 125 12 [some (.inr 0), some (.inr 50), some (.inl x2)] [.inr 0] Z (zrv Q))
    refine z_fr (by rfl) fr54_0 (?_ : TZ (d + 1) 125 15 [some (.inr 0), some (.inr 50), some (.inl x2)] [.inr 25] Z (zrv Q))
    refine z0 (op := 3) (a := 2) (b := 0) (by rfl) (by rfl) (?_ : TZ (d + 1) 125 16 [some (.inr 0), some (.inr 50), some (.inl x2)] [.inl x2, .inr 25] Z (zrv Q))
    obtain ⟨t4, c5, ht4, v⟩ := v
    refine z_aal (by rfl) c5 (?_ : TZ (d + 1) 125 17 [some (.inr 0), some (.inr 50), some (.inl x2)] [.inr t4] Z (zrv Q))
    refine z0 (op := 5) (a := 0) (b := 0) (by rfl) (by rfl) (?_ : TZ (d + 1) 125 18 [some (.inr 0), some (.inr 50), some (.inl x2)] [.inr 0, .inr t4] Z (zrv Q))
    refine z_fr (by rfl) fr50_0 (?_ : TZ (d + 1) 125 21 [some (.inr 0), some (.inr 50), some (.inl x2)] [.inr 1, .inr t4] Z (zrv Q))
    refine z_vv (by rfl) (by rfl) (cl_F0 _ ht4) (TV.mono v fun Z6 v => ?_)
    show TZ (d + 1) 125 24 [some (.inr 0), some (.inr 50), some (.inl x2)] [] Z6 (zrv Q)
    refine z0 (op := 11) (a := 2) (b := 1) (by rfl) (by rfl) (?_ : TZ (d + 1) 125 27 [some (.inr 0), some (.inr 50), some (.inl (x2 + 1))] [] Z6 (zrv Q))
    refine z_goto (t := 2) (by rfl) (by rfl) (?_ : TZ (d + 1) 125 2 [some (.inr 0), some (.inr 50), some (.inl (x2 + 1))] [] Z6 (zrv Q))
    exact v
theorem w124_0_50 {d : Nat} {x2 : Int} {Z : zM} {Q : zM → Prop}
    (v : zR x2 ∧
      (4 < x2 → Q Z) ∧
      (¬ 4 < x2 → (∃ t3 : Nat, zat 25 x2 = some t3 ∧
          t3 ∈ zFl ∧
          TI d 39 [.inr 50, .inr t3, .inl x2] Z (fun r6 Z5 =>
          zR r6 ∧
            (r6 = 0 → Q Z5) ∧
            (¬ r6 = 0 → (zR x2 ∧
                (x2 ≠ 4 → (∃ t11 : Nat, zat 25 x2 = some t11 ∧
                    t11 ∈ zFl ∧
                    ∃ t13 : Nat, zat 25 (x2 + 1) = some t13 ∧
                    t13 ∈ zFl ∧ TZ (d + 1) 124 36 [some (.inr 50), some (.inr 25), some (.inl x2), some (.inr t11), some (.inr t13), some (.inl (-1))] [] Z5 (zrv Q))) ∧
                (¬ x2 ≠ 4 → Q Z5))))))) :
    TZ (d + 1) 124 0 [some (.inr 50), some (.inr 25), some (.inl x2), none, none, none] [] Z (zrv Q) := by
  refine z0 (op := 3) (a := 2) (b := 0) (by rfl) (by rfl) (?_ : TZ (d + 1) 124 1 [some (.inr 50), some (.inr 25), some (.inl x2), none, none, none] [.inl x2] Z (zrv Q))
  refine z0 (op := 0) (a := 0) (b := 4) (by rfl) (by rfl) (?_ : TZ (d + 1) 124 2 [some (.inr 50), some (.inr 25), some (.inl x2), none, none, none] [.inl 4, .inl x2] Z (zrv Q))
  obtain ⟨c1, v1, v2⟩ := v
  refine z_if2 (a := 4) (t := 21) (by rfl) (by rfl) c1 (by decide) (fun h2 => ?_) (fun h2 => ?_)
  · have v := v1 h2; clear v1 v2
    show TZ (d + 1) 124 21 [some (.inr 50), some (.inr 25), some (.inl x2), none, none, none] [] Z (zrv Q)
    exact z_retv (by rfl) (by rfl) v
  · have v := v2 h2; clear v1 v2
    show TZ (d + 1) 124 5 [some (.inr 50), some (.inr 25), some (.inl x2), none, none, none] [] Z (zrv Q)
    refine z0 (op := 5) (a := 0) (b := 0) (by rfl) (by rfl) (?_ : TZ (d + 1) 124 6 [some (.inr 50), some (.inr 25), some (.inl x2), none, none, none] [.inr 50] Z (zrv Q))
    refine z0 (op := 5) (a := 1) (b := 0) (by rfl) (by rfl) (?_ : TZ (d + 1) 124 7 [some (.inr 50), some (.inr 25), some (.inl x2), none, none, none] [.inr 25, .inr 50] Z (zrv Q))
    refine z0 (op := 3) (a := 2) (b := 0) (by rfl) (by rfl) (?_ : TZ (d + 1) 124 8 [some (.inr 50), some (.inr 25), some (.inl x2), none, none, none] [.inl x2, .inr 25, .inr 50] Z (zrv Q))
    obtain ⟨t3, c4, ht3, v⟩ := v
    refine z_aal (by rfl) c4 (?_ : TZ (d + 1) 124 9 [some (.inr 50), some (.inr 25), some (.inl x2), none, none, none] [.inr t3, .inr 50] Z (zrv Q))
    refine z0 (op := 3) (a := 2) (b := 0) (by rfl) (by rfl) (?_ : TZ (d + 1) 124 10 [some (.inr 50), some (.inr 25), some (.inl x2), none, none, none] [.inl x2, .inr t3, .inr 50] Z (zrv Q))
    refine z_vi (by rfl) (by rfl) cl_50 (TI.mono v fun r6 Z5 v => ?_)
    show TZ (d + 1) 124 13 [some (.inr 50), some (.inr 25), some (.inl x2), none, none, none] [.inl r6] Z5 (zrv Q)
    obtain ⟨c7, v1, v2⟩ := v
    refine z_if0 (a := 0) (t := 21) (by rfl) (by rfl) c7 (fun h8 => ?_) (fun h8 => ?_)
    · have v := v1 h8; clear v1 v2
      show TZ (d + 1) 124 21 [some (.inr 50), some (.inr 25), some (.inl x2), none, none, none] [] Z5 (zrv Q)
      exact z_retv (by rfl) (by rfl) v
    · have v := v2 h8; clear v1 v2
      show TZ (d + 1) 124 16 [some (.inr 50), some (.inr 25), some (.inl x2), none, none, none] [] Z5 (zrv Q)
      refine z0 (op := 3) (a := 2) (b := 0) (by rfl) (by rfl) (?_ : TZ (d + 1) 124 17 [some (.inr 50), some (.inr 25), some (.inl x2), none, none, none] [.inl x2] Z5 (zrv Q))
      refine z0 (op := 0) (a := 0) (b := 4) (by rfl) (by rfl) (?_ : TZ (d + 1) 124 18 [some (.inr 50), some (.inr 25), some (.inl x2), none, none, none] [.inl 4, .inl x2] Z5 (zrv Q))
      obtain ⟨c9, v1, v2⟩ := v
      refine z_if2 (a := 1) (t := 22) (by rfl) (by rfl) c9 (by decide) (fun h10 => ?_) (fun h10 => ?_)
      · have v := v1 h10; clear v1 v2
        show TZ (d + 1) 124 22 [some (.inr 50), some (.inr 25), some (.inl x2), none, none, none] [] Z5 (zrv Q)
        refine z0 (op := 5) (a := 1) (b := 0) (by rfl) (by rfl) (?_ : TZ (d + 1) 124 23 [some (.inr 50), some (.inr 25), some (.inl x2), none, none, none] [.inr 25] Z5 (zrv Q))
        refine z0 (op := 3) (a := 2) (b := 0) (by rfl) (by rfl) (?_ : TZ (d + 1) 124 24 [some (.inr 50), some (.inr 25), some (.inl x2), none, none, none] [.inl x2, .inr 25] Z5 (zrv Q))
        obtain ⟨t11, c12, ht11, v⟩ := v
        refine z_aal (by rfl) c12 (?_ : TZ (d + 1) 124 25 [some (.inr 50), some (.inr 25), some (.inl x2), none, none, none] [.inr t11] Z5 (zrv Q))
        refine z0 (op := 9) (a := 3) (b := 0) (by rfl) (by rfl) (?_ : TZ (d + 1) 124 26 [some (.inr 50), some (.inr 25), some (.inl x2), some (.inr t11), none, none] [] Z5 (zrv Q))
        refine z0 (op := 5) (a := 1) (b := 0) (by rfl) (by rfl) (?_ : TZ (d + 1) 124 27 [some (.inr 50), some (.inr 25), some (.inl x2), some (.inr t11), none, none] [.inr 25] Z5 (zrv Q))
        refine z0 (op := 3) (a := 2) (b := 0) (by rfl) (by rfl) (?_ : TZ (d + 1) 124 28 [some (.inr 50), some (.inr 25), some (.inl x2), some (.inr t11), none, none] [.inl x2, .inr 25] Z5 (zrv Q))
        refine z0 (op := 0) (a := 0) (b := 1) (by rfl) (by rfl) (?_ : TZ (d + 1) 124 29 [some (.inr 50), some (.inr 25), some (.inl x2), some (.inr t11), none, none] [.inl 1, .inl x2, .inr 25] Z5 (zrv Q))
        refine z0 (op := 12) (a := 0) (b := 0) (by rfl) (by rfl) (?_ : TZ (d + 1) 124 30 [some (.inr 50), some (.inr 25), some (.inl x2), some (.inr t11), none, none] [.inl (x2 + 1), .inr 25] Z5 (zrv Q))
        obtain ⟨t13, c14, ht13, v⟩ := v
        refine z_aal (by rfl) c14 (?_ : TZ (d + 1) 124 31 [some (.inr 50), some (.inr 25), some (.inl x2), some (.inr t11), none, none] [.inr t13] Z5 (zrv Q))
        refine z0 (op := 10) (a := 4) (b := 0) (by rfl) (by rfl) (?_ : TZ (d + 1) 124 33 [some (.inr 50), some (.inr 25), some (.inl x2), some (.inr t11), some (.inr t13), none] [] Z5 (zrv Q))
        refine z0 (op := 0) (a := 0) (b := (-1)) (by rfl) (by rfl) (?_ : TZ (d + 1) 124 34 [some (.inr 50), some (.inr 25), some (.inl x2), some (.inr t11), some (.inr t13), none] [.inl (-1)] Z5 (zrv Q))
        refine z0 (op := 8) (a := 5) (b := 0) (by rfl) (by rfl) (?_ : TZ (d + 1) 124 36 [some (.inr 50), some (.inr 25), some (.inl x2), some (.inr t11), some (.inr t13), some (.inl (-1))] [] Z5 (zrv Q))
        exact v
      · have v := v2 h10; clear v1 v2
        show TZ (d + 1) 124 21 [some (.inr 50), some (.inr 25), some (.inl x2), none, none, none] [] Z5 (zrv Q)
        exact z_retv (by rfl) (by rfl) v
theorem w124_36_50 {d : Nat} {f3 f4 : Nat} {x2 x5 : Int} {Z : zM} {Q : zM → Prop} (hf3 : f3 ∈ zFl) (hf4 : f4 ∈ zFl)
    (v : zR x5 ∧
      zR (Z f3 6) ∧
      ((Z f3 6) ≤ x5 → Q Z) ∧
      (¬ (Z f3 6) ≤ x5 → ((0 ≤ x2 ∧ x2 < 4) ∧
          ∀ Z5, Z5 = zup Z 51 x2 (x5 + 1) →
          TV d 13 [.inr f4, .inr f3] Z5 (fun Z6 =>
          TI d 25 [.inr f4, .inl x5] Z6 (fun r8 Z7 =>
            TV d 124 [.inr 50, .inr 25, .inl (x2 + 1)] Z7 (fun Z9 =>
              TZ (d + 1) 124 36 [some (.inr 50), some (.inr 25), some (.inl x2), some (.inr f3), some (.inr f4), some (.inl (x5 + 1))] [] Z9 (zrv Q))))))) :
    TZ (d + 1) 124 36 [some (.inr 50), some (.inr 25), some (.inl x2), some (.inr f3), some (.inr f4), some (.inl x5)] [] Z (zrv Q) := by
  refine z0 (op := 4) (a := 5) (b := 0) (by rfl) (by rfl) (?_ : TZ (d + 1) 124 38 [some (.inr 50), some (.inr 25), some (.inl x2), some (.inr f3), some (.inr f4), some (.inl x5)] [.inl x5] Z (zrv Q))
  refine z0 (op := 5) (a := 3) (b := 0) (by rfl) (by rfl) (?_ : TZ (d + 1) 124 39 [some (.inr 50), some (.inr 25), some (.inl x2), some (.inr f3), some (.inr f4), some (.inl x5)] [.inr f3, .inl x5] Z (zrv Q))
  refine z_fi (by rfl) (fi69_F0 _ hf3) (?_ : TZ (d + 1) 124 42 [some (.inr 50), some (.inr 25), some (.inl x2), some (.inr f3), some (.inr f4), some (.inl x5)] [.inl (Z f3 6), .inl x5] Z (zrv Q))
  obtain ⟨c1, c2, v1, v2⟩ := v
  refine z_if2 (a := 3) (t := 83) (by rfl) (by rfl) c1 c2 (fun h3 => ?_) (fun h3 => ?_)
  · have v := v1 h3; clear v1 v2
    show TZ (d + 1) 124 83 [some (.inr 50), some (.inr 25), some (.inl x2), some (.inr f3), some (.inr f4), some (.inl x5)] [] Z (zrv Q)
    exact z_retv (by rfl) (by rfl) v
  · have v := v2 h3; clear v1 v2
    show TZ (d + 1) 124 45 [some (.inr 50), some (.inr 25), some (.inl x2), some (.inr f3), some (.inr f4), some (.inl x5)] [] Z (zrv Q)
    refine z0 (op := 5) (a := 0) (b := 0) (by rfl) (by rfl) (?_ : TZ (d + 1) 124 46 [some (.inr 50), some (.inr 25), some (.inl x2), some (.inr f3), some (.inr f4), some (.inl x5)] [.inr 50] Z (zrv Q))
    refine z_fr (by rfl) fr79_50 (?_ : TZ (d + 1) 124 49 [some (.inr 50), some (.inr 25), some (.inl x2), some (.inr f3), some (.inr f4), some (.inl x5)] [.inr 51] Z (zrv Q))
    refine z0 (op := 3) (a := 2) (b := 0) (by rfl) (by rfl) (?_ : TZ (d + 1) 124 50 [some (.inr 50), some (.inr 25), some (.inl x2), some (.inr f3), some (.inr f4), some (.inl x5)] [.inl x2, .inr 51] Z (zrv Q))
    refine z0 (op := 4) (a := 5) (b := 0) (by rfl) (by rfl) (?_ : TZ (d + 1) 124 52 [some (.inr 50), some (.inr 25), some (.inl x2), some (.inr f3), some (.inr f4), some (.inl x5)] [.inl x5, .inl x2, .inr 51] Z (zrv Q))
    refine z0 (op := 0) (a := 0) (b := 1) (by rfl) (by rfl) (?_ : TZ (d + 1) 124 53 [some (.inr 50), some (.inr 25), some (.inl x2), some (.inr f3), some (.inr f4), some (.inl x5)] [.inl 1, .inl x5, .inl x2, .inr 51] Z (zrv Q))
    refine z0 (op := 12) (a := 0) (b := 0) (by rfl) (by rfl) (?_ : TZ (d + 1) 124 54 [some (.inr 50), some (.inr 25), some (.inl x2), some (.inr f3), some (.inr f4), some (.inl x5)] [.inl (x5 + 1), .inl x2, .inr 51] Z (zrv Q))
    obtain ⟨c4, v⟩ := v
    obtain ⟨Z5, eZ5⟩ : ∃ zz, zz = zup Z 51 x2 (x5 + 1) := ⟨_, rfl⟩
    have v := v Z5 eZ5
    refine z_as (by rfl) ln_51 c4 ?_
    show TZ (d + 1) 124 55 [some (.inr 50), some (.inr 25), some (.inl x2), some (.inr f3), some (.inr f4), some (.inl x5)] [] (zup Z 51 x2 (x5 + 1)) _
    rw [← eZ5]
    refine z0 (op := 6) (a := 4) (b := 0) (by rfl) (by rfl) (?_ : TZ (d + 1) 124 57 [some (.inr 50), some (.inr 25), some (.inl x2), some (.inr f3), some (.inr f4), some (.inl x5)] [.inr f4] Z5 (zrv Q))
    refine z0 (op := 5) (a := 3) (b := 0) (by rfl) (by rfl) (?_ : TZ (d + 1) 124 58 [some (.inr 50), some (.inr 25), some (.inl x2), some (.inr f3), some (.inr f4), some (.inl x5)] [.inr f3, .inr f4] Z5 (zrv Q))
    refine z_vv (by rfl) (by rfl) (cl_F0 _ hf4) (TV.mono v fun Z6 v => ?_)
    show TZ (d + 1) 124 61 [some (.inr 50), some (.inr 25), some (.inl x2), some (.inr f3), some (.inr f4), some (.inl x5)] [] Z6 (zrv Q)
    refine z0 (op := 6) (a := 4) (b := 0) (by rfl) (by rfl) (?_ : TZ (d + 1) 124 63 [some (.inr 50), some (.inr 25), some (.inl x2), some (.inr f3), some (.inr f4), some (.inl x5)] [.inr f4] Z6 (zrv Q))
    refine z0 (op := 4) (a := 5) (b := 0) (by rfl) (by rfl) (?_ : TZ (d + 1) 124 65 [some (.inr 50), some (.inr 25), some (.inl x2), some (.inr f3), some (.inr f4), some (.inl x5)] [.inl x5, .inr f4] Z6 (zrv Q))
    refine z_vi (by rfl) (by rfl) (cl_F0 _ hf4) (TI.mono v fun r8 Z7 v => ?_)
    show TZ (d + 1) 124 68 [some (.inr 50), some (.inr 25), some (.inl x2), some (.inr f3), some (.inr f4), some (.inl x5)] [.inl r8] Z7 (zrv Q)
    refine z0 (op := 14) (a := 0) (b := 0) (by rfl) (by rfl) (?_ : TZ (d + 1) 124 69 [some (.inr 50), some (.inr 25), some (.inl x2), some (.inr f3), some (.inr f4), some (.inl x5)] [] Z7 (zrv Q))
    refine z0 (op := 5) (a := 0) (b := 0) (by rfl) (by rfl) (?_ : TZ (d + 1) 124 70 [some (.inr 50), some (.inr 25), some (.inl x2), some (.inr f3), some (.inr f4), some (.inl x5)] [.inr 50] Z7 (zrv Q))
    refine z0 (op := 5) (a := 1) (b := 0) (by rfl) (by rfl) (?_ : TZ (d + 1) 124 71 [some (.inr 50), some (.inr 25), some (.inl x2), some (.inr f3), some (.inr f4), some (.inl x5)] [.inr 25, .inr 50] Z7 (zrv Q))
    refine z0 (op := 3) (a := 2) (b := 0) (by rfl) (by rfl) (?_ : TZ (d + 1) 124 72 [some (.inr 50), some (.inr 25), some (.inl x2), some (.inr f3), some (.inr f4), some (.inl x5)] [.inl x2, .inr 25, .inr 50] Z7 (zrv Q))
    refine z0 (op := 0) (a := 0) (b := 1) (by rfl) (by rfl) (?_ : TZ (d + 1) 124 73 [some (.inr 50), some (.inr 25), some (.inl x2), some (.inr f3), some (.inr f4), some (.inl x5)] [.inl 1, .inl x2, .inr 25, .inr 50] Z7 (zrv Q))
    refine z0 (op := 12) (a := 0) (b := 0) (by rfl) (by rfl) (?_ : TZ (d + 1) 124 74 [some (.inr 50), some (.inr 25), some (.inl x2), some (.inr f3), some (.inr f4), some (.inl x5)] [.inl (x2 + 1), .inr 25, .inr 50] Z7 (zrv Q))
    refine z_sv (by rfl) (by rfl) (TV.mono v fun Z9 v => ?_)
    show TZ (d + 1) 124 77 [some (.inr 50), some (.inr 25), some (.inl x2), some (.inr f3), some (.inr f4), some (.inl x5)] [] Z9 (zrv Q)
    refine z0 (op := 11) (a := 5) (b := 1) (by rfl) (by rfl) (?_ : TZ (d + 1) 124 80 [some (.inr 50), some (.inr 25), some (.inl x2), some (.inr f3), some (.inr f4), some (.inl (x5 + 1))] [] Z9 (zrv Q))
    refine z_goto (t := 36) (by rfl) (by rfl) (?_ : TZ (d + 1) 124 36 [some (.inr 50), some (.inr 25), some (.inl x2), some (.inr f3), some (.inr f4), some (.inl (x5 + 1))] [] Z9 (zrv Q))
    exact v
theorem w125_0_54 {d : Nat} {Z : zM} {Q : zM → Prop}
    (v : TZ d 125 2 [some (.inr 0), some (.inr 54), some (.inl 0)] [] Z (zrv Q)) :
    TZ d 125 0 [some (.inr 0), some (.inr 54), none] [] Z (zrv Q) := by
  refine z0 (op := 0) (a := 0) (b := 0) (by rfl) (by rfl) (?_ : TZ d 125 1 [some (.inr 0), some (.inr 54), none] [.inl 0] Z (zrv Q))
  refine z0 (op := 7) (a := 2) (b := 0) (by rfl) (by rfl) (?_ : TZ d 125 2 [some (.inr 0), some (.inr 54), some (.inl 0)] [] Z (zrv Q))
  exact v
theorem w125_2_54 {d : Nat} {x2 : Int} {Z : zM} {Q : zM → Prop}
    (v : zR x2 ∧
      (5 ≤ x2 → TV d 124 [.inr 54, .inr 25, .inl 0] Z (fun Z3 =>
          Q Z3)) ∧
      (¬ 5 ≤ x2 → (∃ t4 : Nat, zat 25 x2 = some t4 ∧
          t4 ∈ zFl ∧
          TV d 12 [.inr t4, .inr 1] Z (fun Z6 =>
          TZ (d + 1) 125 2 [some (.inr 0), some (.inr 54), some (.inl (x2 + 1))] [] Z6 (zrv Q))))) :
    TZ (d + 1) 125 2 [some (.inr 0), some (.inr 54), some (.inl x2)] [] Z (zrv Q) := by
  refine z0 (op := 3) (a := 2) (b := 0) (by rfl) (by rfl) (?_ : TZ (d + 1) 125 3 [some (.inr 0), some (.inr 54), some (.inl x2)] [.inl x2] Z (zrv Q))
  refine z0 (op := 5) (a := 0) (b := 0) (by rfl) (by rfl) (?_ : TZ (d + 1) 125 4 [some (.inr 0), some (.inr 54), some (.inl x2)] [.inr 0, .inl x2] Z (zrv Q))
  refine z_fr (by rfl) fr54_0 (?_ : TZ (d + 1) 125 7 [some (.inr 0), some (.inr 54), some (.inl x2)] [.inr 25, .inl x2] Z (zrv Q))
  refine z_len (by rfl) le_25 (?_ : TZ (d + 1) 125 8 [some (.inr 0), some (.inr 54), some (.inl x2)] [.inl 5, .inl x2] Z (zrv Q))
  obtain ⟨c1, v1, v2⟩ := v
  refine z_if2 (a := 3) (t := 30) (by rfl) (by rfl) c1 (by decide) (fun h2 => ?_) (fun h2 => ?_)
  · have v := v1 h2; clear v1 v2
    show TZ (d + 1) 125 30 [some (.inr 0), some (.inr 54), some (.inl x2)] [] Z (zrv Q)
    refine z0 (op := 5) (a := 1) (b := 0) (by rfl) (by rfl) (?_ : TZ (d + 1) 125 31 [some (.inr 0), some (.inr 54), some (.inl x2)] [.inr 54] Z (zrv Q))
    refine z0 (op := 5) (a := 0) (b := 0) (by rfl) (by rfl) (?_ : TZ (d + 1) 125 32 [some (.inr 0), some (.inr 54), some (.inl x2)] [.inr 0, .inr 54] Z (zrv Q))
    refine z_fr (by rfl) fr54_0 (?_ : TZ (d + 1) 125 35 [some (.inr 0), some (.inr 54), some (.inl x2)] [.inr 25, .inr 54] Z (zrv Q))
    refine z0 (op := 0) (a := 0) (b := 0) (by rfl) (by rfl) (?_ : TZ (d + 1) 125 36 [some (.inr 0), some (.inr 54), some (.inl x2)] [.inl 0, .inr 25, .inr 54] Z (zrv Q))
    refine z_sv (by rfl) (by rfl) (TV.mono v fun Z3 v => ?_)
    show TZ (d + 1) 125 39 [some (.inr 0), some (.inr 54), some (.inl x2)] [] Z3 (zrv Q)
    exact z_retv (by rfl) (by rfl) v
  · have v := v2 h2; clear v1 v2
    show TZ (d + 1) 125 11 [some (.inr 0), some (.inr 54), some (.inl x2)] [] Z (zrv Q)
    refine z0 (op := 5) (a := 0) (b := 0) (by rfl) (by rfl) (?_ : TZ (d + 1) 125 12 [some (.inr 0), some (.inr 54), some (.inl x2)] [.inr 0] Z (zrv Q))
    refine z_fr (by rfl) fr54_0 (?_ : TZ (d + 1) 125 15 [some (.inr 0), some (.inr 54), some (.inl x2)] [.inr 25] Z (zrv Q))
    refine z0 (op := 3) (a := 2) (b := 0) (by rfl) (by rfl) (?_ : TZ (d + 1) 125 16 [some (.inr 0), some (.inr 54), some (.inl x2)] [.inl x2, .inr 25] Z (zrv Q))
    obtain ⟨t4, c5, ht4, v⟩ := v
    refine z_aal (by rfl) c5 (?_ : TZ (d + 1) 125 17 [some (.inr 0), some (.inr 54), some (.inl x2)] [.inr t4] Z (zrv Q))
    refine z0 (op := 5) (a := 0) (b := 0) (by rfl) (by rfl) (?_ : TZ (d + 1) 125 18 [some (.inr 0), some (.inr 54), some (.inl x2)] [.inr 0, .inr t4] Z (zrv Q))
    refine z_fr (by rfl) fr50_0 (?_ : TZ (d + 1) 125 21 [some (.inr 0), some (.inr 54), some (.inl x2)] [.inr 1, .inr t4] Z (zrv Q))
    refine z_vv (by rfl) (by rfl) (cl_F0 _ ht4) (TV.mono v fun Z6 v => ?_)
    show TZ (d + 1) 125 24 [some (.inr 0), some (.inr 54), some (.inl x2)] [] Z6 (zrv Q)
    refine z0 (op := 11) (a := 2) (b := 1) (by rfl) (by rfl) (?_ : TZ (d + 1) 125 27 [some (.inr 0), some (.inr 54), some (.inl (x2 + 1))] [] Z6 (zrv Q))
    refine z_goto (t := 2) (by rfl) (by rfl) (?_ : TZ (d + 1) 125 2 [some (.inr 0), some (.inr 54), some (.inl (x2 + 1))] [] Z6 (zrv Q))
    exact v
theorem w124_0_54 {d : Nat} {x2 : Int} {Z : zM} {Q : zM → Prop}
    (v : zR x2 ∧
      (4 < x2 → Q Z) ∧
      (¬ 4 < x2 → (∃ t3 : Nat, zat 25 x2 = some t3 ∧
          t3 ∈ zFl ∧
          TI d 8 [.inr 54, .inr t3, .inl x2] Z (fun r6 Z5 =>
          zR r6 ∧
            (r6 = 0 → Q Z5) ∧
            (¬ r6 = 0 → (zR x2 ∧
                (x2 ≠ 4 → (∃ t11 : Nat, zat 25 x2 = some t11 ∧
                    t11 ∈ zFl ∧
                    ∃ t13 : Nat, zat 25 (x2 + 1) = some t13 ∧
                    t13 ∈ zFl ∧ TZ (d + 1) 124 36 [some (.inr 54), some (.inr 25), some (.inl x2), some (.inr t11), some (.inr t13), some (.inl (-1))] [] Z5 (zrv Q))) ∧
                (¬ x2 ≠ 4 → Q Z5))))))) :
    TZ (d + 1) 124 0 [some (.inr 54), some (.inr 25), some (.inl x2), none, none, none] [] Z (zrv Q) := by
  refine z0 (op := 3) (a := 2) (b := 0) (by rfl) (by rfl) (?_ : TZ (d + 1) 124 1 [some (.inr 54), some (.inr 25), some (.inl x2), none, none, none] [.inl x2] Z (zrv Q))
  refine z0 (op := 0) (a := 0) (b := 4) (by rfl) (by rfl) (?_ : TZ (d + 1) 124 2 [some (.inr 54), some (.inr 25), some (.inl x2), none, none, none] [.inl 4, .inl x2] Z (zrv Q))
  obtain ⟨c1, v1, v2⟩ := v
  refine z_if2 (a := 4) (t := 21) (by rfl) (by rfl) c1 (by decide) (fun h2 => ?_) (fun h2 => ?_)
  · have v := v1 h2; clear v1 v2
    show TZ (d + 1) 124 21 [some (.inr 54), some (.inr 25), some (.inl x2), none, none, none] [] Z (zrv Q)
    exact z_retv (by rfl) (by rfl) v
  · have v := v2 h2; clear v1 v2
    show TZ (d + 1) 124 5 [some (.inr 54), some (.inr 25), some (.inl x2), none, none, none] [] Z (zrv Q)
    refine z0 (op := 5) (a := 0) (b := 0) (by rfl) (by rfl) (?_ : TZ (d + 1) 124 6 [some (.inr 54), some (.inr 25), some (.inl x2), none, none, none] [.inr 54] Z (zrv Q))
    refine z0 (op := 5) (a := 1) (b := 0) (by rfl) (by rfl) (?_ : TZ (d + 1) 124 7 [some (.inr 54), some (.inr 25), some (.inl x2), none, none, none] [.inr 25, .inr 54] Z (zrv Q))
    refine z0 (op := 3) (a := 2) (b := 0) (by rfl) (by rfl) (?_ : TZ (d + 1) 124 8 [some (.inr 54), some (.inr 25), some (.inl x2), none, none, none] [.inl x2, .inr 25, .inr 54] Z (zrv Q))
    obtain ⟨t3, c4, ht3, v⟩ := v
    refine z_aal (by rfl) c4 (?_ : TZ (d + 1) 124 9 [some (.inr 54), some (.inr 25), some (.inl x2), none, none, none] [.inr t3, .inr 54] Z (zrv Q))
    refine z0 (op := 3) (a := 2) (b := 0) (by rfl) (by rfl) (?_ : TZ (d + 1) 124 10 [some (.inr 54), some (.inr 25), some (.inl x2), none, none, none] [.inl x2, .inr t3, .inr 54] Z (zrv Q))
    refine z_vi (by rfl) (by rfl) cl_54 (TI.mono v fun r6 Z5 v => ?_)
    show TZ (d + 1) 124 13 [some (.inr 54), some (.inr 25), some (.inl x2), none, none, none] [.inl r6] Z5 (zrv Q)
    obtain ⟨c7, v1, v2⟩ := v
    refine z_if0 (a := 0) (t := 21) (by rfl) (by rfl) c7 (fun h8 => ?_) (fun h8 => ?_)
    · have v := v1 h8; clear v1 v2
      show TZ (d + 1) 124 21 [some (.inr 54), some (.inr 25), some (.inl x2), none, none, none] [] Z5 (zrv Q)
      exact z_retv (by rfl) (by rfl) v
    · have v := v2 h8; clear v1 v2
      show TZ (d + 1) 124 16 [some (.inr 54), some (.inr 25), some (.inl x2), none, none, none] [] Z5 (zrv Q)
      refine z0 (op := 3) (a := 2) (b := 0) (by rfl) (by rfl) (?_ : TZ (d + 1) 124 17 [some (.inr 54), some (.inr 25), some (.inl x2), none, none, none] [.inl x2] Z5 (zrv Q))
      refine z0 (op := 0) (a := 0) (b := 4) (by rfl) (by rfl) (?_ : TZ (d + 1) 124 18 [some (.inr 54), some (.inr 25), some (.inl x2), none, none, none] [.inl 4, .inl x2] Z5 (zrv Q))
      obtain ⟨c9, v1, v2⟩ := v
      refine z_if2 (a := 1) (t := 22) (by rfl) (by rfl) c9 (by decide) (fun h10 => ?_) (fun h10 => ?_)
      · have v := v1 h10; clear v1 v2
        show TZ (d + 1) 124 22 [some (.inr 54), some (.inr 25), some (.inl x2), none, none, none] [] Z5 (zrv Q)
        refine z0 (op := 5) (a := 1) (b := 0) (by rfl) (by rfl) (?_ : TZ (d + 1) 124 23 [some (.inr 54), some (.inr 25), some (.inl x2), none, none, none] [.inr 25] Z5 (zrv Q))
        refine z0 (op := 3) (a := 2) (b := 0) (by rfl) (by rfl) (?_ : TZ (d + 1) 124 24 [some (.inr 54), some (.inr 25), some (.inl x2), none, none, none] [.inl x2, .inr 25] Z5 (zrv Q))
        obtain ⟨t11, c12, ht11, v⟩ := v
        refine z_aal (by rfl) c12 (?_ : TZ (d + 1) 124 25 [some (.inr 54), some (.inr 25), some (.inl x2), none, none, none] [.inr t11] Z5 (zrv Q))
        refine z0 (op := 9) (a := 3) (b := 0) (by rfl) (by rfl) (?_ : TZ (d + 1) 124 26 [some (.inr 54), some (.inr 25), some (.inl x2), some (.inr t11), none, none] [] Z5 (zrv Q))
        refine z0 (op := 5) (a := 1) (b := 0) (by rfl) (by rfl) (?_ : TZ (d + 1) 124 27 [some (.inr 54), some (.inr 25), some (.inl x2), some (.inr t11), none, none] [.inr 25] Z5 (zrv Q))
        refine z0 (op := 3) (a := 2) (b := 0) (by rfl) (by rfl) (?_ : TZ (d + 1) 124 28 [some (.inr 54), some (.inr 25), some (.inl x2), some (.inr t11), none, none] [.inl x2, .inr 25] Z5 (zrv Q))
        refine z0 (op := 0) (a := 0) (b := 1) (by rfl) (by rfl) (?_ : TZ (d + 1) 124 29 [some (.inr 54), some (.inr 25), some (.inl x2), some (.inr t11), none, none] [.inl 1, .inl x2, .inr 25] Z5 (zrv Q))
        refine z0 (op := 12) (a := 0) (b := 0) (by rfl) (by rfl) (?_ : TZ (d + 1) 124 30 [some (.inr 54), some (.inr 25), some (.inl x2), some (.inr t11), none, none] [.inl (x2 + 1), .inr 25] Z5 (zrv Q))
        obtain ⟨t13, c14, ht13, v⟩ := v
        refine z_aal (by rfl) c14 (?_ : TZ (d + 1) 124 31 [some (.inr 54), some (.inr 25), some (.inl x2), some (.inr t11), none, none] [.inr t13] Z5 (zrv Q))
        refine z0 (op := 10) (a := 4) (b := 0) (by rfl) (by rfl) (?_ : TZ (d + 1) 124 33 [some (.inr 54), some (.inr 25), some (.inl x2), some (.inr t11), some (.inr t13), none] [] Z5 (zrv Q))
        refine z0 (op := 0) (a := 0) (b := (-1)) (by rfl) (by rfl) (?_ : TZ (d + 1) 124 34 [some (.inr 54), some (.inr 25), some (.inl x2), some (.inr t11), some (.inr t13), none] [.inl (-1)] Z5 (zrv Q))
        refine z0 (op := 8) (a := 5) (b := 0) (by rfl) (by rfl) (?_ : TZ (d + 1) 124 36 [some (.inr 54), some (.inr 25), some (.inl x2), some (.inr t11), some (.inr t13), some (.inl (-1))] [] Z5 (zrv Q))
        exact v
      · have v := v2 h10; clear v1 v2
        show TZ (d + 1) 124 21 [some (.inr 54), some (.inr 25), some (.inl x2), none, none, none] [] Z5 (zrv Q)
        exact z_retv (by rfl) (by rfl) v
theorem w124_36_54 {d : Nat} {f3 f4 : Nat} {x2 x5 : Int} {Z : zM} {Q : zM → Prop} (hf3 : f3 ∈ zFl) (hf4 : f4 ∈ zFl)
    (v : zR x5 ∧
      zR (Z f3 6) ∧
      ((Z f3 6) ≤ x5 → Q Z) ∧
      (¬ (Z f3 6) ≤ x5 → ((0 ≤ x2 ∧ x2 < 4) ∧
          ∀ Z5, Z5 = zup Z 55 x2 (x5 + 1) →
          TV d 13 [.inr f4, .inr f3] Z5 (fun Z6 =>
          TI d 25 [.inr f4, .inl x5] Z6 (fun r8 Z7 =>
            TV d 124 [.inr 54, .inr 25, .inl (x2 + 1)] Z7 (fun Z9 =>
              TZ (d + 1) 124 36 [some (.inr 54), some (.inr 25), some (.inl x2), some (.inr f3), some (.inr f4), some (.inl (x5 + 1))] [] Z9 (zrv Q))))))) :
    TZ (d + 1) 124 36 [some (.inr 54), some (.inr 25), some (.inl x2), some (.inr f3), some (.inr f4), some (.inl x5)] [] Z (zrv Q) := by
  refine z0 (op := 4) (a := 5) (b := 0) (by rfl) (by rfl) (?_ : TZ (d + 1) 124 38 [some (.inr 54), some (.inr 25), some (.inl x2), some (.inr f3), some (.inr f4), some (.inl x5)] [.inl x5] Z (zrv Q))
  refine z0 (op := 5) (a := 3) (b := 0) (by rfl) (by rfl) (?_ : TZ (d + 1) 124 39 [some (.inr 54), some (.inr 25), some (.inl x2), some (.inr f3), some (.inr f4), some (.inl x5)] [.inr f3, .inl x5] Z (zrv Q))
  refine z_fi (by rfl) (fi69_F0 _ hf3) (?_ : TZ (d + 1) 124 42 [some (.inr 54), some (.inr 25), some (.inl x2), some (.inr f3), some (.inr f4), some (.inl x5)] [.inl (Z f3 6), .inl x5] Z (zrv Q))
  obtain ⟨c1, c2, v1, v2⟩ := v
  refine z_if2 (a := 3) (t := 83) (by rfl) (by rfl) c1 c2 (fun h3 => ?_) (fun h3 => ?_)
  · have v := v1 h3; clear v1 v2
    show TZ (d + 1) 124 83 [some (.inr 54), some (.inr 25), some (.inl x2), some (.inr f3), some (.inr f4), some (.inl x5)] [] Z (zrv Q)
    exact z_retv (by rfl) (by rfl) v
  · have v := v2 h3; clear v1 v2
    show TZ (d + 1) 124 45 [some (.inr 54), some (.inr 25), some (.inl x2), some (.inr f3), some (.inr f4), some (.inl x5)] [] Z (zrv Q)
    refine z0 (op := 5) (a := 0) (b := 0) (by rfl) (by rfl) (?_ : TZ (d + 1) 124 46 [some (.inr 54), some (.inr 25), some (.inl x2), some (.inr f3), some (.inr f4), some (.inl x5)] [.inr 54] Z (zrv Q))
    refine z_fr (by rfl) fr79_54 (?_ : TZ (d + 1) 124 49 [some (.inr 54), some (.inr 25), some (.inl x2), some (.inr f3), some (.inr f4), some (.inl x5)] [.inr 55] Z (zrv Q))
    refine z0 (op := 3) (a := 2) (b := 0) (by rfl) (by rfl) (?_ : TZ (d + 1) 124 50 [some (.inr 54), some (.inr 25), some (.inl x2), some (.inr f3), some (.inr f4), some (.inl x5)] [.inl x2, .inr 55] Z (zrv Q))
    refine z0 (op := 4) (a := 5) (b := 0) (by rfl) (by rfl) (?_ : TZ (d + 1) 124 52 [some (.inr 54), some (.inr 25), some (.inl x2), some (.inr f3), some (.inr f4), some (.inl x5)] [.inl x5, .inl x2, .inr 55] Z (zrv Q))
    refine z0 (op := 0) (a := 0) (b := 1) (by rfl) (by rfl) (?_ : TZ (d + 1) 124 53 [some (.inr 54), some (.inr 25), some (.inl x2), some (.inr f3), some (.inr f4), some (.inl x5)] [.inl 1, .inl x5, .inl x2, .inr 55] Z (zrv Q))
    refine z0 (op := 12) (a := 0) (b := 0) (by rfl) (by rfl) (?_ : TZ (d + 1) 124 54 [some (.inr 54), some (.inr 25), some (.inl x2), some (.inr f3), some (.inr f4), some (.inl x5)] [.inl (x5 + 1), .inl x2, .inr 55] Z (zrv Q))
    obtain ⟨c4, v⟩ := v
    obtain ⟨Z5, eZ5⟩ : ∃ zz, zz = zup Z 55 x2 (x5 + 1) := ⟨_, rfl⟩
    have v := v Z5 eZ5
    refine z_as (by rfl) ln_55 c4 ?_
    show TZ (d + 1) 124 55 [some (.inr 54), some (.inr 25), some (.inl x2), some (.inr f3), some (.inr f4), some (.inl x5)] [] (zup Z 55 x2 (x5 + 1)) _
    rw [← eZ5]
    refine z0 (op := 6) (a := 4) (b := 0) (by rfl) (by rfl) (?_ : TZ (d + 1) 124 57 [some (.inr 54), some (.inr 25), some (.inl x2), some (.inr f3), some (.inr f4), some (.inl x5)] [.inr f4] Z5 (zrv Q))
    refine z0 (op := 5) (a := 3) (b := 0) (by rfl) (by rfl) (?_ : TZ (d + 1) 124 58 [some (.inr 54), some (.inr 25), some (.inl x2), some (.inr f3), some (.inr f4), some (.inl x5)] [.inr f3, .inr f4] Z5 (zrv Q))
    refine z_vv (by rfl) (by rfl) (cl_F0 _ hf4) (TV.mono v fun Z6 v => ?_)
    show TZ (d + 1) 124 61 [some (.inr 54), some (.inr 25), some (.inl x2), some (.inr f3), some (.inr f4), some (.inl x5)] [] Z6 (zrv Q)
    refine z0 (op := 6) (a := 4) (b := 0) (by rfl) (by rfl) (?_ : TZ (d + 1) 124 63 [some (.inr 54), some (.inr 25), some (.inl x2), some (.inr f3), some (.inr f4), some (.inl x5)] [.inr f4] Z6 (zrv Q))
    refine z0 (op := 4) (a := 5) (b := 0) (by rfl) (by rfl) (?_ : TZ (d + 1) 124 65 [some (.inr 54), some (.inr 25), some (.inl x2), some (.inr f3), some (.inr f4), some (.inl x5)] [.inl x5, .inr f4] Z6 (zrv Q))
    refine z_vi (by rfl) (by rfl) (cl_F0 _ hf4) (TI.mono v fun r8 Z7 v => ?_)
    show TZ (d + 1) 124 68 [some (.inr 54), some (.inr 25), some (.inl x2), some (.inr f3), some (.inr f4), some (.inl x5)] [.inl r8] Z7 (zrv Q)
    refine z0 (op := 14) (a := 0) (b := 0) (by rfl) (by rfl) (?_ : TZ (d + 1) 124 69 [some (.inr 54), some (.inr 25), some (.inl x2), some (.inr f3), some (.inr f4), some (.inl x5)] [] Z7 (zrv Q))
    refine z0 (op := 5) (a := 0) (b := 0) (by rfl) (by rfl) (?_ : TZ (d + 1) 124 70 [some (.inr 54), some (.inr 25), some (.inl x2), some (.inr f3), some (.inr f4), some (.inl x5)] [.inr 54] Z7 (zrv Q))
    refine z0 (op := 5) (a := 1) (b := 0) (by rfl) (by rfl) (?_ : TZ (d + 1) 124 71 [some (.inr 54), some (.inr 25), some (.inl x2), some (.inr f3), some (.inr f4), some (.inl x5)] [.inr 25, .inr 54] Z7 (zrv Q))
    refine z0 (op := 3) (a := 2) (b := 0) (by rfl) (by rfl) (?_ : TZ (d + 1) 124 72 [some (.inr 54), some (.inr 25), some (.inl x2), some (.inr f3), some (.inr f4), some (.inl x5)] [.inl x2, .inr 25, .inr 54] Z7 (zrv Q))
    refine z0 (op := 0) (a := 0) (b := 1) (by rfl) (by rfl) (?_ : TZ (d + 1) 124 73 [some (.inr 54), some (.inr 25), some (.inl x2), some (.inr f3), some (.inr f4), some (.inl x5)] [.inl 1, .inl x2, .inr 25, .inr 54] Z7 (zrv Q))
    refine z0 (op := 12) (a := 0) (b := 0) (by rfl) (by rfl) (?_ : TZ (d + 1) 124 74 [some (.inr 54), some (.inr 25), some (.inl x2), some (.inr f3), some (.inr f4), some (.inl x5)] [.inl (x2 + 1), .inr 25, .inr 54] Z7 (zrv Q))
    refine z_sv (by rfl) (by rfl) (TV.mono v fun Z9 v => ?_)
    show TZ (d + 1) 124 77 [some (.inr 54), some (.inr 25), some (.inl x2), some (.inr f3), some (.inr f4), some (.inl x5)] [] Z9 (zrv Q)
    refine z0 (op := 11) (a := 5) (b := 1) (by rfl) (by rfl) (?_ : TZ (d + 1) 124 80 [some (.inr 54), some (.inr 25), some (.inl x2), some (.inr f3), some (.inr f4), some (.inl (x5 + 1))] [] Z9 (zrv Q))
    refine z_goto (t := 36) (by rfl) (by rfl) (?_ : TZ (d + 1) 124 36 [some (.inr 54), some (.inr 25), some (.inl x2), some (.inr f3), some (.inr f4), some (.inl (x5 + 1))] [] Z9 (zrv Q))
    exact v
theorem w125_0_58 {d : Nat} {Z : zM} {Q : zM → Prop}
    (v : TZ d 125 2 [some (.inr 0), some (.inr 58), some (.inl 0)] [] Z (zrv Q)) :
    TZ d 125 0 [some (.inr 0), some (.inr 58), none] [] Z (zrv Q) := by
  refine z0 (op := 0) (a := 0) (b := 0) (by rfl) (by rfl) (?_ : TZ d 125 1 [some (.inr 0), some (.inr 58), none] [.inl 0] Z (zrv Q))
  refine z0 (op := 7) (a := 2) (b := 0) (by rfl) (by rfl) (?_ : TZ d 125 2 [some (.inr 0), some (.inr 58), some (.inl 0)] [] Z (zrv Q))
  exact v
theorem w125_2_58 {d : Nat} {x2 : Int} {Z : zM} {Q : zM → Prop}
    (v : zR x2 ∧
      (5 ≤ x2 → TV d 124 [.inr 58, .inr 25, .inl 0] Z (fun Z3 =>
          Q Z3)) ∧
      (¬ 5 ≤ x2 → (∃ t4 : Nat, zat 25 x2 = some t4 ∧
          t4 ∈ zFl ∧
          TV d 12 [.inr t4, .inr 1] Z (fun Z6 =>
          TZ (d + 1) 125 2 [some (.inr 0), some (.inr 58), some (.inl (x2 + 1))] [] Z6 (zrv Q))))) :
    TZ (d + 1) 125 2 [some (.inr 0), some (.inr 58), some (.inl x2)] [] Z (zrv Q) := by
  refine z0 (op := 3) (a := 2) (b := 0) (by rfl) (by rfl) (?_ : TZ (d + 1) 125 3 [some (.inr 0), some (.inr 58), some (.inl x2)] [.inl x2] Z (zrv Q))
  refine z0 (op := 5) (a := 0) (b := 0) (by rfl) (by rfl) (?_ : TZ (d + 1) 125 4 [some (.inr 0), some (.inr 58), some (.inl x2)] [.inr 0, .inl x2] Z (zrv Q))
  refine z_fr (by rfl) fr54_0 (?_ : TZ (d + 1) 125 7 [some (.inr 0), some (.inr 58), some (.inl x2)] [.inr 25, .inl x2] Z (zrv Q))
  refine z_len (by rfl) le_25 (?_ : TZ (d + 1) 125 8 [some (.inr 0), some (.inr 58), some (.inl x2)] [.inl 5, .inl x2] Z (zrv Q))
  obtain ⟨c1, v1, v2⟩ := v
  refine z_if2 (a := 3) (t := 30) (by rfl) (by rfl) c1 (by decide) (fun h2 => ?_) (fun h2 => ?_)
  · have v := v1 h2; clear v1 v2
    show TZ (d + 1) 125 30 [some (.inr 0), some (.inr 58), some (.inl x2)] [] Z (zrv Q)
    refine z0 (op := 5) (a := 1) (b := 0) (by rfl) (by rfl) (?_ : TZ (d + 1) 125 31 [some (.inr 0), some (.inr 58), some (.inl x2)] [.inr 58] Z (zrv Q))
    refine z0 (op := 5) (a := 0) (b := 0) (by rfl) (by rfl) (?_ : TZ (d + 1) 125 32 [some (.inr 0), some (.inr 58), some (.inl x2)] [.inr 0, .inr 58] Z (zrv Q))
    refine z_fr (by rfl) fr54_0 (?_ : TZ (d + 1) 125 35 [some (.inr 0), some (.inr 58), some (.inl x2)] [.inr 25, .inr 58] Z (zrv Q))
    refine z0 (op := 0) (a := 0) (b := 0) (by rfl) (by rfl) (?_ : TZ (d + 1) 125 36 [some (.inr 0), some (.inr 58), some (.inl x2)] [.inl 0, .inr 25, .inr 58] Z (zrv Q))
    refine z_sv (by rfl) (by rfl) (TV.mono v fun Z3 v => ?_)
    show TZ (d + 1) 125 39 [some (.inr 0), some (.inr 58), some (.inl x2)] [] Z3 (zrv Q)
    exact z_retv (by rfl) (by rfl) v
  · have v := v2 h2; clear v1 v2
    show TZ (d + 1) 125 11 [some (.inr 0), some (.inr 58), some (.inl x2)] [] Z (zrv Q)
    refine z0 (op := 5) (a := 0) (b := 0) (by rfl) (by rfl) (?_ : TZ (d + 1) 125 12 [some (.inr 0), some (.inr 58), some (.inl x2)] [.inr 0] Z (zrv Q))
    refine z_fr (by rfl) fr54_0 (?_ : TZ (d + 1) 125 15 [some (.inr 0), some (.inr 58), some (.inl x2)] [.inr 25] Z (zrv Q))
    refine z0 (op := 3) (a := 2) (b := 0) (by rfl) (by rfl) (?_ : TZ (d + 1) 125 16 [some (.inr 0), some (.inr 58), some (.inl x2)] [.inl x2, .inr 25] Z (zrv Q))
    obtain ⟨t4, c5, ht4, v⟩ := v
    refine z_aal (by rfl) c5 (?_ : TZ (d + 1) 125 17 [some (.inr 0), some (.inr 58), some (.inl x2)] [.inr t4] Z (zrv Q))
    refine z0 (op := 5) (a := 0) (b := 0) (by rfl) (by rfl) (?_ : TZ (d + 1) 125 18 [some (.inr 0), some (.inr 58), some (.inl x2)] [.inr 0, .inr t4] Z (zrv Q))
    refine z_fr (by rfl) fr50_0 (?_ : TZ (d + 1) 125 21 [some (.inr 0), some (.inr 58), some (.inl x2)] [.inr 1, .inr t4] Z (zrv Q))
    refine z_vv (by rfl) (by rfl) (cl_F0 _ ht4) (TV.mono v fun Z6 v => ?_)
    show TZ (d + 1) 125 24 [some (.inr 0), some (.inr 58), some (.inl x2)] [] Z6 (zrv Q)
    refine z0 (op := 11) (a := 2) (b := 1) (by rfl) (by rfl) (?_ : TZ (d + 1) 125 27 [some (.inr 0), some (.inr 58), some (.inl (x2 + 1))] [] Z6 (zrv Q))
    refine z_goto (t := 2) (by rfl) (by rfl) (?_ : TZ (d + 1) 125 2 [some (.inr 0), some (.inr 58), some (.inl (x2 + 1))] [] Z6 (zrv Q))
    exact v
theorem w124_0_58 {d : Nat} {x2 : Int} {Z : zM} {Q : zM → Prop}
    (v : zR x2 ∧
      (4 < x2 → Q Z) ∧
      (¬ 4 < x2 → (∃ t3 : Nat, zat 25 x2 = some t3 ∧
          t3 ∈ zFl ∧
          TI d 43 [.inr 58, .inr t3, .inl x2] Z (fun r6 Z5 =>
          zR r6 ∧
            (r6 = 0 → Q Z5) ∧
            (¬ r6 = 0 → (zR x2 ∧
                (x2 ≠ 4 → (∃ t11 : Nat, zat 25 x2 = some t11 ∧
                    t11 ∈ zFl ∧
                    ∃ t13 : Nat, zat 25 (x2 + 1) = some t13 ∧
                    t13 ∈ zFl ∧ TZ (d + 1) 124 36 [some (.inr 58), some (.inr 25), some (.inl x2), some (.inr t11), some (.inr t13), some (.inl (-1))] [] Z5 (zrv Q))) ∧
                (¬ x2 ≠ 4 → Q Z5))))))) :
    TZ (d + 1) 124 0 [some (.inr 58), some (.inr 25), some (.inl x2), none, none, none] [] Z (zrv Q) := by
  refine z0 (op := 3) (a := 2) (b := 0) (by rfl) (by rfl) (?_ : TZ (d + 1) 124 1 [some (.inr 58), some (.inr 25), some (.inl x2), none, none, none] [.inl x2] Z (zrv Q))
  refine z0 (op := 0) (a := 0) (b := 4) (by rfl) (by rfl) (?_ : TZ (d + 1) 124 2 [some (.inr 58), some (.inr 25), some (.inl x2), none, none, none] [.inl 4, .inl x2] Z (zrv Q))
  obtain ⟨c1, v1, v2⟩ := v
  refine z_if2 (a := 4) (t := 21) (by rfl) (by rfl) c1 (by decide) (fun h2 => ?_) (fun h2 => ?_)
  · have v := v1 h2; clear v1 v2
    show TZ (d + 1) 124 21 [some (.inr 58), some (.inr 25), some (.inl x2), none, none, none] [] Z (zrv Q)
    exact z_retv (by rfl) (by rfl) v
  · have v := v2 h2; clear v1 v2
    show TZ (d + 1) 124 5 [some (.inr 58), some (.inr 25), some (.inl x2), none, none, none] [] Z (zrv Q)
    refine z0 (op := 5) (a := 0) (b := 0) (by rfl) (by rfl) (?_ : TZ (d + 1) 124 6 [some (.inr 58), some (.inr 25), some (.inl x2), none, none, none] [.inr 58] Z (zrv Q))
    refine z0 (op := 5) (a := 1) (b := 0) (by rfl) (by rfl) (?_ : TZ (d + 1) 124 7 [some (.inr 58), some (.inr 25), some (.inl x2), none, none, none] [.inr 25, .inr 58] Z (zrv Q))
    refine z0 (op := 3) (a := 2) (b := 0) (by rfl) (by rfl) (?_ : TZ (d + 1) 124 8 [some (.inr 58), some (.inr 25), some (.inl x2), none, none, none] [.inl x2, .inr 25, .inr 58] Z (zrv Q))
    obtain ⟨t3, c4, ht3, v⟩ := v
    refine z_aal (by rfl) c4 (?_ : TZ (d + 1) 124 9 [some (.inr 58), some (.inr 25), some (.inl x2), none, none, none] [.inr t3, .inr 58] Z (zrv Q))
    refine z0 (op := 3) (a := 2) (b := 0) (by rfl) (by rfl) (?_ : TZ (d + 1) 124 10 [some (.inr 58), some (.inr 25), some (.inl x2), none, none, none] [.inl x2, .inr t3, .inr 58] Z (zrv Q))
    refine z_vi (by rfl) (by rfl) cl_58 (TI.mono v fun r6 Z5 v => ?_)
    show TZ (d + 1) 124 13 [some (.inr 58), some (.inr 25), some (.inl x2), none, none, none] [.inl r6] Z5 (zrv Q)
    obtain ⟨c7, v1, v2⟩ := v
    refine z_if0 (a := 0) (t := 21) (by rfl) (by rfl) c7 (fun h8 => ?_) (fun h8 => ?_)
    · have v := v1 h8; clear v1 v2
      show TZ (d + 1) 124 21 [some (.inr 58), some (.inr 25), some (.inl x2), none, none, none] [] Z5 (zrv Q)
      exact z_retv (by rfl) (by rfl) v
    · have v := v2 h8; clear v1 v2
      show TZ (d + 1) 124 16 [some (.inr 58), some (.inr 25), some (.inl x2), none, none, none] [] Z5 (zrv Q)
      refine z0 (op := 3) (a := 2) (b := 0) (by rfl) (by rfl) (?_ : TZ (d + 1) 124 17 [some (.inr 58), some (.inr 25), some (.inl x2), none, none, none] [.inl x2] Z5 (zrv Q))
      refine z0 (op := 0) (a := 0) (b := 4) (by rfl) (by rfl) (?_ : TZ (d + 1) 124 18 [some (.inr 58), some (.inr 25), some (.inl x2), none, none, none] [.inl 4, .inl x2] Z5 (zrv Q))
      obtain ⟨c9, v1, v2⟩ := v
      refine z_if2 (a := 1) (t := 22) (by rfl) (by rfl) c9 (by decide) (fun h10 => ?_) (fun h10 => ?_)
      · have v := v1 h10; clear v1 v2
        show TZ (d + 1) 124 22 [some (.inr 58), some (.inr 25), some (.inl x2), none, none, none] [] Z5 (zrv Q)
        refine z0 (op := 5) (a := 1) (b := 0) (by rfl) (by rfl) (?_ : TZ (d + 1) 124 23 [some (.inr 58), some (.inr 25), some (.inl x2), none, none, none] [.inr 25] Z5 (zrv Q))
        refine z0 (op := 3) (a := 2) (b := 0) (by rfl) (by rfl) (?_ : TZ (d + 1) 124 24 [some (.inr 58), some (.inr 25), some (.inl x2), none, none, none] [.inl x2, .inr 25] Z5 (zrv Q))
        obtain ⟨t11, c12, ht11, v⟩ := v
        refine z_aal (by rfl) c12 (?_ : TZ (d + 1) 124 25 [some (.inr 58), some (.inr 25), some (.inl x2), none, none, none] [.inr t11] Z5 (zrv Q))
        refine z0 (op := 9) (a := 3) (b := 0) (by rfl) (by rfl) (?_ : TZ (d + 1) 124 26 [some (.inr 58), some (.inr 25), some (.inl x2), some (.inr t11), none, none] [] Z5 (zrv Q))
        refine z0 (op := 5) (a := 1) (b := 0) (by rfl) (by rfl) (?_ : TZ (d + 1) 124 27 [some (.inr 58), some (.inr 25), some (.inl x2), some (.inr t11), none, none] [.inr 25] Z5 (zrv Q))
        refine z0 (op := 3) (a := 2) (b := 0) (by rfl) (by rfl) (?_ : TZ (d + 1) 124 28 [some (.inr 58), some (.inr 25), some (.inl x2), some (.inr t11), none, none] [.inl x2, .inr 25] Z5 (zrv Q))
        refine z0 (op := 0) (a := 0) (b := 1) (by rfl) (by rfl) (?_ : TZ (d + 1) 124 29 [some (.inr 58), some (.inr 25), some (.inl x2), some (.inr t11), none, none] [.inl 1, .inl x2, .inr 25] Z5 (zrv Q))
        refine z0 (op := 12) (a := 0) (b := 0) (by rfl) (by rfl) (?_ : TZ (d + 1) 124 30 [some (.inr 58), some (.inr 25), some (.inl x2), some (.inr t11), none, none] [.inl (x2 + 1), .inr 25] Z5 (zrv Q))
        obtain ⟨t13, c14, ht13, v⟩ := v
        refine z_aal (by rfl) c14 (?_ : TZ (d + 1) 124 31 [some (.inr 58), some (.inr 25), some (.inl x2), some (.inr t11), none, none] [.inr t13] Z5 (zrv Q))
        refine z0 (op := 10) (a := 4) (b := 0) (by rfl) (by rfl) (?_ : TZ (d + 1) 124 33 [some (.inr 58), some (.inr 25), some (.inl x2), some (.inr t11), some (.inr t13), none] [] Z5 (zrv Q))
        refine z0 (op := 0) (a := 0) (b := (-1)) (by rfl) (by rfl) (?_ : TZ (d + 1) 124 34 [some (.inr 58), some (.inr 25), some (.inl x2), some (.inr t11), some (.inr t13), none] [.inl (-1)] Z5 (zrv Q))
        refine z0 (op := 8) (a := 5) (b := 0) (by rfl) (by rfl) (?_ : TZ (d + 1) 124 36 [some (.inr 58), some (.inr 25), some (.inl x2), some (.inr t11), some (.inr t13), some (.inl (-1))] [] Z5 (zrv Q))
        exact v
      · have v := v2 h10; clear v1 v2
        show TZ (d + 1) 124 21 [some (.inr 58), some (.inr 25), some (.inl x2), none, none, none] [] Z5 (zrv Q)
        exact z_retv (by rfl) (by rfl) v
theorem w124_36_58 {d : Nat} {f3 f4 : Nat} {x2 x5 : Int} {Z : zM} {Q : zM → Prop} (hf3 : f3 ∈ zFl) (hf4 : f4 ∈ zFl)
    (v : zR x5 ∧
      zR (Z f3 6) ∧
      ((Z f3 6) ≤ x5 → Q Z) ∧
      (¬ (Z f3 6) ≤ x5 → ((0 ≤ x2 ∧ x2 < 4) ∧
          ∀ Z5, Z5 = zup Z 59 x2 (x5 + 1) →
          TV d 13 [.inr f4, .inr f3] Z5 (fun Z6 =>
          TI d 25 [.inr f4, .inl x5] Z6 (fun r8 Z7 =>
            TV d 124 [.inr 58, .inr 25, .inl (x2 + 1)] Z7 (fun Z9 =>
              TZ (d + 1) 124 36 [some (.inr 58), some (.inr 25), some (.inl x2), some (.inr f3), some (.inr f4), some (.inl (x5 + 1))] [] Z9 (zrv Q))))))) :
    TZ (d + 1) 124 36 [some (.inr 58), some (.inr 25), some (.inl x2), some (.inr f3), some (.inr f4), some (.inl x5)] [] Z (zrv Q) := by
  refine z0 (op := 4) (a := 5) (b := 0) (by rfl) (by rfl) (?_ : TZ (d + 1) 124 38 [some (.inr 58), some (.inr 25), some (.inl x2), some (.inr f3), some (.inr f4), some (.inl x5)] [.inl x5] Z (zrv Q))
  refine z0 (op := 5) (a := 3) (b := 0) (by rfl) (by rfl) (?_ : TZ (d + 1) 124 39 [some (.inr 58), some (.inr 25), some (.inl x2), some (.inr f3), some (.inr f4), some (.inl x5)] [.inr f3, .inl x5] Z (zrv Q))
  refine z_fi (by rfl) (fi69_F0 _ hf3) (?_ : TZ (d + 1) 124 42 [some (.inr 58), some (.inr 25), some (.inl x2), some (.inr f3), some (.inr f4), some (.inl x5)] [.inl (Z f3 6), .inl x5] Z (zrv Q))
  obtain ⟨c1, c2, v1, v2⟩ := v
  refine z_if2 (a := 3) (t := 83) (by rfl) (by rfl) c1 c2 (fun h3 => ?_) (fun h3 => ?_)
  · have v := v1 h3; clear v1 v2
    show TZ (d + 1) 124 83 [some (.inr 58), some (.inr 25), some (.inl x2), some (.inr f3), some (.inr f4), some (.inl x5)] [] Z (zrv Q)
    exact z_retv (by rfl) (by rfl) v
  · have v := v2 h3; clear v1 v2
    show TZ (d + 1) 124 45 [some (.inr 58), some (.inr 25), some (.inl x2), some (.inr f3), some (.inr f4), some (.inl x5)] [] Z (zrv Q)
    refine z0 (op := 5) (a := 0) (b := 0) (by rfl) (by rfl) (?_ : TZ (d + 1) 124 46 [some (.inr 58), some (.inr 25), some (.inl x2), some (.inr f3), some (.inr f4), some (.inl x5)] [.inr 58] Z (zrv Q))
    refine z_fr (by rfl) fr79_58 (?_ : TZ (d + 1) 124 49 [some (.inr 58), some (.inr 25), some (.inl x2), some (.inr f3), some (.inr f4), some (.inl x5)] [.inr 59] Z (zrv Q))
    refine z0 (op := 3) (a := 2) (b := 0) (by rfl) (by rfl) (?_ : TZ (d + 1) 124 50 [some (.inr 58), some (.inr 25), some (.inl x2), some (.inr f3), some (.inr f4), some (.inl x5)] [.inl x2, .inr 59] Z (zrv Q))
    refine z0 (op := 4) (a := 5) (b := 0) (by rfl) (by rfl) (?_ : TZ (d + 1) 124 52 [some (.inr 58), some (.inr 25), some (.inl x2), some (.inr f3), some (.inr f4), some (.inl x5)] [.inl x5, .inl x2, .inr 59] Z (zrv Q))
    refine z0 (op := 0) (a := 0) (b := 1) (by rfl) (by rfl) (?_ : TZ (d + 1) 124 53 [some (.inr 58), some (.inr 25), some (.inl x2), some (.inr f3), some (.inr f4), some (.inl x5)] [.inl 1, .inl x5, .inl x2, .inr 59] Z (zrv Q))
    refine z0 (op := 12) (a := 0) (b := 0) (by rfl) (by rfl) (?_ : TZ (d + 1) 124 54 [some (.inr 58), some (.inr 25), some (.inl x2), some (.inr f3), some (.inr f4), some (.inl x5)] [.inl (x5 + 1), .inl x2, .inr 59] Z (zrv Q))
    obtain ⟨c4, v⟩ := v
    obtain ⟨Z5, eZ5⟩ : ∃ zz, zz = zup Z 59 x2 (x5 + 1) := ⟨_, rfl⟩
    have v := v Z5 eZ5
    refine z_as (by rfl) ln_59 c4 ?_
    show TZ (d + 1) 124 55 [some (.inr 58), some (.inr 25), some (.inl x2), some (.inr f3), some (.inr f4), some (.inl x5)] [] (zup Z 59 x2 (x5 + 1)) _
    rw [← eZ5]
    refine z0 (op := 6) (a := 4) (b := 0) (by rfl) (by rfl) (?_ : TZ (d + 1) 124 57 [some (.inr 58), some (.inr 25), some (.inl x2), some (.inr f3), some (.inr f4), some (.inl x5)] [.inr f4] Z5 (zrv Q))
    refine z0 (op := 5) (a := 3) (b := 0) (by rfl) (by rfl) (?_ : TZ (d + 1) 124 58 [some (.inr 58), some (.inr 25), some (.inl x2), some (.inr f3), some (.inr f4), some (.inl x5)] [.inr f3, .inr f4] Z5 (zrv Q))
    refine z_vv (by rfl) (by rfl) (cl_F0 _ hf4) (TV.mono v fun Z6 v => ?_)
    show TZ (d + 1) 124 61 [some (.inr 58), some (.inr 25), some (.inl x2), some (.inr f3), some (.inr f4), some (.inl x5)] [] Z6 (zrv Q)
    refine z0 (op := 6) (a := 4) (b := 0) (by rfl) (by rfl) (?_ : TZ (d + 1) 124 63 [some (.inr 58), some (.inr 25), some (.inl x2), some (.inr f3), some (.inr f4), some (.inl x5)] [.inr f4] Z6 (zrv Q))
    refine z0 (op := 4) (a := 5) (b := 0) (by rfl) (by rfl) (?_ : TZ (d + 1) 124 65 [some (.inr 58), some (.inr 25), some (.inl x2), some (.inr f3), some (.inr f4), some (.inl x5)] [.inl x5, .inr f4] Z6 (zrv Q))
    refine z_vi (by rfl) (by rfl) (cl_F0 _ hf4) (TI.mono v fun r8 Z7 v => ?_)
    show TZ (d + 1) 124 68 [some (.inr 58), some (.inr 25), some (.inl x2), some (.inr f3), some (.inr f4), some (.inl x5)] [.inl r8] Z7 (zrv Q)
    refine z0 (op := 14) (a := 0) (b := 0) (by rfl) (by rfl) (?_ : TZ (d + 1) 124 69 [some (.inr 58), some (.inr 25), some (.inl x2), some (.inr f3), some (.inr f4), some (.inl x5)] [] Z7 (zrv Q))
    refine z0 (op := 5) (a := 0) (b := 0) (by rfl) (by rfl) (?_ : TZ (d + 1) 124 70 [some (.inr 58), some (.inr 25), some (.inl x2), some (.inr f3), some (.inr f4), some (.inl x5)] [.inr 58] Z7 (zrv Q))
    refine z0 (op := 5) (a := 1) (b := 0) (by rfl) (by rfl) (?_ : TZ (d + 1) 124 71 [some (.inr 58), some (.inr 25), some (.inl x2), some (.inr f3), some (.inr f4), some (.inl x5)] [.inr 25, .inr 58] Z7 (zrv Q))
    refine z0 (op := 3) (a := 2) (b := 0) (by rfl) (by rfl) (?_ : TZ (d + 1) 124 72 [some (.inr 58), some (.inr 25), some (.inl x2), some (.inr f3), some (.inr f4), some (.inl x5)] [.inl x2, .inr 25, .inr 58] Z7 (zrv Q))
    refine z0 (op := 0) (a := 0) (b := 1) (by rfl) (by rfl) (?_ : TZ (d + 1) 124 73 [some (.inr 58), some (.inr 25), some (.inl x2), some (.inr f3), some (.inr f4), some (.inl x5)] [.inl 1, .inl x2, .inr 25, .inr 58] Z7 (zrv Q))
    refine z0 (op := 12) (a := 0) (b := 0) (by rfl) (by rfl) (?_ : TZ (d + 1) 124 74 [some (.inr 58), some (.inr 25), some (.inl x2), some (.inr f3), some (.inr f4), some (.inl x5)] [.inl (x2 + 1), .inr 25, .inr 58] Z7 (zrv Q))
    refine z_sv (by rfl) (by rfl) (TV.mono v fun Z9 v => ?_)
    show TZ (d + 1) 124 77 [some (.inr 58), some (.inr 25), some (.inl x2), some (.inr f3), some (.inr f4), some (.inl x5)] [] Z9 (zrv Q)
    refine z0 (op := 11) (a := 5) (b := 1) (by rfl) (by rfl) (?_ : TZ (d + 1) 124 80 [some (.inr 58), some (.inr 25), some (.inl x2), some (.inr f3), some (.inr f4), some (.inl (x5 + 1))] [] Z9 (zrv Q))
    refine z_goto (t := 36) (by rfl) (by rfl) (?_ : TZ (d + 1) 124 36 [some (.inr 58), some (.inr 25), some (.inl x2), some (.inr f3), some (.inr f4), some (.inl (x5 + 1))] [] Z9 (zrv Q))
    exact v
theorem w125_0_62 {d : Nat} {Z : zM} {Q : zM → Prop}
    (v : TZ d 125 2 [some (.inr 0), some (.inr 62), some (.inl 0)] [] Z (zrv Q)) :
    TZ d 125 0 [some (.inr 0), some (.inr 62), none] [] Z (zrv Q) := by
  refine z0 (op := 0) (a := 0) (b := 0) (by rfl) (by rfl) (?_ : TZ d 125 1 [some (.inr 0), some (.inr 62), none] [.inl 0] Z (zrv Q))
  refine z0 (op := 7) (a := 2) (b := 0) (by rfl) (by rfl) (?_ : TZ d 125 2 [some (.inr 0), some (.inr 62), some (.inl 0)] [] Z (zrv Q))
  exact v
theorem w125_2_62 {d : Nat} {x2 : Int} {Z : zM} {Q : zM → Prop}
    (v : zR x2 ∧
      (5 ≤ x2 → TV d 124 [.inr 62, .inr 25, .inl 0] Z (fun Z3 =>
          Q Z3)) ∧
      (¬ 5 ≤ x2 → (∃ t4 : Nat, zat 25 x2 = some t4 ∧
          t4 ∈ zFl ∧
          TV d 12 [.inr t4, .inr 1] Z (fun Z6 =>
          TZ (d + 1) 125 2 [some (.inr 0), some (.inr 62), some (.inl (x2 + 1))] [] Z6 (zrv Q))))) :
    TZ (d + 1) 125 2 [some (.inr 0), some (.inr 62), some (.inl x2)] [] Z (zrv Q) := by
  refine z0 (op := 3) (a := 2) (b := 0) (by rfl) (by rfl) (?_ : TZ (d + 1) 125 3 [some (.inr 0), some (.inr 62), some (.inl x2)] [.inl x2] Z (zrv Q))
  refine z0 (op := 5) (a := 0) (b := 0) (by rfl) (by rfl) (?_ : TZ (d + 1) 125 4 [some (.inr 0), some (.inr 62), some (.inl x2)] [.inr 0, .inl x2] Z (zrv Q))
  refine z_fr (by rfl) fr54_0 (?_ : TZ (d + 1) 125 7 [some (.inr 0), some (.inr 62), some (.inl x2)] [.inr 25, .inl x2] Z (zrv Q))
  refine z_len (by rfl) le_25 (?_ : TZ (d + 1) 125 8 [some (.inr 0), some (.inr 62), some (.inl x2)] [.inl 5, .inl x2] Z (zrv Q))
  obtain ⟨c1, v1, v2⟩ := v
  refine z_if2 (a := 3) (t := 30) (by rfl) (by rfl) c1 (by decide) (fun h2 => ?_) (fun h2 => ?_)
  · have v := v1 h2; clear v1 v2
    show TZ (d + 1) 125 30 [some (.inr 0), some (.inr 62), some (.inl x2)] [] Z (zrv Q)
    refine z0 (op := 5) (a := 1) (b := 0) (by rfl) (by rfl) (?_ : TZ (d + 1) 125 31 [some (.inr 0), some (.inr 62), some (.inl x2)] [.inr 62] Z (zrv Q))
    refine z0 (op := 5) (a := 0) (b := 0) (by rfl) (by rfl) (?_ : TZ (d + 1) 125 32 [some (.inr 0), some (.inr 62), some (.inl x2)] [.inr 0, .inr 62] Z (zrv Q))
    refine z_fr (by rfl) fr54_0 (?_ : TZ (d + 1) 125 35 [some (.inr 0), some (.inr 62), some (.inl x2)] [.inr 25, .inr 62] Z (zrv Q))
    refine z0 (op := 0) (a := 0) (b := 0) (by rfl) (by rfl) (?_ : TZ (d + 1) 125 36 [some (.inr 0), some (.inr 62), some (.inl x2)] [.inl 0, .inr 25, .inr 62] Z (zrv Q))
    refine z_sv (by rfl) (by rfl) (TV.mono v fun Z3 v => ?_)
    show TZ (d + 1) 125 39 [some (.inr 0), some (.inr 62), some (.inl x2)] [] Z3 (zrv Q)
    exact z_retv (by rfl) (by rfl) v
  · have v := v2 h2; clear v1 v2
    show TZ (d + 1) 125 11 [some (.inr 0), some (.inr 62), some (.inl x2)] [] Z (zrv Q)
    refine z0 (op := 5) (a := 0) (b := 0) (by rfl) (by rfl) (?_ : TZ (d + 1) 125 12 [some (.inr 0), some (.inr 62), some (.inl x2)] [.inr 0] Z (zrv Q))
    refine z_fr (by rfl) fr54_0 (?_ : TZ (d + 1) 125 15 [some (.inr 0), some (.inr 62), some (.inl x2)] [.inr 25] Z (zrv Q))
    refine z0 (op := 3) (a := 2) (b := 0) (by rfl) (by rfl) (?_ : TZ (d + 1) 125 16 [some (.inr 0), some (.inr 62), some (.inl x2)] [.inl x2, .inr 25] Z (zrv Q))
    obtain ⟨t4, c5, ht4, v⟩ := v
    refine z_aal (by rfl) c5 (?_ : TZ (d + 1) 125 17 [some (.inr 0), some (.inr 62), some (.inl x2)] [.inr t4] Z (zrv Q))
    refine z0 (op := 5) (a := 0) (b := 0) (by rfl) (by rfl) (?_ : TZ (d + 1) 125 18 [some (.inr 0), some (.inr 62), some (.inl x2)] [.inr 0, .inr t4] Z (zrv Q))
    refine z_fr (by rfl) fr50_0 (?_ : TZ (d + 1) 125 21 [some (.inr 0), some (.inr 62), some (.inl x2)] [.inr 1, .inr t4] Z (zrv Q))
    refine z_vv (by rfl) (by rfl) (cl_F0 _ ht4) (TV.mono v fun Z6 v => ?_)
    show TZ (d + 1) 125 24 [some (.inr 0), some (.inr 62), some (.inl x2)] [] Z6 (zrv Q)
    refine z0 (op := 11) (a := 2) (b := 1) (by rfl) (by rfl) (?_ : TZ (d + 1) 125 27 [some (.inr 0), some (.inr 62), some (.inl (x2 + 1))] [] Z6 (zrv Q))
    refine z_goto (t := 2) (by rfl) (by rfl) (?_ : TZ (d + 1) 125 2 [some (.inr 0), some (.inr 62), some (.inl (x2 + 1))] [] Z6 (zrv Q))
    exact v
theorem w124_0_62 {d : Nat} {x2 : Int} {Z : zM} {Q : zM → Prop}
    (v : zR x2 ∧
      (4 < x2 → Q Z) ∧
      (¬ 4 < x2 → (∃ t3 : Nat, zat 25 x2 = some t3 ∧
          t3 ∈ zFl ∧
          TI d 41 [.inr 62, .inr t3, .inl x2] Z (fun r6 Z5 =>
          zR r6 ∧
            (r6 = 0 → Q Z5) ∧
            (¬ r6 = 0 → (zR x2 ∧
                (x2 ≠ 4 → (∃ t11 : Nat, zat 25 x2 = some t11 ∧
                    t11 ∈ zFl ∧
                    ∃ t13 : Nat, zat 25 (x2 + 1) = some t13 ∧
                    t13 ∈ zFl ∧ TZ (d + 1) 124 36 [some (.inr 62), some (.inr 25), some (.inl x2), some (.inr t11), some (.inr t13), some (.inl (-1))] [] Z5 (zrv Q))) ∧
                (¬ x2 ≠ 4 → Q Z5))))))) :
    TZ (d + 1) 124 0 [some (.inr 62), some (.inr 25), some (.inl x2), none, none, none] [] Z (zrv Q) := by
  refine z0 (op := 3) (a := 2) (b := 0) (by rfl) (by rfl) (?_ : TZ (d + 1) 124 1 [some (.inr 62), some (.inr 25), some (.inl x2), none, none, none] [.inl x2] Z (zrv Q))
  refine z0 (op := 0) (a := 0) (b := 4) (by rfl) (by rfl) (?_ : TZ (d + 1) 124 2 [some (.inr 62), some (.inr 25), some (.inl x2), none, none, none] [.inl 4, .inl x2] Z (zrv Q))
  obtain ⟨c1, v1, v2⟩ := v
  refine z_if2 (a := 4) (t := 21) (by rfl) (by rfl) c1 (by decide) (fun h2 => ?_) (fun h2 => ?_)
  · have v := v1 h2; clear v1 v2
    show TZ (d + 1) 124 21 [some (.inr 62), some (.inr 25), some (.inl x2), none, none, none] [] Z (zrv Q)
    exact z_retv (by rfl) (by rfl) v
  · have v := v2 h2; clear v1 v2
    show TZ (d + 1) 124 5 [some (.inr 62), some (.inr 25), some (.inl x2), none, none, none] [] Z (zrv Q)
    refine z0 (op := 5) (a := 0) (b := 0) (by rfl) (by rfl) (?_ : TZ (d + 1) 124 6 [some (.inr 62), some (.inr 25), some (.inl x2), none, none, none] [.inr 62] Z (zrv Q))
    refine z0 (op := 5) (a := 1) (b := 0) (by rfl) (by rfl) (?_ : TZ (d + 1) 124 7 [some (.inr 62), some (.inr 25), some (.inl x2), none, none, none] [.inr 25, .inr 62] Z (zrv Q))
    refine z0 (op := 3) (a := 2) (b := 0) (by rfl) (by rfl) (?_ : TZ (d + 1) 124 8 [some (.inr 62), some (.inr 25), some (.inl x2), none, none, none] [.inl x2, .inr 25, .inr 62] Z (zrv Q))
    obtain ⟨t3, c4, ht3, v⟩ := v
    refine z_aal (by rfl) c4 (?_ : TZ (d + 1) 124 9 [some (.inr 62), some (.inr 25), some (.inl x2), none, none, none] [.inr t3, .inr 62] Z (zrv Q))
    refine z0 (op := 3) (a := 2) (b := 0) (by rfl) (by rfl) (?_ : TZ (d + 1) 124 10 [some (.inr 62), some (.inr 25), some (.inl x2), none, none, none] [.inl x2, .inr t3, .inr 62] Z (zrv Q))
    refine z_vi (by rfl) (by rfl) cl_62 (TI.mono v fun r6 Z5 v => ?_)
    show TZ (d + 1) 124 13 [some (.inr 62), some (.inr 25), some (.inl x2), none, none, none] [.inl r6] Z5 (zrv Q)
    obtain ⟨c7, v1, v2⟩ := v
    refine z_if0 (a := 0) (t := 21) (by rfl) (by rfl) c7 (fun h8 => ?_) (fun h8 => ?_)
    · have v := v1 h8; clear v1 v2
      show TZ (d + 1) 124 21 [some (.inr 62), some (.inr 25), some (.inl x2), none, none, none] [] Z5 (zrv Q)
      exact z_retv (by rfl) (by rfl) v
    · have v := v2 h8; clear v1 v2
      show TZ (d + 1) 124 16 [some (.inr 62), some (.inr 25), some (.inl x2), none, none, none] [] Z5 (zrv Q)
      refine z0 (op := 3) (a := 2) (b := 0) (by rfl) (by rfl) (?_ : TZ (d + 1) 124 17 [some (.inr 62), some (.inr 25), some (.inl x2), none, none, none] [.inl x2] Z5 (zrv Q))
      refine z0 (op := 0) (a := 0) (b := 4) (by rfl) (by rfl) (?_ : TZ (d + 1) 124 18 [some (.inr 62), some (.inr 25), some (.inl x2), none, none, none] [.inl 4, .inl x2] Z5 (zrv Q))
      obtain ⟨c9, v1, v2⟩ := v
      refine z_if2 (a := 1) (t := 22) (by rfl) (by rfl) c9 (by decide) (fun h10 => ?_) (fun h10 => ?_)
      · have v := v1 h10; clear v1 v2
        show TZ (d + 1) 124 22 [some (.inr 62), some (.inr 25), some (.inl x2), none, none, none] [] Z5 (zrv Q)
        refine z0 (op := 5) (a := 1) (b := 0) (by rfl) (by rfl) (?_ : TZ (d + 1) 124 23 [some (.inr 62), some (.inr 25), some (.inl x2), none, none, none] [.inr 25] Z5 (zrv Q))
        refine z0 (op := 3) (a := 2) (b := 0) (by rfl) (by rfl) (?_ : TZ (d + 1) 124 24 [some (.inr 62), some (.inr 25), some (.inl x2), none, none, none] [.inl x2, .inr 25] Z5 (zrv Q))
        obtain ⟨t11, c12, ht11, v⟩ := v
        refine z_aal (by rfl) c12 (?_ : TZ (d + 1) 124 25 [some (.inr 62), some (.inr 25), some (.inl x2), none, none, none] [.inr t11] Z5 (zrv Q))
        refine z0 (op := 9) (a := 3) (b := 0) (by rfl) (by rfl) (?_ : TZ (d + 1) 124 26 [some (.inr 62), some (.inr 25), some (.inl x2), some (.inr t11), none, none] [] Z5 (zrv Q))
        refine z0 (op := 5) (a := 1) (b := 0) (by rfl) (by rfl) (?_ : TZ (d + 1) 124 27 [some (.inr 62), some (.inr 25), some (.inl x2), some (.inr t11), none, none] [.inr 25] Z5 (zrv Q))
        refine z0 (op := 3) (a := 2) (b := 0) (by rfl) (by rfl) (?_ : TZ (d + 1) 124 28 [some (.inr 62), some (.inr 25), some (.inl x2), some (.inr t11), none, none] [.inl x2, .inr 25] Z5 (zrv Q))
        refine z0 (op := 0) (a := 0) (b := 1) (by rfl) (by rfl) (?_ : TZ (d + 1) 124 29 [some (.inr 62), some (.inr 25), some (.inl x2), some (.inr t11), none, none] [.inl 1, .inl x2, .inr 25] Z5 (zrv Q))
        refine z0 (op := 12) (a := 0) (b := 0) (by rfl) (by rfl) (?_ : TZ (d + 1) 124 30 [some (.inr 62), some (.inr 25), some (.inl x2), some (.inr t11), none, none] [.inl (x2 + 1), .inr 25] Z5 (zrv Q))
        obtain ⟨t13, c14, ht13, v⟩ := v
        refine z_aal (by rfl) c14 (?_ : TZ (d + 1) 124 31 [some (.inr 62), some (.inr 25), some (.inl x2), some (.inr t11), none, none] [.inr t13] Z5 (zrv Q))
        refine z0 (op := 10) (a := 4) (b := 0) (by rfl) (by rfl) (?_ : TZ (d + 1) 124 33 [some (.inr 62), some (.inr 25), some (.inl x2), some (.inr t11), some (.inr t13), none] [] Z5 (zrv Q))
        refine z0 (op := 0) (a := 0) (b := (-1)) (by rfl) (by rfl) (?_ : TZ (d + 1) 124 34 [some (.inr 62), some (.inr 25), some (.inl x2), some (.inr t11), some (.inr t13), none] [.inl (-1)] Z5 (zrv Q))
        refine z0 (op := 8) (a := 5) (b := 0) (by rfl) (by rfl) (?_ : TZ (d + 1) 124 36 [some (.inr 62), some (.inr 25), some (.inl x2), some (.inr t11), some (.inr t13), some (.inl (-1))] [] Z5 (zrv Q))
        exact v
      · have v := v2 h10; clear v1 v2
        show TZ (d + 1) 124 21 [some (.inr 62), some (.inr 25), some (.inl x2), none, none, none] [] Z5 (zrv Q)
        exact z_retv (by rfl) (by rfl) v
theorem w124_36_62 {d : Nat} {f3 f4 : Nat} {x2 x5 : Int} {Z : zM} {Q : zM → Prop} (hf3 : f3 ∈ zFl) (hf4 : f4 ∈ zFl)
    (v : zR x5 ∧
      zR (Z f3 6) ∧
      ((Z f3 6) ≤ x5 → Q Z) ∧
      (¬ (Z f3 6) ≤ x5 → ((0 ≤ x2 ∧ x2 < 4) ∧
          ∀ Z5, Z5 = zup Z 63 x2 (x5 + 1) →
          TV d 13 [.inr f4, .inr f3] Z5 (fun Z6 =>
          TI d 25 [.inr f4, .inl x5] Z6 (fun r8 Z7 =>
            TV d 124 [.inr 62, .inr 25, .inl (x2 + 1)] Z7 (fun Z9 =>
              TZ (d + 1) 124 36 [some (.inr 62), some (.inr 25), some (.inl x2), some (.inr f3), some (.inr f4), some (.inl (x5 + 1))] [] Z9 (zrv Q))))))) :
    TZ (d + 1) 124 36 [some (.inr 62), some (.inr 25), some (.inl x2), some (.inr f3), some (.inr f4), some (.inl x5)] [] Z (zrv Q) := by
  refine z0 (op := 4) (a := 5) (b := 0) (by rfl) (by rfl) (?_ : TZ (d + 1) 124 38 [some (.inr 62), some (.inr 25), some (.inl x2), some (.inr f3), some (.inr f4), some (.inl x5)] [.inl x5] Z (zrv Q))
  refine z0 (op := 5) (a := 3) (b := 0) (by rfl) (by rfl) (?_ : TZ (d + 1) 124 39 [some (.inr 62), some (.inr 25), some (.inl x2), some (.inr f3), some (.inr f4), some (.inl x5)] [.inr f3, .inl x5] Z (zrv Q))
  refine z_fi (by rfl) (fi69_F0 _ hf3) (?_ : TZ (d + 1) 124 42 [some (.inr 62), some (.inr 25), some (.inl x2), some (.inr f3), some (.inr f4), some (.inl x5)] [.inl (Z f3 6), .inl x5] Z (zrv Q))
  obtain ⟨c1, c2, v1, v2⟩ := v
  refine z_if2 (a := 3) (t := 83) (by rfl) (by rfl) c1 c2 (fun h3 => ?_) (fun h3 => ?_)
  · have v := v1 h3; clear v1 v2
    show TZ (d + 1) 124 83 [some (.inr 62), some (.inr 25), some (.inl x2), some (.inr f3), some (.inr f4), some (.inl x5)] [] Z (zrv Q)
    exact z_retv (by rfl) (by rfl) v
  · have v := v2 h3; clear v1 v2
    show TZ (d + 1) 124 45 [some (.inr 62), some (.inr 25), some (.inl x2), some (.inr f3), some (.inr f4), some (.inl x5)] [] Z (zrv Q)
    refine z0 (op := 5) (a := 0) (b := 0) (by rfl) (by rfl) (?_ : TZ (d + 1) 124 46 [some (.inr 62), some (.inr 25), some (.inl x2), some (.inr f3), some (.inr f4), some (.inl x5)] [.inr 62] Z (zrv Q))
    refine z_fr (by rfl) fr79_62 (?_ : TZ (d + 1) 124 49 [some (.inr 62), some (.inr 25), some (.inl x2), some (.inr f3), some (.inr f4), some (.inl x5)] [.inr 63] Z (zrv Q))
    refine z0 (op := 3) (a := 2) (b := 0) (by rfl) (by rfl) (?_ : TZ (d + 1) 124 50 [some (.inr 62), some (.inr 25), some (.inl x2), some (.inr f3), some (.inr f4), some (.inl x5)] [.inl x2, .inr 63] Z (zrv Q))
    refine z0 (op := 4) (a := 5) (b := 0) (by rfl) (by rfl) (?_ : TZ (d + 1) 124 52 [some (.inr 62), some (.inr 25), some (.inl x2), some (.inr f3), some (.inr f4), some (.inl x5)] [.inl x5, .inl x2, .inr 63] Z (zrv Q))
    refine z0 (op := 0) (a := 0) (b := 1) (by rfl) (by rfl) (?_ : TZ (d + 1) 124 53 [some (.inr 62), some (.inr 25), some (.inl x2), some (.inr f3), some (.inr f4), some (.inl x5)] [.inl 1, .inl x5, .inl x2, .inr 63] Z (zrv Q))
    refine z0 (op := 12) (a := 0) (b := 0) (by rfl) (by rfl) (?_ : TZ (d + 1) 124 54 [some (.inr 62), some (.inr 25), some (.inl x2), some (.inr f3), some (.inr f4), some (.inl x5)] [.inl (x5 + 1), .inl x2, .inr 63] Z (zrv Q))
    obtain ⟨c4, v⟩ := v
    obtain ⟨Z5, eZ5⟩ : ∃ zz, zz = zup Z 63 x2 (x5 + 1) := ⟨_, rfl⟩
    have v := v Z5 eZ5
    refine z_as (by rfl) ln_63 c4 ?_
    show TZ (d + 1) 124 55 [some (.inr 62), some (.inr 25), some (.inl x2), some (.inr f3), some (.inr f4), some (.inl x5)] [] (zup Z 63 x2 (x5 + 1)) _
    rw [← eZ5]
    refine z0 (op := 6) (a := 4) (b := 0) (by rfl) (by rfl) (?_ : TZ (d + 1) 124 57 [some (.inr 62), some (.inr 25), some (.inl x2), some (.inr f3), some (.inr f4), some (.inl x5)] [.inr f4] Z5 (zrv Q))
    refine z0 (op := 5) (a := 3) (b := 0) (by rfl) (by rfl) (?_ : TZ (d + 1) 124 58 [some (.inr 62), some (.inr 25), some (.inl x2), some (.inr f3), some (.inr f4), some (.inl x5)] [.inr f3, .inr f4] Z5 (zrv Q))
    refine z_vv (by rfl) (by rfl) (cl_F0 _ hf4) (TV.mono v fun Z6 v => ?_)
    show TZ (d + 1) 124 61 [some (.inr 62), some (.inr 25), some (.inl x2), some (.inr f3), some (.inr f4), some (.inl x5)] [] Z6 (zrv Q)
    refine z0 (op := 6) (a := 4) (b := 0) (by rfl) (by rfl) (?_ : TZ (d + 1) 124 63 [some (.inr 62), some (.inr 25), some (.inl x2), some (.inr f3), some (.inr f4), some (.inl x5)] [.inr f4] Z6 (zrv Q))
    refine z0 (op := 4) (a := 5) (b := 0) (by rfl) (by rfl) (?_ : TZ (d + 1) 124 65 [some (.inr 62), some (.inr 25), some (.inl x2), some (.inr f3), some (.inr f4), some (.inl x5)] [.inl x5, .inr f4] Z6 (zrv Q))
    refine z_vi (by rfl) (by rfl) (cl_F0 _ hf4) (TI.mono v fun r8 Z7 v => ?_)
    show TZ (d + 1) 124 68 [some (.inr 62), some (.inr 25), some (.inl x2), some (.inr f3), some (.inr f4), some (.inl x5)] [.inl r8] Z7 (zrv Q)
    refine z0 (op := 14) (a := 0) (b := 0) (by rfl) (by rfl) (?_ : TZ (d + 1) 124 69 [some (.inr 62), some (.inr 25), some (.inl x2), some (.inr f3), some (.inr f4), some (.inl x5)] [] Z7 (zrv Q))
    refine z0 (op := 5) (a := 0) (b := 0) (by rfl) (by rfl) (?_ : TZ (d + 1) 124 70 [some (.inr 62), some (.inr 25), some (.inl x2), some (.inr f3), some (.inr f4), some (.inl x5)] [.inr 62] Z7 (zrv Q))
    refine z0 (op := 5) (a := 1) (b := 0) (by rfl) (by rfl) (?_ : TZ (d + 1) 124 71 [some (.inr 62), some (.inr 25), some (.inl x2), some (.inr f3), some (.inr f4), some (.inl x5)] [.inr 25, .inr 62] Z7 (zrv Q))
    refine z0 (op := 3) (a := 2) (b := 0) (by rfl) (by rfl) (?_ : TZ (d + 1) 124 72 [some (.inr 62), some (.inr 25), some (.inl x2), some (.inr f3), some (.inr f4), some (.inl x5)] [.inl x2, .inr 25, .inr 62] Z7 (zrv Q))
    refine z0 (op := 0) (a := 0) (b := 1) (by rfl) (by rfl) (?_ : TZ (d + 1) 124 73 [some (.inr 62), some (.inr 25), some (.inl x2), some (.inr f3), some (.inr f4), some (.inl x5)] [.inl 1, .inl x2, .inr 25, .inr 62] Z7 (zrv Q))
    refine z0 (op := 12) (a := 0) (b := 0) (by rfl) (by rfl) (?_ : TZ (d + 1) 124 74 [some (.inr 62), some (.inr 25), some (.inl x2), some (.inr f3), some (.inr f4), some (.inl x5)] [.inl (x2 + 1), .inr 25, .inr 62] Z7 (zrv Q))
    refine z_sv (by rfl) (by rfl) (TV.mono v fun Z9 v => ?_)
    show TZ (d + 1) 124 77 [some (.inr 62), some (.inr 25), some (.inl x2), some (.inr f3), some (.inr f4), some (.inl x5)] [] Z9 (zrv Q)
    refine z0 (op := 11) (a := 5) (b := 1) (by rfl) (by rfl) (?_ : TZ (d + 1) 124 80 [some (.inr 62), some (.inr 25), some (.inl x2), some (.inr f3), some (.inr f4), some (.inl (x5 + 1))] [] Z9 (zrv Q))
    refine z_goto (t := 36) (by rfl) (by rfl) (?_ : TZ (d + 1) 124 36 [some (.inr 62), some (.inr 25), some (.inl x2), some (.inr f3), some (.inr f4), some (.inl (x5 + 1))] [] Z9 (zrv Q))
    exact v
theorem w125_0_66 {d : Nat} {Z : zM} {Q : zM → Prop}
    (v : TZ d 125 2 [some (.inr 0), some (.inr 66), some (.inl 0)] [] Z (zrv Q)) :
    TZ d 125 0 [some (.inr 0), some (.inr 66), none] [] Z (zrv Q) := by
  refine z0 (op := 0) (a := 0) (b := 0) (by rfl) (by rfl) (?_ : TZ d 125 1 [some (.inr 0), some (.inr 66), none] [.inl 0] Z (zrv Q))
  refine z0 (op := 7) (a := 2) (b := 0) (by rfl) (by rfl) (?_ : TZ d 125 2 [some (.inr 0), some (.inr 66), some (.inl 0)] [] Z (zrv Q))
  exact v
theorem w125_2_66 {d : Nat} {x2 : Int} {Z : zM} {Q : zM → Prop}
    (v : zR x2 ∧
      (5 ≤ x2 → TV d 124 [.inr 66, .inr 25, .inl 0] Z (fun Z3 =>
          Q Z3)) ∧
      (¬ 5 ≤ x2 → (∃ t4 : Nat, zat 25 x2 = some t4 ∧
          t4 ∈ zFl ∧
          TV d 12 [.inr t4, .inr 1] Z (fun Z6 =>
          TZ (d + 1) 125 2 [some (.inr 0), some (.inr 66), some (.inl (x2 + 1))] [] Z6 (zrv Q))))) :
    TZ (d + 1) 125 2 [some (.inr 0), some (.inr 66), some (.inl x2)] [] Z (zrv Q) := by
  refine z0 (op := 3) (a := 2) (b := 0) (by rfl) (by rfl) (?_ : TZ (d + 1) 125 3 [some (.inr 0), some (.inr 66), some (.inl x2)] [.inl x2] Z (zrv Q))
  refine z0 (op := 5) (a := 0) (b := 0) (by rfl) (by rfl) (?_ : TZ (d + 1) 125 4 [some (.inr 0), some (.inr 66), some (.inl x2)] [.inr 0, .inl x2] Z (zrv Q))
  refine z_fr (by rfl) fr54_0 (?_ : TZ (d + 1) 125 7 [some (.inr 0), some (.inr 66), some (.inl x2)] [.inr 25, .inl x2] Z (zrv Q))
  refine z_len (by rfl) le_25 (?_ : TZ (d + 1) 125 8 [some (.inr 0), some (.inr 66), some (.inl x2)] [.inl 5, .inl x2] Z (zrv Q))
  obtain ⟨c1, v1, v2⟩ := v
  refine z_if2 (a := 3) (t := 30) (by rfl) (by rfl) c1 (by decide) (fun h2 => ?_) (fun h2 => ?_)
  · have v := v1 h2; clear v1 v2
    show TZ (d + 1) 125 30 [some (.inr 0), some (.inr 66), some (.inl x2)] [] Z (zrv Q)
    refine z0 (op := 5) (a := 1) (b := 0) (by rfl) (by rfl) (?_ : TZ (d + 1) 125 31 [some (.inr 0), some (.inr 66), some (.inl x2)] [.inr 66] Z (zrv Q))
    refine z0 (op := 5) (a := 0) (b := 0) (by rfl) (by rfl) (?_ : TZ (d + 1) 125 32 [some (.inr 0), some (.inr 66), some (.inl x2)] [.inr 0, .inr 66] Z (zrv Q))
    refine z_fr (by rfl) fr54_0 (?_ : TZ (d + 1) 125 35 [some (.inr 0), some (.inr 66), some (.inl x2)] [.inr 25, .inr 66] Z (zrv Q))
    refine z0 (op := 0) (a := 0) (b := 0) (by rfl) (by rfl) (?_ : TZ (d + 1) 125 36 [some (.inr 0), some (.inr 66), some (.inl x2)] [.inl 0, .inr 25, .inr 66] Z (zrv Q))
    refine z_sv (by rfl) (by rfl) (TV.mono v fun Z3 v => ?_)
    show TZ (d + 1) 125 39 [some (.inr 0), some (.inr 66), some (.inl x2)] [] Z3 (zrv Q)
    exact z_retv (by rfl) (by rfl) v
  · have v := v2 h2; clear v1 v2
    show TZ (d + 1) 125 11 [some (.inr 0), some (.inr 66), some (.inl x2)] [] Z (zrv Q)
    refine z0 (op := 5) (a := 0) (b := 0) (by rfl) (by rfl) (?_ : TZ (d + 1) 125 12 [some (.inr 0), some (.inr 66), some (.inl x2)] [.inr 0] Z (zrv Q))
    refine z_fr (by rfl) fr54_0 (?_ : TZ (d + 1) 125 15 [some (.inr 0), some (.inr 66), some (.inl x2)] [.inr 25] Z (zrv Q))
    refine z0 (op := 3) (a := 2) (b := 0) (by rfl) (by rfl) (?_ : TZ (d + 1) 125 16 [some (.inr 0), some (.inr 66), some (.inl x2)] [.inl x2, .inr 25] Z (zrv Q))
    obtain ⟨t4, c5, ht4, v⟩ := v
    refine z_aal (by rfl) c5 (?_ : TZ (d + 1) 125 17 [some (.inr 0), some (.inr 66), some (.inl x2)] [.inr t4] Z (zrv Q))
    refine z0 (op := 5) (a := 0) (b := 0) (by rfl) (by rfl) (?_ : TZ (d + 1) 125 18 [some (.inr 0), some (.inr 66), some (.inl x2)] [.inr 0, .inr t4] Z (zrv Q))
    refine z_fr (by rfl) fr50_0 (?_ : TZ (d + 1) 125 21 [some (.inr 0), some (.inr 66), some (.inl x2)] [.inr 1, .inr t4] Z (zrv Q))
    refine z_vv (by rfl) (by rfl) (cl_F0 _ ht4) (TV.mono v fun Z6 v => ?_)
    show TZ (d + 1) 125 24 [some (.inr 0), some (.inr 66), some (.inl x2)] [] Z6 (zrv Q)
    refine z0 (op := 11) (a := 2) (b := 1) (by rfl) (by rfl) (?_ : TZ (d + 1) 125 27 [some (.inr 0), some (.inr 66), some (.inl (x2 + 1))] [] Z6 (zrv Q))
    refine z_goto (t := 2) (by rfl) (by rfl) (?_ : TZ (d + 1) 125 2 [some (.inr 0), some (.inr 66), some (.inl (x2 + 1))] [] Z6 (zrv Q))
    exact v
theorem w124_0_66 {d : Nat} {x2 : Int} {Z : zM} {Q : zM → Prop}
    (v : zR x2 ∧
      (4 < x2 → Q Z) ∧
      (¬ 4 < x2 → (∃ t3 : Nat, zat 25 x2 = some t3 ∧
          t3 ∈ zFl ∧
          TI d 37 [.inr 66, .inr t3, .inl x2] Z (fun r6 Z5 =>
          zR r6 ∧
            (r6 = 0 → Q Z5) ∧
            (¬ r6 = 0 → (zR x2 ∧
                (x2 ≠ 4 → (∃ t11 : Nat, zat 25 x2 = some t11 ∧
                    t11 ∈ zFl ∧
                    ∃ t13 : Nat, zat 25 (x2 + 1) = some t13 ∧
                    t13 ∈ zFl ∧ TZ (d + 1) 124 36 [some (.inr 66), some (.inr 25), some (.inl x2), some (.inr t11), some (.inr t13), some (.inl (-1))] [] Z5 (zrv Q))) ∧
                (¬ x2 ≠ 4 → Q Z5))))))) :
    TZ (d + 1) 124 0 [some (.inr 66), some (.inr 25), some (.inl x2), none, none, none] [] Z (zrv Q) := by
  refine z0 (op := 3) (a := 2) (b := 0) (by rfl) (by rfl) (?_ : TZ (d + 1) 124 1 [some (.inr 66), some (.inr 25), some (.inl x2), none, none, none] [.inl x2] Z (zrv Q))
  refine z0 (op := 0) (a := 0) (b := 4) (by rfl) (by rfl) (?_ : TZ (d + 1) 124 2 [some (.inr 66), some (.inr 25), some (.inl x2), none, none, none] [.inl 4, .inl x2] Z (zrv Q))
  obtain ⟨c1, v1, v2⟩ := v
  refine z_if2 (a := 4) (t := 21) (by rfl) (by rfl) c1 (by decide) (fun h2 => ?_) (fun h2 => ?_)
  · have v := v1 h2; clear v1 v2
    show TZ (d + 1) 124 21 [some (.inr 66), some (.inr 25), some (.inl x2), none, none, none] [] Z (zrv Q)
    exact z_retv (by rfl) (by rfl) v
  · have v := v2 h2; clear v1 v2
    show TZ (d + 1) 124 5 [some (.inr 66), some (.inr 25), some (.inl x2), none, none, none] [] Z (zrv Q)
    refine z0 (op := 5) (a := 0) (b := 0) (by rfl) (by rfl) (?_ : TZ (d + 1) 124 6 [some (.inr 66), some (.inr 25), some (.inl x2), none, none, none] [.inr 66] Z (zrv Q))
    refine z0 (op := 5) (a := 1) (b := 0) (by rfl) (by rfl) (?_ : TZ (d + 1) 124 7 [some (.inr 66), some (.inr 25), some (.inl x2), none, none, none] [.inr 25, .inr 66] Z (zrv Q))
    refine z0 (op := 3) (a := 2) (b := 0) (by rfl) (by rfl) (?_ : TZ (d + 1) 124 8 [some (.inr 66), some (.inr 25), some (.inl x2), none, none, none] [.inl x2, .inr 25, .inr 66] Z (zrv Q))
    obtain ⟨t3, c4, ht3, v⟩ := v
    refine z_aal (by rfl) c4 (?_ : TZ (d + 1) 124 9 [some (.inr 66), some (.inr 25), some (.inl x2), none, none, none] [.inr t3, .inr 66] Z (zrv Q))
    refine z0 (op := 3) (a := 2) (b := 0) (by rfl) (by rfl) (?_ : TZ (d + 1) 124 10 [some (.inr 66), some (.inr 25), some (.inl x2), none, none, none] [.inl x2, .inr t3, .inr 66] Z (zrv Q))
    refine z_vi (by rfl) (by rfl) cl_66 (TI.mono v fun r6 Z5 v => ?_)
    show TZ (d + 1) 124 13 [some (.inr 66), some (.inr 25), some (.inl x2), none, none, none] [.inl r6] Z5 (zrv Q)
    obtain ⟨c7, v1, v2⟩ := v
    refine z_if0 (a := 0) (t := 21) (by rfl) (by rfl) c7 (fun h8 => ?_) (fun h8 => ?_)
    · have v := v1 h8; clear v1 v2
      show TZ (d + 1) 124 21 [some (.inr 66), some (.inr 25), some (.inl x2), none, none, none] [] Z5 (zrv Q)
      exact z_retv (by rfl) (by rfl) v
    · have v := v2 h8; clear v1 v2
      show TZ (d + 1) 124 16 [some (.inr 66), some (.inr 25), some (.inl x2), none, none, none] [] Z5 (zrv Q)
      refine z0 (op := 3) (a := 2) (b := 0) (by rfl) (by rfl) (?_ : TZ (d + 1) 124 17 [some (.inr 66), some (.inr 25), some (.inl x2), none, none, none] [.inl x2] Z5 (zrv Q))
      refine z0 (op := 0) (a := 0) (b := 4) (by rfl) (by rfl) (?_ : TZ (d + 1) 124 18 [some (.inr 66), some (.inr 25), some (.inl x2), none, none, none] [.inl 4, .inl x2] Z5 (zrv Q))
      obtain ⟨c9, v1, v2⟩ := v
      refine z_if2 (a := 1) (t := 22) (by rfl) (by rfl) c9 (by decide) (fun h10 => ?_) (fun h10 => ?_)
      · have v := v1 h10; clear v1 v2
        show TZ (d + 1) 124 22 [some (.inr 66), some (.inr 25), some (.inl x2), none, none, none] [] Z5 (zrv Q)
        refine z0 (op := 5) (a := 1) (b := 0) (by rfl) (by rfl) (?_ : TZ (d + 1) 124 23 [some (.inr 66), some (.inr 25), some (.inl x2), none, none, none] [.inr 25] Z5 (zrv Q))
        refine z0 (op := 3) (a := 2) (b := 0) (by rfl) (by rfl) (?_ : TZ (d + 1) 124 24 [some (.inr 66), some (.inr 25), some (.inl x2), none, none, none] [.inl x2, .inr 25] Z5 (zrv Q))
        obtain ⟨t11, c12, ht11, v⟩ := v
        refine z_aal (by rfl) c12 (?_ : TZ (d + 1) 124 25 [some (.inr 66), some (.inr 25), some (.inl x2), none, none, none] [.inr t11] Z5 (zrv Q))
        refine z0 (op := 9) (a := 3) (b := 0) (by rfl) (by rfl) (?_ : TZ (d + 1) 124 26 [some (.inr 66), some (.inr 25), some (.inl x2), some (.inr t11), none, none] [] Z5 (zrv Q))
        refine z0 (op := 5) (a := 1) (b := 0) (by rfl) (by rfl) (?_ : TZ (d + 1) 124 27 [some (.inr 66), some (.inr 25), some (.inl x2), some (.inr t11), none, none] [.inr 25] Z5 (zrv Q))
        refine z0 (op := 3) (a := 2) (b := 0) (by rfl) (by rfl) (?_ : TZ (d + 1) 124 28 [some (.inr 66), some (.inr 25), some (.inl x2), some (.inr t11), none, none] [.inl x2, .inr 25] Z5 (zrv Q))
        refine z0 (op := 0) (a := 0) (b := 1) (by rfl) (by rfl) (?_ : TZ (d + 1) 124 29 [some (.inr 66), some (.inr 25), some (.inl x2), some (.inr t11), none, none] [.inl 1, .inl x2, .inr 25] Z5 (zrv Q))
        refine z0 (op := 12) (a := 0) (b := 0) (by rfl) (by rfl) (?_ : TZ (d + 1) 124 30 [some (.inr 66), some (.inr 25), some (.inl x2), some (.inr t11), none, none] [.inl (x2 + 1), .inr 25] Z5 (zrv Q))
        obtain ⟨t13, c14, ht13, v⟩ := v
        refine z_aal (by rfl) c14 (?_ : TZ (d + 1) 124 31 [some (.inr 66), some (.inr 25), some (.inl x2), some (.inr t11), none, none] [.inr t13] Z5 (zrv Q))
        refine z0 (op := 10) (a := 4) (b := 0) (by rfl) (by rfl) (?_ : TZ (d + 1) 124 33 [some (.inr 66), some (.inr 25), some (.inl x2), some (.inr t11), some (.inr t13), none] [] Z5 (zrv Q))
        refine z0 (op := 0) (a := 0) (b := (-1)) (by rfl) (by rfl) (?_ : TZ (d + 1) 124 34 [some (.inr 66), some (.inr 25), some (.inl x2), some (.inr t11), some (.inr t13), none] [.inl (-1)] Z5 (zrv Q))
        refine z0 (op := 8) (a := 5) (b := 0) (by rfl) (by rfl) (?_ : TZ (d + 1) 124 36 [some (.inr 66), some (.inr 25), some (.inl x2), some (.inr t11), some (.inr t13), some (.inl (-1))] [] Z5 (zrv Q))
        exact v
      · have v := v2 h10; clear v1 v2
        show TZ (d + 1) 124 21 [some (.inr 66), some (.inr 25), some (.inl x2), none, none, none] [] Z5 (zrv Q)
        exact z_retv (by rfl) (by rfl) v
theorem w124_36_66 {d : Nat} {f3 f4 : Nat} {x2 x5 : Int} {Z : zM} {Q : zM → Prop} (hf3 : f3 ∈ zFl) (hf4 : f4 ∈ zFl)
    (v : zR x5 ∧
      zR (Z f3 6) ∧
      ((Z f3 6) ≤ x5 → Q Z) ∧
      (¬ (Z f3 6) ≤ x5 → ((0 ≤ x2 ∧ x2 < 4) ∧
          ∀ Z5, Z5 = zup Z 67 x2 (x5 + 1) →
          TV d 13 [.inr f4, .inr f3] Z5 (fun Z6 =>
          TI d 25 [.inr f4, .inl x5] Z6 (fun r8 Z7 =>
            TV d 124 [.inr 66, .inr 25, .inl (x2 + 1)] Z7 (fun Z9 =>
              TZ (d + 1) 124 36 [some (.inr 66), some (.inr 25), some (.inl x2), some (.inr f3), some (.inr f4), some (.inl (x5 + 1))] [] Z9 (zrv Q))))))) :
    TZ (d + 1) 124 36 [some (.inr 66), some (.inr 25), some (.inl x2), some (.inr f3), some (.inr f4), some (.inl x5)] [] Z (zrv Q) := by
  refine z0 (op := 4) (a := 5) (b := 0) (by rfl) (by rfl) (?_ : TZ (d + 1) 124 38 [some (.inr 66), some (.inr 25), some (.inl x2), some (.inr f3), some (.inr f4), some (.inl x5)] [.inl x5] Z (zrv Q))
  refine z0 (op := 5) (a := 3) (b := 0) (by rfl) (by rfl) (?_ : TZ (d + 1) 124 39 [some (.inr 66), some (.inr 25), some (.inl x2), some (.inr f3), some (.inr f4), some (.inl x5)] [.inr f3, .inl x5] Z (zrv Q))
  refine z_fi (by rfl) (fi69_F0 _ hf3) (?_ : TZ (d + 1) 124 42 [some (.inr 66), some (.inr 25), some (.inl x2), some (.inr f3), some (.inr f4), some (.inl x5)] [.inl (Z f3 6), .inl x5] Z (zrv Q))
  obtain ⟨c1, c2, v1, v2⟩ := v
  refine z_if2 (a := 3) (t := 83) (by rfl) (by rfl) c1 c2 (fun h3 => ?_) (fun h3 => ?_)
  · have v := v1 h3; clear v1 v2
    show TZ (d + 1) 124 83 [some (.inr 66), some (.inr 25), some (.inl x2), some (.inr f3), some (.inr f4), some (.inl x5)] [] Z (zrv Q)
    exact z_retv (by rfl) (by rfl) v
  · have v := v2 h3; clear v1 v2
    show TZ (d + 1) 124 45 [some (.inr 66), some (.inr 25), some (.inl x2), some (.inr f3), some (.inr f4), some (.inl x5)] [] Z (zrv Q)
    refine z0 (op := 5) (a := 0) (b := 0) (by rfl) (by rfl) (?_ : TZ (d + 1) 124 46 [some (.inr 66), some (.inr 25), some (.inl x2), some (.inr f3), some (.inr f4), some (.inl x5)] [.inr 66] Z (zrv Q))
    refine z_fr (by rfl) fr79_66 (?_ : TZ (d + 1) 124 49 [some (.inr 66), some (.inr 25), some (.inl x2), some (.inr f3), some (.inr f4), some (.inl x5)] [.inr 67] Z (zrv Q))
    refine z0 (op := 3) (a := 2) (b := 0) (by rfl) (by rfl) (?_ : TZ (d + 1) 124 50 [some (.inr 66), some (.inr 25), some (.inl x2), some (.inr f3), some (.inr f4), some (.inl x5)] [.inl x2, .inr 67] Z (zrv Q))
    refine z0 (op := 4) (a := 5) (b := 0) (by rfl) (by rfl) (?_ : TZ (d + 1) 124 52 [some (.inr 66), some (.inr 25), some (.inl x2), some (.inr f3), some (.inr f4), some (.inl x5)] [.inl x5, .inl x2, .inr 67] Z (zrv Q))
    refine z0 (op := 0) (a := 0) (b := 1) (by rfl) (by rfl) (?_ : TZ (d + 1) 124 53 [some (.inr 66), some (.inr 25), some (.inl x2), some (.inr f3), some (.inr f4), some (.inl x5)] [.inl 1, .inl x5, .inl x2, .inr 67] Z (zrv Q))
    refine z0 (op := 12) (a := 0) (b := 0) (by rfl) (by rfl) (?_ : TZ (d + 1) 124 54 [some (.inr 66), some (.inr 25), some (.inl x2), some (.inr f3), some (.inr f4), some (.inl x5)] [.inl (x5 + 1), .inl x2, .inr 67] Z (zrv Q))
    obtain ⟨c4, v⟩ := v
    obtain ⟨Z5, eZ5⟩ : ∃ zz, zz = zup Z 67 x2 (x5 + 1) := ⟨_, rfl⟩
    have v := v Z5 eZ5
    refine z_as (by rfl) ln_67 c4 ?_
    show TZ (d + 1) 124 55 [some (.inr 66), some (.inr 25), some (.inl x2), some (.inr f3), some (.inr f4), some (.inl x5)] [] (zup Z 67 x2 (x5 + 1)) _
    rw [← eZ5]
    refine z0 (op := 6) (a := 4) (b := 0) (by rfl) (by rfl) (?_ : TZ (d + 1) 124 57 [some (.inr 66), some (.inr 25), some (.inl x2), some (.inr f3), some (.inr f4), some (.inl x5)] [.inr f4] Z5 (zrv Q))
    refine z0 (op := 5) (a := 3) (b := 0) (by rfl) (by rfl) (?_ : TZ (d + 1) 124 58 [some (.inr 66), some (.inr 25), some (.inl x2), some (.inr f3), some (.inr f4), some (.inl x5)] [.inr f3, .inr f4] Z5 (zrv Q))
    refine z_vv (by rfl) (by rfl) (cl_F0 _ hf4) (TV.mono v fun Z6 v => ?_)
    show TZ (d + 1) 124 61 [some (.inr 66), some (.inr 25), some (.inl x2), some (.inr f3), some (.inr f4), some (.inl x5)] [] Z6 (zrv Q)
    refine z0 (op := 6) (a := 4) (b := 0) (by rfl) (by rfl) (?_ : TZ (d + 1) 124 63 [some (.inr 66), some (.inr 25), some (.inl x2), some (.inr f3), some (.inr f4), some (.inl x5)] [.inr f4] Z6 (zrv Q))
    refine z0 (op := 4) (a := 5) (b := 0) (by rfl) (by rfl) (?_ : TZ (d + 1) 124 65 [some (.inr 66), some (.inr 25), some (.inl x2), some (.inr f3), some (.inr f4), some (.inl x5)] [.inl x5, .inr f4] Z6 (zrv Q))
    refine z_vi (by rfl) (by rfl) (cl_F0 _ hf4) (TI.mono v fun r8 Z7 v => ?_)
    show TZ (d + 1) 124 68 [some (.inr 66), some (.inr 25), some (.inl x2), some (.inr f3), some (.inr f4), some (.inl x5)] [.inl r8] Z7 (zrv Q)
    refine z0 (op := 14) (a := 0) (b := 0) (by rfl) (by rfl) (?_ : TZ (d + 1) 124 69 [some (.inr 66), some (.inr 25), some (.inl x2), some (.inr f3), some (.inr f4), some (.inl x5)] [] Z7 (zrv Q))
    refine z0 (op := 5) (a := 0) (b := 0) (by rfl) (by rfl) (?_ : TZ (d + 1) 124 70 [some (.inr 66), some (.inr 25), some (.inl x2), some (.inr f3), some (.inr f4), some (.inl x5)] [.inr 66] Z7 (zrv Q))
    refine z0 (op := 5) (a := 1) (b := 0) (by rfl) (by rfl) (?_ : TZ (d + 1) 124 71 [some (.inr 66), some (.inr 25), some (.inl x2), some (.inr f3), some (.inr f4), some (.inl x5)] [.inr 25, .inr 66] Z7 (zrv Q))
    refine z0 (op := 3) (a := 2) (b := 0) (by rfl) (by rfl) (?_ : TZ (d + 1) 124 72 [some (.inr 66), some (.inr 25), some (.inl x2), some (.inr f3), some (.inr f4), some (.inl x5)] [.inl x2, .inr 25, .inr 66] Z7 (zrv Q))
    refine z0 (op := 0) (a := 0) (b := 1) (by rfl) (by rfl) (?_ : TZ (d + 1) 124 73 [some (.inr 66), some (.inr 25), some (.inl x2), some (.inr f3), some (.inr f4), some (.inl x5)] [.inl 1, .inl x2, .inr 25, .inr 66] Z7 (zrv Q))
    refine z0 (op := 12) (a := 0) (b := 0) (by rfl) (by rfl) (?_ : TZ (d + 1) 124 74 [some (.inr 66), some (.inr 25), some (.inl x2), some (.inr f3), some (.inr f4), some (.inl x5)] [.inl (x2 + 1), .inr 25, .inr 66] Z7 (zrv Q))
    refine z_sv (by rfl) (by rfl) (TV.mono v fun Z9 v => ?_)
    show TZ (d + 1) 124 77 [some (.inr 66), some (.inr 25), some (.inl x2), some (.inr f3), some (.inr f4), some (.inl x5)] [] Z9 (zrv Q)
    refine z0 (op := 11) (a := 5) (b := 1) (by rfl) (by rfl) (?_ : TZ (d + 1) 124 80 [some (.inr 66), some (.inr 25), some (.inl x2), some (.inr f3), some (.inr f4), some (.inl (x5 + 1))] [] Z9 (zrv Q))
    refine z_goto (t := 36) (by rfl) (by rfl) (?_ : TZ (d + 1) 124 36 [some (.inr 66), some (.inr 25), some (.inl x2), some (.inr f3), some (.inr f4), some (.inl (x5 + 1))] [] Z9 (zrv Q))
    exact v
