theorem w17_0 {d : Nat} {k : Nat} {x1 : Int} {Z : zM} {Q : Int → zM → Prop} (hk : k ∈ zFl)
    (v : zR x1 ∧
      (x1 < 0 → Q 0 Z) ∧
      (¬ x1 < 0 → (zR x1 ∧
          zR (Z k 6) ∧
          ((Z k 6) ≤ x1 → Q 0 Z) ∧
          (¬ (Z k 6) ≤ x1 → ((0 ≤ x1 ∧ x1 < 6) ∧
              zR (Z (k + 4) x1) ∧
              (4 ≤ (Z (k + 4) x1) → Q 0 Z) ∧
              (¬ 4 ≤ (Z (k + 4) x1) → Q 1 Z)))))) :
    TZ d 17 0 [some (.inr k), some (.inl x1)] [] Z (zri Q) := by
  refine z0 (op := 3) (a := 1) (b := 0) (by rfl) (by rfl) (?_ : TZ d 17 1 [some (.inr k), some (.inl x1)] [.inl x1] Z (zri Q))
  obtain ⟨c1, v1, v2⟩ := v
  refine z_if0 (t := 26) (by rfl) (by rfl) c1 (fun h2 => ?_) (fun h2 => ?_)
  · have v := v1 h2; clear v1 v2
    show TZ d 17 26 [some (.inr k), some (.inl x1)] [] Z (zri Q)
    refine z0 (op := 0) (a := 0) (b := 0) (by rfl) (by rfl) (?_ : TZ d 17 27 [some (.inr k), some (.inl x1)] [.inl 0] Z (zri Q))
    exact z_retb (by rfl) (by rfl) (by decide) v
  · have v := v2 h2; clear v1 v2
    show TZ d 17 4 [some (.inr k), some (.inl x1)] [] Z (zri Q)
    refine z0 (op := 3) (a := 1) (b := 0) (by rfl) (by rfl) (?_ : TZ d 17 5 [some (.inr k), some (.inl x1)] [.inl x1] Z (zri Q))
    refine z0 (op := 5) (a := 0) (b := 0) (by rfl) (by rfl) (?_ : TZ d 17 6 [some (.inr k), some (.inl x1)] [.inr k, .inl x1] Z (zri Q))
    refine z_fi (by rfl) (fi9_F0 _ hk) (?_ : TZ d 17 9 [some (.inr k), some (.inl x1)] [.inl (Z k 6), .inl x1] Z (zri Q))
    obtain ⟨c3, c4, v1, v2⟩ := v
    refine z_if2 (t := 26) (by rfl) (by rfl) c3 c4 (fun h5 => ?_) (fun h5 => ?_)
    · have v := v1 h5; clear v1 v2
      show TZ d 17 26 [some (.inr k), some (.inl x1)] [] Z (zri Q)
      refine z0 (op := 0) (a := 0) (b := 0) (by rfl) (by rfl) (?_ : TZ d 17 27 [some (.inr k), some (.inl x1)] [.inl 0] Z (zri Q))
      exact z_retb (by rfl) (by rfl) (by decide) v
    · have v := v2 h5; clear v1 v2
      show TZ d 17 12 [some (.inr k), some (.inl x1)] [] Z (zri Q)
      refine z0 (op := 5) (a := 0) (b := 0) (by rfl) (by rfl) (?_ : TZ d 17 13 [some (.inr k), some (.inl x1)] [.inr k] Z (zri Q))
      refine z_fr (by rfl) (fr7_F0 _ hk) (?_ : TZ d 17 16 [some (.inr k), some (.inl x1)] [.inr (k + 4)] Z (zri Q))
      refine z0 (op := 3) (a := 1) (b := 0) (by rfl) (by rfl) (?_ : TZ d 17 17 [some (.inr k), some (.inl x1)] [.inl x1, .inr (k + 4)] Z (zri Q))
      obtain ⟨c6, v⟩ := v
      refine z_al (by rfl) (ln_F4 _ hk) c6 (?_ : TZ d 17 18 [some (.inr k), some (.inl x1)] [.inl (Z (k + 4) x1)] Z (zri Q))
      refine z0 (op := 0) (a := 0) (b := 4) (by rfl) (by rfl) (?_ : TZ d 17 19 [some (.inr k), some (.inl x1)] [.inl 4, .inl (Z (k + 4) x1)] Z (zri Q))
      obtain ⟨c7, v1, v2⟩ := v
      refine z_if2 (t := 26) (by rfl) (by rfl) c7 (by decide) (fun h8 => ?_) (fun h8 => ?_)
      · have v := v1 h8; clear v1 v2
        show TZ d 17 26 [some (.inr k), some (.inl x1)] [] Z (zri Q)
        refine z0 (op := 0) (a := 0) (b := 0) (by rfl) (by rfl) (?_ : TZ d 17 27 [some (.inr k), some (.inl x1)] [.inl 0] Z (zri Q))
        exact z_retb (by rfl) (by rfl) (by decide) v
      · have v := v2 h8; clear v1 v2
        show TZ d 17 22 [some (.inr k), some (.inl x1)] [] Z (zri Q)
        refine z0 (op := 0) (a := 0) (b := 1) (by rfl) (by rfl) (?_ : TZ d 17 23 [some (.inr k), some (.inl x1)] [.inl 1] Z (zri Q))
        refine z_goto (t := 27) (by rfl) (by rfl) (?_ : TZ d 17 27 [some (.inr k), some (.inl x1)] [.inl 1] Z (zri Q))
        exact z_retb (by rfl) (by rfl) (by decide) v
theorem w22_0 {d : Nat} {k : Nat} {Z : zM} {Q : Int → zM → Prop} (hk : k ∈ zFl)
    (v : TZ d 22 4 [some (.inr k), some (.inl 0), some (.inl 0)] [] Z (zri Q)) :
    TZ d 22 0 [some (.inr k), none, none] [] Z (zri Q) := by
  refine z0 (op := 0) (a := 0) (b := 0) (by rfl) (by rfl) (?_ : TZ d 22 1 [some (.inr k), none, none] [.inl 0] Z (zri Q))
  refine z0 (op := 7) (a := 1) (b := 0) (by rfl) (by rfl) (?_ : TZ d 22 2 [some (.inr k), some (.inl 0), none] [] Z (zri Q))
  refine z0 (op := 0) (a := 0) (b := 0) (by rfl) (by rfl) (?_ : TZ d 22 3 [some (.inr k), some (.inl 0), none] [.inl 0] Z (zri Q))
  refine z0 (op := 7) (a := 2) (b := 0) (by rfl) (by rfl) (?_ : TZ d 22 4 [some (.inr k), some (.inl 0), some (.inl 0)] [] Z (zri Q))
  exact v
theorem w22_4 {d : Nat} {k : Nat} {x1 x2 : Int} {Z : zM} {Q : Int → zM → Prop} (hk : k ∈ zFl)
    (v : zR x2 ∧
      zR (Z k 6) ∧
      ((Z k 6) ≤ x2 → (zR x1 ∧ Q (Int.tmod x1 12) Z)) ∧
      (¬ (Z k 6) ≤ x2 → ((0 ≤ x2 ∧ x2 < 6) ∧
          (0 ≤ x2 ∧ x2 < 6) ∧ TZ d 22 4 [some (.inr k), some (.inl (x1 + ((Z (k + 5) x2) * (Z (k + 4) x2)))), some (.inl (x2 + 1))] [] Z (zri Q)))) :
    TZ d 22 4 [some (.inr k), some (.inl x1), some (.inl x2)] [] Z (zri Q) := by
  refine z0 (op := 3) (a := 2) (b := 0) (by rfl) (by rfl) (?_ : TZ d 22 5 [some (.inr k), some (.inl x1), some (.inl x2)] [.inl x2] Z (zri Q))
  refine z0 (op := 5) (a := 0) (b := 0) (by rfl) (by rfl) (?_ : TZ d 22 6 [some (.inr k), some (.inl x1), some (.inl x2)] [.inr k, .inl x2] Z (zri Q))
  refine z_fi (by rfl) (fi9_F0 _ hk) (?_ : TZ d 22 9 [some (.inr k), some (.inl x1), some (.inl x2)] [.inl (Z k 6), .inl x2] Z (zri Q))
  obtain ⟨c1, c2, v1, v2⟩ := v
  refine z_if2 (t := 34) (by rfl) (by rfl) c1 c2 (fun h3 => ?_) (fun h3 => ?_)
  · have v := v1 h3; clear v1 v2
    show TZ d 22 34 [some (.inr k), some (.inl x1), some (.inl x2)] [] Z (zri Q)
    refine z0 (op := 3) (a := 1) (b := 0) (by rfl) (by rfl) (?_ : TZ d 22 35 [some (.inr k), some (.inl x1), some (.inl x2)] [.inl x1] Z (zri Q))
    refine z0 (op := 1) (a := 0) (b := 12) (by rfl) (by rfl) (?_ : TZ d 22 37 [some (.inr k), some (.inl x1), some (.inl x2)] [.inl 12, .inl x1] Z (zri Q))
    obtain ⟨c4, v⟩ := v
    refine z_rem (by rfl) c4 (by decide) (?_ : TZ d 22 38 [some (.inr k), some (.inl x1), some (.inl x2)] [.inl (Int.tmod x1 12)] Z (zri Q))
    exact z_reti (by rfl) (by rfl) v
  · have v := v2 h3; clear v1 v2
    show TZ d 22 12 [some (.inr k), some (.inl x1), some (.inl x2)] [] Z (zri Q)
    refine z0 (op := 3) (a := 1) (b := 0) (by rfl) (by rfl) (?_ : TZ d 22 13 [some (.inr k), some (.inl x1), some (.inl x2)] [.inl x1] Z (zri Q))
    refine z0 (op := 5) (a := 0) (b := 0) (by rfl) (by rfl) (?_ : TZ d 22 14 [some (.inr k), some (.inl x1), some (.inl x2)] [.inr k, .inl x1] Z (zri Q))
    refine z_fr (by rfl) (fr8_F0 _ hk) (?_ : TZ d 22 17 [some (.inr k), some (.inl x1), some (.inl x2)] [.inr (k + 5), .inl x1] Z (zri Q))
    refine z0 (op := 3) (a := 2) (b := 0) (by rfl) (by rfl) (?_ : TZ d 22 18 [some (.inr k), some (.inl x1), some (.inl x2)] [.inl x2, .inr (k + 5), .inl x1] Z (zri Q))
    obtain ⟨c5, v⟩ := v
    refine z_al (by rfl) (ln_F5 _ hk) c5 (?_ : TZ d 22 19 [some (.inr k), some (.inl x1), some (.inl x2)] [.inl (Z (k + 5) x2), .inl x1] Z (zri Q))
    refine z0 (op := 5) (a := 0) (b := 0) (by rfl) (by rfl) (?_ : TZ d 22 20 [some (.inr k), some (.inl x1), some (.inl x2)] [.inr k, .inl (Z (k + 5) x2), .inl x1] Z (zri Q))
    refine z_fr (by rfl) (fr7_F0 _ hk) (?_ : TZ d 22 23 [some (.inr k), some (.inl x1), some (.inl x2)] [.inr (k + 4), .inl (Z (k + 5) x2), .inl x1] Z (zri Q))
    refine z0 (op := 3) (a := 2) (b := 0) (by rfl) (by rfl) (?_ : TZ d 22 24 [some (.inr k), some (.inl x1), some (.inl x2)] [.inl x2, .inr (k + 4), .inl (Z (k + 5) x2), .inl x1] Z (zri Q))
    obtain ⟨c6, v⟩ := v
    refine z_al (by rfl) (ln_F4 _ hk) c6 (?_ : TZ d 22 25 [some (.inr k), some (.inl x1), some (.inl x2)] [.inl (Z (k + 4) x2), .inl (Z (k + 5) x2), .inl x1] Z (zri Q))
    refine z0 (op := 12) (a := 2) (b := 0) (by rfl) (by rfl) (?_ : TZ d 22 26 [some (.inr k), some (.inl x1), some (.inl x2)] [.inl ((Z (k + 5) x2) * (Z (k + 4) x2)), .inl x1] Z (zri Q))
    refine z0 (op := 12) (a := 0) (b := 0) (by rfl) (by rfl) (?_ : TZ d 22 27 [some (.inr k), some (.inl x1), some (.inl x2)] [.inl (x1 + ((Z (k + 5) x2) * (Z (k + 4) x2)))] Z (zri Q))
    refine z0 (op := 7) (a := 1) (b := 0) (by rfl) (by rfl) (?_ : TZ d 22 28 [some (.inr k), some (.inl (x1 + ((Z (k + 5) x2) * (Z (k + 4) x2)))), some (.inl x2)] [] Z (zri Q))
    refine z0 (op := 11) (a := 2) (b := 1) (by rfl) (by rfl) (?_ : TZ d 22 31 [some (.inr k), some (.inl (x1 + ((Z (k + 5) x2) * (Z (k + 4) x2)))), some (.inl (x2 + 1))] [] Z (zri Q))
    refine z_goto (t := 4) (by rfl) (by rfl) (?_ : TZ d 22 4 [some (.inr k), some (.inl (x1 + ((Z (k + 5) x2) * (Z (k + 4) x2)))), some (.inl (x2 + 1))] [] Z (zri Q))
    exact v
theorem w25_0 {d : Nat} {k : Nat} {x1 : Int} {Z : zM} {Q : Int → zM → Prop} (hk : k ∈ zFl)
    (v : TZ d 25 4 [some (.inr k), some (.inl x1), some (.inl 0), some (.inl 0), none] [] Z (zri Q)) :
    TZ d 25 0 [some (.inr k), some (.inl x1), none, none, none] [] Z (zri Q) := by
  refine z0 (op := 0) (a := 0) (b := 0) (by rfl) (by rfl) (?_ : TZ d 25 1 [some (.inr k), some (.inl x1), none, none, none] [.inl 0] Z (zri Q))
  refine z0 (op := 7) (a := 2) (b := 0) (by rfl) (by rfl) (?_ : TZ d 25 2 [some (.inr k), some (.inl x1), some (.inl 0), none, none] [] Z (zri Q))
  refine z0 (op := 0) (a := 0) (b := 0) (by rfl) (by rfl) (?_ : TZ d 25 3 [some (.inr k), some (.inl x1), some (.inl 0), none, none] [.inl 0] Z (zri Q))
  refine z0 (op := 7) (a := 3) (b := 0) (by rfl) (by rfl) (?_ : TZ d 25 4 [some (.inr k), some (.inl x1), some (.inl 0), some (.inl 0), none] [] Z (zri Q))
  exact v
theorem w25_4 {d : Nat} {k : Nat} {x1 x2 x3 : Int} {o4 : Option zV} {Z : zM} {Q : Int → zM → Prop} (hk : k ∈ zFl)
    (v : zR x3 ∧
      zR (Z k 5) ∧
      ((Z k 5) ≤ x3 → ∀ Z4, Z4 = zup Z k 7 ((Z k 7) + 1) →
          Q x2 Z4) ∧
      (¬ (Z k 5) ≤ x3 → TI d 26 [.inr k, .inl x3, .inl x1] Z (fun r6 Z5 =>
          (0 ≤ x3 ∧ x3 < 8) ∧
            zR r6 ∧
            zR (Z5 (k + 3) x3) ∧
            (r6 = (Z5 (k + 3) x3) → TZ (d + 1) 25 4 [some (.inr k), some (.inl x1), some (.inl x2), some (.inl (x3 + 1)), some (.inl r6)] [] Z5 (zri Q)) ∧
            (¬ r6 = (Z5 (k + 3) x3) → TI d 17 [.inr k, .inl r6] Z5 (fun r12 Z11 =>
                zR r12 ∧
                  (r12 = 0 → TZ (d + 1) 25 4 [some (.inr k), some (.inl x1), some (.inl x2), some (.inl (x3 + 1)), some (.inl r6)] [] Z11 (zri Q)) ∧
                  (¬ r12 = 0 → TV d 20 [.inr k, .inl x3, .inl r6] Z11 (fun Z15 =>
                      TZ (d + 1) 25 4 [some (.inr k), some (.inl x1), some (.inl (zbit 4 x2 (zbit 6 1 x3))), some (.inl (x3 + 1)), some (.inl r6)] [] Z15 (zri Q)))))))) :
    TZ (d + 1) 25 4 [some (.inr k), some (.inl x1), some (.inl x2), some (.inl x3), o4] [] Z (zri Q) := by
  refine z0 (op := 3) (a := 3) (b := 0) (by rfl) (by rfl) (?_ : TZ (d + 1) 25 5 [some (.inr k), some (.inl x1), some (.inl x2), some (.inl x3), o4] [.inl x3] Z (zri Q))
  refine z0 (op := 5) (a := 0) (b := 0) (by rfl) (by rfl) (?_ : TZ (d + 1) 25 6 [some (.inr k), some (.inl x1), some (.inl x2), some (.inl x3), o4] [.inr k, .inl x3] Z (zri Q))
  refine z_fi (by rfl) (fi10_F0 _ hk) (?_ : TZ (d + 1) 25 9 [some (.inr k), some (.inl x1), some (.inl x2), some (.inl x3), o4] [.inl (Z k 5), .inl x3] Z (zri Q))
  obtain ⟨c1, c2, v1, v2⟩ := v
  refine z_if2 (t := 59) (by rfl) (by rfl) c1 c2 (fun h3 => ?_) (fun h3 => ?_)
  · have v := v1 h3; clear v1 v2
    show TZ (d + 1) 25 59 [some (.inr k), some (.inl x1), some (.inl x2), some (.inl x3), o4] [] Z (zri Q)
    refine z0 (op := 5) (a := 0) (b := 0) (by rfl) (by rfl) (?_ : TZ (d + 1) 25 60 [some (.inr k), some (.inl x1), some (.inl x2), some (.inl x3), o4] [.inr k] Z (zri Q))
    refine z0 (op := 15) (a := 0) (b := 0) (by rfl) (by rfl) (?_ : TZ (d + 1) 25 61 [some (.inr k), some (.inl x1), some (.inl x2), some (.inl x3), o4] [.inr k, .inr k] Z (zri Q))
    refine z_fi (by rfl) (fi11_F0 _ hk) (?_ : TZ (d + 1) 25 64 [some (.inr k), some (.inl x1), some (.inl x2), some (.inl x3), o4] [.inl (Z k 7), .inr k] Z (zri Q))
    refine z0 (op := 0) (a := 0) (b := 1) (by rfl) (by rfl) (?_ : TZ (d + 1) 25 65 [some (.inr k), some (.inl x1), some (.inl x2), some (.inl x3), o4] [.inl 1, .inl (Z k 7), .inr k] Z (zri Q))
    refine z0 (op := 12) (a := 0) (b := 0) (by rfl) (by rfl) (?_ : TZ (d + 1) 25 66 [some (.inr k), some (.inl x1), some (.inl x2), some (.inl x3), o4] [.inl ((Z k 7) + 1), .inr k] Z (zri Q))
    obtain ⟨Z4, eZ4⟩ : ∃ q, q = zup Z k 7 ((Z k 7) + 1) := ⟨_, rfl⟩
    have v := v Z4 eZ4
    refine z_pf (by rfl) (pf11_F0 _ hk) (fun h => nomatch h) ?_
    show TZ (d + 1) 25 69 [some (.inr k), some (.inl x1), some (.inl x2), some (.inl x3), o4] [] (zup Z k 7 ((Z k 7) + 1)) _
    rw [← eZ4]
    refine z0 (op := 3) (a := 2) (b := 0) (by rfl) (by rfl) (?_ : TZ (d + 1) 25 70 [some (.inr k), some (.inl x1), some (.inl x2), some (.inl x3), o4] [.inl x2] Z4 (zri Q))
    exact z_reti (by rfl) (by rfl) v
  · have v := v2 h3; clear v1 v2
    show TZ (d + 1) 25 12 [some (.inr k), some (.inl x1), some (.inl x2), some (.inl x3), o4] [] Z (zri Q)
    refine z0 (op := 5) (a := 0) (b := 0) (by rfl) (by rfl) (?_ : TZ (d + 1) 25 13 [some (.inr k), some (.inl x1), some (.inl x2), some (.inl x3), o4] [.inr k] Z (zri Q))
    refine z0 (op := 3) (a := 3) (b := 0) (by rfl) (by rfl) (?_ : TZ (d + 1) 25 14 [some (.inr k), some (.inl x1), some (.inl x2), some (.inl x3), o4] [.inl x3, .inr k] Z (zri Q))
    refine z0 (op := 3) (a := 1) (b := 0) (by rfl) (by rfl) (?_ : TZ (d + 1) 25 15 [some (.inr k), some (.inl x1), some (.inl x2), some (.inl x3), o4] [.inl x1, .inl x3, .inr k] Z (zri Q))
    refine z_vi (by rfl) (by rfl) (cl_F0 _ hk) (TI.mono v fun r6 Z5 v => ?_)
    show TZ (d + 1) 25 18 [some (.inr k), some (.inl x1), some (.inl x2), some (.inl x3), o4] [.inl r6] Z5 (zri Q)
    refine z0 (op := 8) (a := 4) (b := 0) (by rfl) (by rfl) (?_ : TZ (d + 1) 25 20 [some (.inr k), some (.inl x1), some (.inl x2), some (.inl x3), some (.inl r6)] [] Z5 (zri Q))
    refine z0 (op := 4) (a := 4) (b := 0) (by rfl) (by rfl) (?_ : TZ (d + 1) 25 22 [some (.inr k), some (.inl x1), some (.inl x2), some (.inl x3), some (.inl r6)] [.inl r6] Z5 (zri Q))
    refine z0 (op := 5) (a := 0) (b := 0) (by rfl) (by rfl) (?_ : TZ (d + 1) 25 23 [some (.inr k), some (.inl x1), some (.inl x2), some (.inl x3), some (.inl r6)] [.inr k, .inl r6] Z5 (zri Q))
    refine z_fr (by rfl) (fr6_F0 _ hk) (?_ : TZ (d + 1) 25 26 [some (.inr k), some (.inl x1), some (.inl x2), some (.inl x3), some (.inl r6)] [.inr (k + 3), .inl r6] Z5 (zri Q))
    refine z0 (op := 3) (a := 3) (b := 0) (by rfl) (by rfl) (?_ : TZ (d + 1) 25 27 [some (.inr k), some (.inl x1), some (.inl x2), some (.inl x3), some (.inl r6)] [.inl x3, .inr (k + 3), .inl r6] Z5 (zri Q))
    obtain ⟨c7, v⟩ := v
    refine z_al (by rfl) (ln_F3 _ hk) c7 (?_ : TZ (d + 1) 25 28 [some (.inr k), some (.inl x1), some (.inl x2), some (.inl x3), some (.inl r6)] [.inl (Z5 (k + 3) x3), .inl r6] Z5 (zri Q))
    obtain ⟨c8, c9, v1, v2⟩ := v
    refine z_if2 (t := 53) (by rfl) (by rfl) c8 c9 (fun h10 => ?_) (fun h10 => ?_)
    · have v := v1 h10; clear v1 v2
      show TZ (d + 1) 25 53 [some (.inr k), some (.inl x1), some (.inl x2), some (.inl x3), some (.inl r6)] [] Z5 (zri Q)
      refine z0 (op := 11) (a := 3) (b := 1) (by rfl) (by rfl) (?_ : TZ (d + 1) 25 56 [some (.inr k), some (.inl x1), some (.inl x2), some (.inl (x3 + 1)), some (.inl r6)] [] Z5 (zri Q))
      refine z_goto (t := 4) (by rfl) (by rfl) (?_ : TZ (d + 1) 25 4 [some (.inr k), some (.inl x1), some (.inl x2), some (.inl (x3 + 1)), some (.inl r6)] [] Z5 (zri Q))
      exact v
    · have v := v2 h10; clear v1 v2
      show TZ (d + 1) 25 31 [some (.inr k), some (.inl x1), some (.inl x2), some (.inl x3), some (.inl r6)] [] Z5 (zri Q)
      refine z0 (op := 5) (a := 0) (b := 0) (by rfl) (by rfl) (?_ : TZ (d + 1) 25 32 [some (.inr k), some (.inl x1), some (.inl x2), some (.inl x3), some (.inl r6)] [.inr k] Z5 (zri Q))
      refine z0 (op := 4) (a := 4) (b := 0) (by rfl) (by rfl) (?_ : TZ (d + 1) 25 34 [some (.inr k), some (.inl x1), some (.inl x2), some (.inl x3), some (.inl r6)] [.inl r6, .inr k] Z5 (zri Q))
      refine z_vi (by rfl) (by rfl) (cl_F0 _ hk) (TI.mono v fun r12 Z11 v => ?_)
      show TZ (d + 1) 25 37 [some (.inr k), some (.inl x1), some (.inl x2), some (.inl x3), some (.inl r6)] [.inl r12] Z11 (zri Q)
      obtain ⟨c13, v1, v2⟩ := v
      refine z_if0 (t := 53) (by rfl) (by rfl) c13 (fun h14 => ?_) (fun h14 => ?_)
      · have v := v1 h14; clear v1 v2
        show TZ (d + 1) 25 53 [some (.inr k), some (.inl x1), some (.inl x2), some (.inl x3), some (.inl r6)] [] Z11 (zri Q)
        refine z0 (op := 11) (a := 3) (b := 1) (by rfl) (by rfl) (?_ : TZ (d + 1) 25 56 [some (.inr k), some (.inl x1), some (.inl x2), some (.inl (x3 + 1)), some (.inl r6)] [] Z11 (zri Q))
        refine z_goto (t := 4) (by rfl) (by rfl) (?_ : TZ (d + 1) 25 4 [some (.inr k), some (.inl x1), some (.inl x2), some (.inl (x3 + 1)), some (.inl r6)] [] Z11 (zri Q))
        exact v
      · have v := v2 h14; clear v1 v2
        show TZ (d + 1) 25 40 [some (.inr k), some (.inl x1), some (.inl x2), some (.inl x3), some (.inl r6)] [] Z11 (zri Q)
        refine z0 (op := 5) (a := 0) (b := 0) (by rfl) (by rfl) (?_ : TZ (d + 1) 25 41 [some (.inr k), some (.inl x1), some (.inl x2), some (.inl x3), some (.inl r6)] [.inr k] Z11 (zri Q))
        refine z0 (op := 3) (a := 3) (b := 0) (by rfl) (by rfl) (?_ : TZ (d + 1) 25 42 [some (.inr k), some (.inl x1), some (.inl x2), some (.inl x3), some (.inl r6)] [.inl x3, .inr k] Z11 (zri Q))
        refine z0 (op := 4) (a := 4) (b := 0) (by rfl) (by rfl) (?_ : TZ (d + 1) 25 44 [some (.inr k), some (.inl x1), some (.inl x2), some (.inl x3), some (.inl r6)] [.inl r6, .inl x3, .inr k] Z11 (zri Q))
        refine z_vv (by rfl) (by rfl) (cl_F0 _ hk) (TV.mono v fun Z15 v => ?_)
        show TZ (d + 1) 25 47 [some (.inr k), some (.inl x1), some (.inl x2), some (.inl x3), some (.inl r6)] [] Z15 (zri Q)
        refine z0 (op := 3) (a := 2) (b := 0) (by rfl) (by rfl) (?_ : TZ (d + 1) 25 48 [some (.inr k), some (.inl x1), some (.inl x2), some (.inl x3), some (.inl r6)] [.inl x2] Z15 (zri Q))
        refine z0 (op := 0) (a := 0) (b := 1) (by rfl) (by rfl) (?_ : TZ (d + 1) 25 49 [some (.inr k), some (.inl x1), some (.inl x2), some (.inl x3), some (.inl r6)] [.inl 1, .inl x2] Z15 (zri Q))
        refine z0 (op := 3) (a := 3) (b := 0) (by rfl) (by rfl) (?_ : TZ (d + 1) 25 50 [some (.inr k), some (.inl x1), some (.inl x2), some (.inl x3), some (.inl r6)] [.inl x3, .inl 1, .inl x2] Z15 (zri Q))
        refine z0 (op := 12) (a := 6) (b := 0) (by rfl) (by rfl) (?_ : TZ (d + 1) 25 51 [some (.inr k), some (.inl x1), some (.inl x2), some (.inl x3), some (.inl r6)] [.inl (zbit 6 1 x3), .inl x2] Z15 (zri Q))
        refine z0 (op := 12) (a := 4) (b := 0) (by rfl) (by rfl) (?_ : TZ (d + 1) 25 52 [some (.inr k), some (.inl x1), some (.inl x2), some (.inl x3), some (.inl r6)] [.inl (zbit 4 x2 (zbit 6 1 x3))] Z15 (zri Q))
        refine z0 (op := 7) (a := 2) (b := 0) (by rfl) (by rfl) (?_ : TZ (d + 1) 25 53 [some (.inr k), some (.inl x1), some (.inl (zbit 4 x2 (zbit 6 1 x3))), some (.inl x3), some (.inl r6)] [] Z15 (zri Q))
        refine z0 (op := 11) (a := 3) (b := 1) (by rfl) (by rfl) (?_ : TZ (d + 1) 25 56 [some (.inr k), some (.inl x1), some (.inl (zbit 4 x2 (zbit 6 1 x3))), some (.inl (x3 + 1)), some (.inl r6)] [] Z15 (zri Q))
        refine z_goto (t := 4) (by rfl) (by rfl) (?_ : TZ (d + 1) 25 4 [some (.inr k), some (.inl x1), some (.inl (zbit 4 x2 (zbit 6 1 x3))), some (.inl (x3 + 1)), some (.inl r6)] [] Z15 (zri Q))
        exact v
theorem w26_0 {d : Nat} {k : Nat} {x1 x2 : Int} {Z : zM} {Q : Int → zM → Prop} (hk : k ∈ zFl)
    (v : (0 ≤ x1 ∧ x1 < 8) ∧
      TI d 27 [.inl (Z (k + 3) x1), .inl x2] Z (fun r3 Z2 =>
      (0 ≤ x1 ∧ x1 < 8) ∧
        zR (Z2 (k + 1) x1) ∧
        ((Z2 (k + 1) x1) = 1 → TI d 28 [.inr k, .inl x1, .inl r3] Z2 (fun r7 Z6 =>
            Q r7 Z6)) ∧
        ((Z2 (k + 1) x1) = 2 → TI d 29 [.inl (Z (k + 3) x1), .inl x2, .inl r3] Z2 (fun r9 Z8 =>
            Q r9 Z8)) ∧
        ((Z2 (k + 1) x1) = 3 → TI d 30 [.inr k, .inl x1, .inl x2] Z2 (fun r11 Z10 =>
            zR r11 ∧
              (r11 = 0 → TI d 28 [.inr k, .inl x1, .inl r3] Z10 (fun r15 Z14 =>
                  Q r15 Z14)) ∧
              (¬ r11 = 0 → Q x2 Z10))) ∧
        ((Z2 (k + 1) x1) = 4 → ((0 ≤ (Z (k + 3) x1) ∧ (Z (k + 3) x1) < 6) ∧
            zR (Z2 (k + 4) (Z (k + 3) x1)) ∧
            ((Z2 (k + 4) (Z (k + 3) x1)) ≠ 1 → TI d 29 [.inl (Z (k + 3) x1), .inl x2, .inl r3] Z2 (fun r20 Z19 =>
                Q r20 Z19)) ∧
            (¬ (Z2 (k + 4) (Z (k + 3) x1)) ≠ 1 → Q r3 Z2))) ∧
        ((Z2 (k + 1) x1) = 5 → TI d 29 [.inl (Z (k + 3) x1), .inl x2, .inl r3] Z2 (fun r22 Z21 =>
            (0 ≤ x1 ∧ x1 < 8) ∧
              zR (Z21 (k + 2) x1) ∧
              zR r22 ∧
              zR (Int.tdiv (Z21 (k + 2) x1) 3) ∧ Q (min r22 (Int.tdiv (Z21 (k + 2) x1) 3)) Z21)) ∧
        (((Z2 (k + 1) x1) ≠ 1 ∧ (Z2 (k + 1) x1) ≠ 2 ∧ (Z2 (k + 1) x1) ≠ 3 ∧ (Z2 (k + 1) x1) ≠ 4 ∧ (Z2 (k + 1) x1) ≠ 5) → Q r3 Z2))) :
    TZ (d + 1) 26 0 [some (.inr k), some (.inl x1), some (.inl x2), none, none] [] Z (zri Q) := by
  refine z0 (op := 5) (a := 0) (b := 0) (by rfl) (by rfl) (?_ : TZ (d + 1) 26 1 [some (.inr k), some (.inl x1), some (.inl x2), none, none] [.inr k] Z (zri Q))
  refine z_fr (by rfl) (fr6_F0 _ hk) (?_ : TZ (d + 1) 26 4 [some (.inr k), some (.inl x1), some (.inl x2), none, none] [.inr (k + 3)] Z (zri Q))
  refine z0 (op := 3) (a := 1) (b := 0) (by rfl) (by rfl) (?_ : TZ (d + 1) 26 5 [some (.inr k), some (.inl x1), some (.inl x2), none, none] [.inl x1, .inr (k + 3)] Z (zri Q))
  obtain ⟨c1, v⟩ := v
  refine z_al (by rfl) (ln_F3 _ hk) c1 (?_ : TZ (d + 1) 26 6 [some (.inr k), some (.inl x1), some (.inl x2), none, none] [.inl (Z (k + 3) x1)] Z (zri Q))
  refine z0 (op := 7) (a := 3) (b := 0) (by rfl) (by rfl) (?_ : TZ (d + 1) 26 7 [some (.inr k), some (.inl x1), some (.inl x2), some (.inl (Z (k + 3) x1)), none] [] Z (zri Q))
  refine z0 (op := 3) (a := 3) (b := 0) (by rfl) (by rfl) (?_ : TZ (d + 1) 26 8 [some (.inr k), some (.inl x1), some (.inl x2), some (.inl (Z (k + 3) x1)), none] [.inl (Z (k + 3) x1)] Z (zri Q))
  refine z0 (op := 3) (a := 2) (b := 0) (by rfl) (by rfl) (?_ : TZ (d + 1) 26 9 [some (.inr k), some (.inl x1), some (.inl x2), some (.inl (Z (k + 3) x1)), none] [.inl x2, .inl (Z (k + 3) x1)] Z (zri Q))
  refine z_si (by rfl) (by rfl) (TI.mono v fun r3 Z2 v => ?_)
  show TZ (d + 1) 26 12 [some (.inr k), some (.inl x1), some (.inl x2), some (.inl (Z (k + 3) x1)), none] [.inl r3] Z2 (zri Q)
  refine z0 (op := 8) (a := 4) (b := 0) (by rfl) (by rfl) (?_ : TZ (d + 1) 26 14 [some (.inr k), some (.inl x1), some (.inl x2), some (.inl (Z (k + 3) x1)), some (.inl r3)] [] Z2 (zri Q))
  refine z0 (op := 5) (a := 0) (b := 0) (by rfl) (by rfl) (?_ : TZ (d + 1) 26 15 [some (.inr k), some (.inl x1), some (.inl x2), some (.inl (Z (k + 3) x1)), some (.inl r3)] [.inr k] Z2 (zri Q))
  refine z_fr (by rfl) (fr4_F0 _ hk) (?_ : TZ (d + 1) 26 18 [some (.inr k), some (.inl x1), some (.inl x2), some (.inl (Z (k + 3) x1)), some (.inl r3)] [.inr (k + 1)] Z2 (zri Q))
  refine z0 (op := 3) (a := 1) (b := 0) (by rfl) (by rfl) (?_ : TZ (d + 1) 26 19 [some (.inr k), some (.inl x1), some (.inl x2), some (.inl (Z (k + 3) x1)), some (.inl r3)] [.inl x1, .inr (k + 1)] Z2 (zri Q))
  obtain ⟨c4, v⟩ := v
  refine z_al (by rfl) (ln_F1 _ hk) c4 (?_ : TZ (d + 1) 26 20 [some (.inr k), some (.inl x1), some (.inl x2), some (.inl (Z (k + 3) x1)), some (.inl r3)] [.inl (Z2 (k + 1) x1)] Z2 (zri Q))
  obtain ⟨c5, v⟩ := v
  obtain ⟨w0, w1, w2, w3, w4, w5⟩ := v
  have hd : (Z2 (k + 1) x1) ≠ 1 ∧ (Z2 (k + 1) x1) ≠ 2 ∧ (Z2 (k + 1) x1) ≠ 3 ∧ (Z2 (k + 1) x1) ≠ 4 ∧ (Z2 (k + 1) x1) ≠ 5 → TZ (d + 1) 26 135 [some (.inr k), some (.inl x1), some (.inl x2), some (.inl (Z (k + 3) x1)), some (.inl r3)] [] Z2 (zri Q) := fun hh => by
    have v := w5 hh; clear w0 w1 w2 w3 w4 w5
    refine z0 (op := 4) (a := 4) (b := 0) (by rfl) (by rfl) (?_ : TZ (d + 1) 26 137 [some (.inr k), some (.inl x1), some (.inl x2), some (.inl (Z (k + 3) x1)), some (.inl r3)] [.inl r3] Z2 (zri Q))
    exact z_reti (by rfl) (by rfl) v
  have hc0 : (Z2 (k + 1) x1) = 1 → TZ (d + 1) 26 56 [some (.inr k), some (.inl x1), some (.inl x2), some (.inl (Z (k + 3) x1)), some (.inl r3)] [] Z2 (zri Q) := fun hh => by
    have v := w0 hh; clear w0 w1 w2 w3 w4 w5 hd
    refine z0 (op := 5) (a := 0) (b := 0) (by rfl) (by rfl) (?_ : TZ (d + 1) 26 57 [some (.inr k), some (.inl x1), some (.inl x2), some (.inl (Z (k + 3) x1)), some (.inl r3)] [.inr k] Z2 (zri Q))
    refine z0 (op := 3) (a := 1) (b := 0) (by rfl) (by rfl) (?_ : TZ (d + 1) 26 58 [some (.inr k), some (.inl x1), some (.inl x2), some (.inl (Z (k + 3) x1)), some (.inl r3)] [.inl x1, .inr k] Z2 (zri Q))
    refine z0 (op := 4) (a := 4) (b := 0) (by rfl) (by rfl) (?_ : TZ (d + 1) 26 60 [some (.inr k), some (.inl x1), some (.inl x2), some (.inl (Z (k + 3) x1)), some (.inl r3)] [.inl r3, .inl x1, .inr k] Z2 (zri Q))
    refine z_vi (by rfl) (by rfl) (cl_F0 _ hk) (TI.mono v fun r7 Z6 v => ?_)
    show TZ (d + 1) 26 63 [some (.inr k), some (.inl x1), some (.inl x2), some (.inl (Z (k + 3) x1)), some (.inl r3)] [.inl r7] Z6 (zri Q)
    exact z_reti (by rfl) (by rfl) v
  have hc1 : (Z2 (k + 1) x1) = 2 → TZ (d + 1) 26 64 [some (.inr k), some (.inl x1), some (.inl x2), some (.inl (Z (k + 3) x1)), some (.inl r3)] [] Z2 (zri Q) := fun hh => by
    have v := w1 hh; clear w0 w1 w2 w3 w4 w5 hd hc0
    refine z0 (op := 3) (a := 3) (b := 0) (by rfl) (by rfl) (?_ : TZ (d + 1) 26 65 [some (.inr k), some (.inl x1), some (.inl x2), some (.inl (Z (k + 3) x1)), some (.inl r3)] [.inl (Z (k + 3) x1)] Z2 (zri Q))
    refine z0 (op := 3) (a := 2) (b := 0) (by rfl) (by rfl) (?_ : TZ (d + 1) 26 66 [some (.inr k), some (.inl x1), some (.inl x2), some (.inl (Z (k + 3) x1)), some (.inl r3)] [.inl x2, .inl (Z (k + 3) x1)] Z2 (zri Q))
    refine z0 (op := 4) (a := 4) (b := 0) (by rfl) (by rfl) (?_ : TZ (d + 1) 26 68 [some (.inr k), some (.inl x1), some (.inl x2), some (.inl (Z (k + 3) x1)), some (.inl r3)] [.inl r3, .inl x2, .inl (Z (k + 3) x1)] Z2 (zri Q))
    refine z_si (by rfl) (by rfl) (TI.mono v fun r9 Z8 v => ?_)
    show TZ (d + 1) 26 71 [some (.inr k), some (.inl x1), some (.inl x2), some (.inl (Z (k + 3) x1)), some (.inl r3)] [.inl r9] Z8 (zri Q)
    exact z_reti (by rfl) (by rfl) v
  have hc2 : (Z2 (k + 1) x1) = 3 → TZ (d + 1) 26 72 [some (.inr k), some (.inl x1), some (.inl x2), some (.inl (Z (k + 3) x1)), some (.inl r3)] [] Z2 (zri Q) := fun hh => by
    have v := w2 hh; clear w0 w1 w2 w3 w4 w5 hd hc0 hc1
    refine z0 (op := 5) (a := 0) (b := 0) (by rfl) (by rfl) (?_ : TZ (d + 1) 26 73 [some (.inr k), some (.inl x1), some (.inl x2), some (.inl (Z (k + 3) x1)), some (.inl r3)] [.inr k] Z2 (zri Q))
    refine z0 (op := 3) (a := 1) (b := 0) (by rfl) (by rfl) (?_ : TZ (d + 1) 26 74 [some (.inr k), some (.inl x1), some (.inl x2), some (.inl (Z (k + 3) x1)), some (.inl r3)] [.inl x1, .inr k] Z2 (zri Q))
    refine z0 (op := 3) (a := 2) (b := 0) (by rfl) (by rfl) (?_ : TZ (d + 1) 26 75 [some (.inr k), some (.inl x1), some (.inl x2), some (.inl (Z (k + 3) x1)), some (.inl r3)] [.inl x2, .inl x1, .inr k] Z2 (zri Q))
    refine z_vi (by rfl) (by rfl) (cl_F0 _ hk) (TI.mono v fun r11 Z10 v => ?_)
    show TZ (d + 1) 26 78 [some (.inr k), some (.inl x1), some (.inl x2), some (.inl (Z (k + 3) x1)), some (.inl r3)] [.inl r11] Z10 (zri Q)
    obtain ⟨c12, v1, v2⟩ := v
    refine z_if0 (t := 85) (by rfl) (by rfl) c12 (fun h13 => ?_) (fun h13 => ?_)
    · have v := v1 h13; clear v1 v2
      show TZ (d + 1) 26 85 [some (.inr k), some (.inl x1), some (.inl x2), some (.inl (Z (k + 3) x1)), some (.inl r3)] [] Z10 (zri Q)
      refine z0 (op := 5) (a := 0) (b := 0) (by rfl) (by rfl) (?_ : TZ (d + 1) 26 86 [some (.inr k), some (.inl x1), some (.inl x2), some (.inl (Z (k + 3) x1)), some (.inl r3)] [.inr k] Z10 (zri Q))
      refine z0 (op := 3) (a := 1) (b := 0) (by rfl) (by rfl) (?_ : TZ (d + 1) 26 87 [some (.inr k), some (.inl x1), some (.inl x2), some (.inl (Z (k + 3) x1)), some (.inl r3)] [.inl x1, .inr k] Z10 (zri Q))
      refine z0 (op := 4) (a := 4) (b := 0) (by rfl) (by rfl) (?_ : TZ (d + 1) 26 89 [some (.inr k), some (.inl x1), some (.inl x2), some (.inl (Z (k + 3) x1)), some (.inl r3)] [.inl r3, .inl x1, .inr k] Z10 (zri Q))
      refine z_vi (by rfl) (by rfl) (cl_F0 _ hk) (TI.mono v fun r15 Z14 v => ?_)
      show TZ (d + 1) 26 92 [some (.inr k), some (.inl x1), some (.inl x2), some (.inl (Z (k + 3) x1)), some (.inl r3)] [.inl r15] Z14 (zri Q)
      exact z_reti (by rfl) (by rfl) v
    · have v := v2 h13; clear v1 v2
      show TZ (d + 1) 26 81 [some (.inr k), some (.inl x1), some (.inl x2), some (.inl (Z (k + 3) x1)), some (.inl r3)] [] Z10 (zri Q)
      refine z0 (op := 3) (a := 2) (b := 0) (by rfl) (by rfl) (?_ : TZ (d + 1) 26 82 [some (.inr k), some (.inl x1), some (.inl x2), some (.inl (Z (k + 3) x1)), some (.inl r3)] [.inl x2] Z10 (zri Q))
      refine z_goto (t := 92) (by rfl) (by rfl) (?_ : TZ (d + 1) 26 92 [some (.inr k), some (.inl x1), some (.inl x2), some (.inl (Z (k + 3) x1)), some (.inl r3)] [.inl x2] Z10 (zri Q))
      exact z_reti (by rfl) (by rfl) v
  have hc3 : (Z2 (k + 1) x1) = 4 → TZ (d + 1) 26 93 [some (.inr k), some (.inl x1), some (.inl x2), some (.inl (Z (k + 3) x1)), some (.inl r3)] [] Z2 (zri Q) := fun hh => by
    have v := w3 hh; clear w0 w1 w2 w3 w4 w5 hd hc0 hc1 hc2
    refine z0 (op := 5) (a := 0) (b := 0) (by rfl) (by rfl) (?_ : TZ (d + 1) 26 94 [some (.inr k), some (.inl x1), some (.inl x2), some (.inl (Z (k + 3) x1)), some (.inl r3)] [.inr k] Z2 (zri Q))
    refine z_fr (by rfl) (fr7_F0 _ hk) (?_ : TZ (d + 1) 26 97 [some (.inr k), some (.inl x1), some (.inl x2), some (.inl (Z (k + 3) x1)), some (.inl r3)] [.inr (k + 4)] Z2 (zri Q))
    refine z0 (op := 3) (a := 3) (b := 0) (by rfl) (by rfl) (?_ : TZ (d + 1) 26 98 [some (.inr k), some (.inl x1), some (.inl x2), some (.inl (Z (k + 3) x1)), some (.inl r3)] [.inl (Z (k + 3) x1), .inr (k + 4)] Z2 (zri Q))
    obtain ⟨c16, v⟩ := v
    refine z_al (by rfl) (ln_F4 _ hk) c16 (?_ : TZ (d + 1) 26 99 [some (.inr k), some (.inl x1), some (.inl x2), some (.inl (Z (k + 3) x1)), some (.inl r3)] [.inl (Z2 (k + 4) (Z (k + 3) x1))] Z2 (zri Q))
    refine z0 (op := 0) (a := 0) (b := 1) (by rfl) (by rfl) (?_ : TZ (d + 1) 26 100 [some (.inr k), some (.inl x1), some (.inl x2), some (.inl (Z (k + 3) x1)), some (.inl r3)] [.inl 1, .inl (Z2 (k + 4) (Z (k + 3) x1))] Z2 (zri Q))
    obtain ⟨c17, v1, v2⟩ := v
    refine z_if2 (t := 108) (by rfl) (by rfl) c17 (by decide) (fun h18 => ?_) (fun h18 => ?_)
    · have v := v1 h18; clear v1 v2
      show TZ (d + 1) 26 108 [some (.inr k), some (.inl x1), some (.inl x2), some (.inl (Z (k + 3) x1)), some (.inl r3)] [] Z2 (zri Q)
      refine z0 (op := 3) (a := 3) (b := 0) (by rfl) (by rfl) (?_ : TZ (d + 1) 26 109 [some (.inr k), some (.inl x1), some (.inl x2), some (.inl (Z (k + 3) x1)), some (.inl r3)] [.inl (Z (k + 3) x1)] Z2 (zri Q))
      refine z0 (op := 3) (a := 2) (b := 0) (by rfl) (by rfl) (?_ : TZ (d + 1) 26 110 [some (.inr k), some (.inl x1), some (.inl x2), some (.inl (Z (k + 3) x1)), some (.inl r3)] [.inl x2, .inl (Z (k + 3) x1)] Z2 (zri Q))
      refine z0 (op := 4) (a := 4) (b := 0) (by rfl) (by rfl) (?_ : TZ (d + 1) 26 112 [some (.inr k), some (.inl x1), some (.inl x2), some (.inl (Z (k + 3) x1)), some (.inl r3)] [.inl r3, .inl x2, .inl (Z (k + 3) x1)] Z2 (zri Q))
      refine z_si (by rfl) (by rfl) (TI.mono v fun r20 Z19 v => ?_)
      show TZ (d + 1) 26 115 [some (.inr k), some (.inl x1), some (.inl x2), some (.inl (Z (k + 3) x1)), some (.inl r3)] [.inl r20] Z19 (zri Q)
      exact z_reti (by rfl) (by rfl) v
    · have v := v2 h18; clear v1 v2
      show TZ (d + 1) 26 103 [some (.inr k), some (.inl x1), some (.inl x2), some (.inl (Z (k + 3) x1)), some (.inl r3)] [] Z2 (zri Q)
      refine z0 (op := 4) (a := 4) (b := 0) (by rfl) (by rfl) (?_ : TZ (d + 1) 26 105 [some (.inr k), some (.inl x1), some (.inl x2), some (.inl (Z (k + 3) x1)), some (.inl r3)] [.inl r3] Z2 (zri Q))
      refine z_goto (t := 115) (by rfl) (by rfl) (?_ : TZ (d + 1) 26 115 [some (.inr k), some (.inl x1), some (.inl x2), some (.inl (Z (k + 3) x1)), some (.inl r3)] [.inl r3] Z2 (zri Q))
      exact z_reti (by rfl) (by rfl) v
  have hc4 : (Z2 (k + 1) x1) = 5 → TZ (d + 1) 26 116 [some (.inr k), some (.inl x1), some (.inl x2), some (.inl (Z (k + 3) x1)), some (.inl r3)] [] Z2 (zri Q) := fun hh => by
    have v := w4 hh; clear w0 w1 w2 w3 w4 w5 hd hc0 hc1 hc2 hc3
    refine z0 (op := 3) (a := 3) (b := 0) (by rfl) (by rfl) (?_ : TZ (d + 1) 26 117 [some (.inr k), some (.inl x1), some (.inl x2), some (.inl (Z (k + 3) x1)), some (.inl r3)] [.inl (Z (k + 3) x1)] Z2 (zri Q))
    refine z0 (op := 3) (a := 2) (b := 0) (by rfl) (by rfl) (?_ : TZ (d + 1) 26 118 [some (.inr k), some (.inl x1), some (.inl x2), some (.inl (Z (k + 3) x1)), some (.inl r3)] [.inl x2, .inl (Z (k + 3) x1)] Z2 (zri Q))
    refine z0 (op := 4) (a := 4) (b := 0) (by rfl) (by rfl) (?_ : TZ (d + 1) 26 120 [some (.inr k), some (.inl x1), some (.inl x2), some (.inl (Z (k + 3) x1)), some (.inl r3)] [.inl r3, .inl x2, .inl (Z (k + 3) x1)] Z2 (zri Q))
    refine z_si (by rfl) (by rfl) (TI.mono v fun r22 Z21 v => ?_)
    show TZ (d + 1) 26 123 [some (.inr k), some (.inl x1), some (.inl x2), some (.inl (Z (k + 3) x1)), some (.inl r3)] [.inl r22] Z21 (zri Q)
    refine z0 (op := 5) (a := 0) (b := 0) (by rfl) (by rfl) (?_ : TZ (d + 1) 26 124 [some (.inr k), some (.inl x1), some (.inl x2), some (.inl (Z (k + 3) x1)), some (.inl r3)] [.inr k, .inl r22] Z21 (zri Q))
    refine z_fr (by rfl) (fr5_F0 _ hk) (?_ : TZ (d + 1) 26 127 [some (.inr k), some (.inl x1), some (.inl x2), some (.inl (Z (k + 3) x1)), some (.inl r3)] [.inr (k + 2), .inl r22] Z21 (zri Q))
    refine z0 (op := 3) (a := 1) (b := 0) (by rfl) (by rfl) (?_ : TZ (d + 1) 26 128 [some (.inr k), some (.inl x1), some (.inl x2), some (.inl (Z (k + 3) x1)), some (.inl r3)] [.inl x1, .inr (k + 2), .inl r22] Z21 (zri Q))
    obtain ⟨c23, v⟩ := v
    refine z_al (by rfl) (ln_F2 _ hk) c23 (?_ : TZ (d + 1) 26 129 [some (.inr k), some (.inl x1), some (.inl x2), some (.inl (Z (k + 3) x1)), some (.inl r3)] [.inl (Z21 (k + 2) x1), .inl r22] Z21 (zri Q))
    refine z0 (op := 0) (a := 0) (b := 3) (by rfl) (by rfl) (?_ : TZ (d + 1) 26 130 [some (.inr k), some (.inl x1), some (.inl x2), some (.inl (Z (k + 3) x1)), some (.inl r3)] [.inl 3, .inl (Z21 (k + 2) x1), .inl r22] Z21 (zri Q))
    obtain ⟨c24, v⟩ := v
    refine z_div (by rfl) c24 (by decide) (?_ : TZ (d + 1) 26 131 [some (.inr k), some (.inl x1), some (.inl x2), some (.inl (Z (k + 3) x1)), some (.inl r3)] [.inl (Int.tdiv (Z21 (k + 2) x1) 3), .inl r22] Z21 (zri Q))
    obtain ⟨c25, c26, v⟩ := v
    refine z_min (by rfl) (by rfl) (by decide) c25 c26 (?_ : TZ (d + 1) 26 134 [some (.inr k), some (.inl x1), some (.inl x2), some (.inl (Z (k + 3) x1)), some (.inl r3)] [.inl (min r22 (Int.tdiv (Z21 (k + 2) x1) 3))] Z21 (zri Q))
    exact z_reti (by rfl) (by rfl) v
  refine z_tsw (t := 135) (by rfl) (by rfl) (by decide) (by rfl) c5 (fun n o hn hx => ?_) (fun hx => hd (by omega))
  match n, hn with
  | 0, hn => have e := Option.some.inj hn; subst e; exact ⟨56, by rfl, hc0 (by omega)⟩
  | 1, hn => have e := Option.some.inj hn; subst e; exact ⟨64, by rfl, hc1 (by omega)⟩
  | 2, hn => have e := Option.some.inj hn; subst e; exact ⟨72, by rfl, hc2 (by omega)⟩
  | 3, hn => have e := Option.some.inj hn; subst e; exact ⟨93, by rfl, hc3 (by omega)⟩
  | 4, hn => have e := Option.some.inj hn; subst e; exact ⟨116, by rfl, hc4 (by omega)⟩
  | n + 5, hn => exact absurd hn (by simp)
theorem w13_0 {d : Nat} {k k2 : Nat} {Z : zM} {Q : zM → Prop} (hk : k ∈ zFl) (hk2 : k2 ∈ zFl)
    (v : ∀ Z1, Z1 = zcpy Z (k2 + 3) (k + 3) 8 →
      ∀ Z2, Z2 = zcpy Z1 (k2 + 4) (k + 4) 6 →
      ∀ Z3, Z3 = zup Z2 k 7 (Z2 k2 7) →
      Q Z3) :
    TZ (d + 1) 13 0 [some (.inr k), some (.inr k2)] [] Z (zrv Q) := by
  refine z0 (op := 5) (a := 1) (b := 0) (by rfl) (by rfl) (?_ : TZ (d + 1) 13 1 [some (.inr k), some (.inr k2)] [.inr k2] Z (zrv Q))
  refine z_fr (by rfl) (fr6_F0 _ hk2) (?_ : TZ (d + 1) 13 4 [some (.inr k), some (.inr k2)] [.inr (k2 + 3)] Z (zrv Q))
  refine z0 (op := 0) (a := 0) (b := 0) (by rfl) (by rfl) (?_ : TZ (d + 1) 13 5 [some (.inr k), some (.inr k2)] [.inl 0, .inr (k2 + 3)] Z (zrv Q))
  refine z0 (op := 5) (a := 0) (b := 0) (by rfl) (by rfl) (?_ : TZ (d + 1) 13 6 [some (.inr k), some (.inr k2)] [.inr k, .inl 0, .inr (k2 + 3)] Z (zrv Q))
  refine z_fr (by rfl) (fr6_F0 _ hk) (?_ : TZ (d + 1) 13 9 [some (.inr k), some (.inr k2)] [.inr (k + 3), .inl 0, .inr (k2 + 3)] Z (zrv Q))
  refine z0 (op := 0) (a := 0) (b := 0) (by rfl) (by rfl) (?_ : TZ (d + 1) 13 10 [some (.inr k), some (.inr k2)] [.inl 0, .inr (k + 3), .inl 0, .inr (k2 + 3)] Z (zrv Q))
  refine z0 (op := 1) (a := 0) (b := 8) (by rfl) (by rfl) (?_ : TZ (d + 1) 13 12 [some (.inr k), some (.inr k2)] [.inl 8, .inl 0, .inr (k + 3), .inl 0, .inr (k2 + 3)] Z (zrv Q))
  obtain ⟨Z1, eZ1⟩ : ∃ q, q = zcpy Z (k2 + 3) (k + 3) 8 := ⟨_, rfl⟩
  have v := v Z1 eZ1
  refine z_cpy (by rfl) (by rfl) (by decide) (ln_F3 _ hk2) (ln_F3 _ hk) (by decide) ?_
  show TZ (d + 1) 13 15 [some (.inr k), some (.inr k2)] [] (zcpy Z (k2 + 3) (k + 3) 8) _
  rw [← eZ1]
  refine z0 (op := 5) (a := 1) (b := 0) (by rfl) (by rfl) (?_ : TZ (d + 1) 13 16 [some (.inr k), some (.inr k2)] [.inr k2] Z1 (zrv Q))
  refine z_fr (by rfl) (fr7_F0 _ hk2) (?_ : TZ (d + 1) 13 19 [some (.inr k), some (.inr k2)] [.inr (k2 + 4)] Z1 (zrv Q))
  refine z0 (op := 0) (a := 0) (b := 0) (by rfl) (by rfl) (?_ : TZ (d + 1) 13 20 [some (.inr k), some (.inr k2)] [.inl 0, .inr (k2 + 4)] Z1 (zrv Q))
  refine z0 (op := 5) (a := 0) (b := 0) (by rfl) (by rfl) (?_ : TZ (d + 1) 13 21 [some (.inr k), some (.inr k2)] [.inr k, .inl 0, .inr (k2 + 4)] Z1 (zrv Q))
  refine z_fr (by rfl) (fr7_F0 _ hk) (?_ : TZ (d + 1) 13 24 [some (.inr k), some (.inr k2)] [.inr (k + 4), .inl 0, .inr (k2 + 4)] Z1 (zrv Q))
  refine z0 (op := 0) (a := 0) (b := 0) (by rfl) (by rfl) (?_ : TZ (d + 1) 13 25 [some (.inr k), some (.inr k2)] [.inl 0, .inr (k + 4), .inl 0, .inr (k2 + 4)] Z1 (zrv Q))
  refine z0 (op := 1) (a := 0) (b := 6) (by rfl) (by rfl) (?_ : TZ (d + 1) 13 27 [some (.inr k), some (.inr k2)] [.inl 6, .inl 0, .inr (k + 4), .inl 0, .inr (k2 + 4)] Z1 (zrv Q))
  obtain ⟨Z2, eZ2⟩ : ∃ q, q = zcpy Z1 (k2 + 4) (k + 4) 6 := ⟨_, rfl⟩
  have v := v Z2 eZ2
  refine z_cpy (by rfl) (by rfl) (by decide) (ln_F4 _ hk2) (ln_F4 _ hk) (by decide) ?_
  show TZ (d + 1) 13 30 [some (.inr k), some (.inr k2)] [] (zcpy Z1 (k2 + 4) (k + 4) 6) _
  rw [← eZ2]
  refine z0 (op := 5) (a := 0) (b := 0) (by rfl) (by rfl) (?_ : TZ (d + 1) 13 31 [some (.inr k), some (.inr k2)] [.inr k] Z2 (zrv Q))
  refine z0 (op := 5) (a := 1) (b := 0) (by rfl) (by rfl) (?_ : TZ (d + 1) 13 32 [some (.inr k), some (.inr k2)] [.inr k2, .inr k] Z2 (zrv Q))
  refine z_fi (by rfl) (fi11_F0 _ hk2) (?_ : TZ (d + 1) 13 35 [some (.inr k), some (.inr k2)] [.inl (Z2 k2 7), .inr k] Z2 (zrv Q))
  obtain ⟨Z3, eZ3⟩ : ∃ q, q = zup Z2 k 7 (Z2 k2 7) := ⟨_, rfl⟩
  have v := v Z3 eZ3
  refine z_pf (by rfl) (pf11_F0 _ hk) (fun h => nomatch h) ?_
  show TZ (d + 1) 13 38 [some (.inr k), some (.inr k2)] [] (zup Z2 k 7 (Z2 k2 7)) _
  rw [← eZ3]
  exact z_retv (by rfl) (by rfl) v
theorem w20_0 {d : Nat} {k : Nat} {x1 x2 : Int} {Z : zM} {Q : zM → Prop} (hk : k ∈ zFl)
    (v : (0 ≤ x1 ∧ x1 < 8) ∧
      TV d 19 [.inr k, .inl (Z (k + 3) x1), .inl x2] Z (fun Z2 =>
      (0 ≤ x1 ∧ x1 < 8) ∧
        ∀ Z4, Z4 = zup Z2 (k + 3) x1 x2 →
        Q Z4)) :
    TZ (d + 1) 20 0 [some (.inr k), some (.inl x1), some (.inl x2)] [] Z (zrv Q) := by
  refine z0 (op := 5) (a := 0) (b := 0) (by rfl) (by rfl) (?_ : TZ (d + 1) 20 1 [some (.inr k), some (.inl x1), some (.inl x2)] [.inr k] Z (zrv Q))
  refine z0 (op := 5) (a := 0) (b := 0) (by rfl) (by rfl) (?_ : TZ (d + 1) 20 2 [some (.inr k), some (.inl x1), some (.inl x2)] [.inr k, .inr k] Z (zrv Q))
  refine z_fr (by rfl) (fr6_F0 _ hk) (?_ : TZ (d + 1) 20 5 [some (.inr k), some (.inl x1), some (.inl x2)] [.inr (k + 3), .inr k] Z (zrv Q))
  refine z0 (op := 3) (a := 1) (b := 0) (by rfl) (by rfl) (?_ : TZ (d + 1) 20 6 [some (.inr k), some (.inl x1), some (.inl x2)] [.inl x1, .inr (k + 3), .inr k] Z (zrv Q))
  obtain ⟨c1, v⟩ := v
  refine z_al (by rfl) (ln_F3 _ hk) c1 (?_ : TZ (d + 1) 20 7 [some (.inr k), some (.inl x1), some (.inl x2)] [.inl (Z (k + 3) x1), .inr k] Z (zrv Q))
  refine z0 (op := 3) (a := 2) (b := 0) (by rfl) (by rfl) (?_ : TZ (d + 1) 20 8 [some (.inr k), some (.inl x1), some (.inl x2)] [.inl x2, .inl (Z (k + 3) x1), .inr k] Z (zrv Q))
  refine z_vv (by rfl) (by rfl) (cl_F0 _ hk) (TV.mono v fun Z2 v => ?_)
  show TZ (d + 1) 20 11 [some (.inr k), some (.inl x1), some (.inl x2)] [] Z2 (zrv Q)
  refine z0 (op := 5) (a := 0) (b := 0) (by rfl) (by rfl) (?_ : TZ (d + 1) 20 12 [some (.inr k), some (.inl x1), some (.inl x2)] [.inr k] Z2 (zrv Q))
  refine z_fr (by rfl) (fr6_F0 _ hk) (?_ : TZ (d + 1) 20 15 [some (.inr k), some (.inl x1), some (.inl x2)] [.inr (k + 3)] Z2 (zrv Q))
  refine z0 (op := 3) (a := 1) (b := 0) (by rfl) (by rfl) (?_ : TZ (d + 1) 20 16 [some (.inr k), some (.inl x1), some (.inl x2)] [.inl x1, .inr (k + 3)] Z2 (zrv Q))
  refine z0 (op := 3) (a := 2) (b := 0) (by rfl) (by rfl) (?_ : TZ (d + 1) 20 17 [some (.inr k), some (.inl x1), some (.inl x2)] [.inl x2, .inl x1, .inr (k + 3)] Z2 (zrv Q))
  obtain ⟨c3, v⟩ := v
  obtain ⟨Z4, eZ4⟩ : ∃ q, q = zup Z2 (k + 3) x1 x2 := ⟨_, rfl⟩
  have v := v Z4 eZ4
  refine z_as (by rfl) (ln_F3 _ hk) c3 ?_
  show TZ (d + 1) 20 18 [some (.inr k), some (.inl x1), some (.inl x2)] [] (zup Z2 (k + 3) x1 x2) _
  rw [← eZ4]
  exact z_retv (by rfl) (by rfl) v
theorem w19_0 {d : Nat} {k : Nat} {x1 x2 : Int} {Z : zM} {Q : zM → Prop} (hk : k ∈ zFl)
    (v : (0 ≤ x1 ∧ x1 < 6) ∧
      (0 ≤ x1 ∧ x1 < 6) ∧
      ∀ Z3, Z3 = zup Z (k + 4) x1 ((Z (k + 4) x1) - 1) →
      (0 ≤ x2 ∧ x2 < 6) ∧
      (0 ≤ x2 ∧ x2 < 6) ∧
      ∀ Z6, Z6 = zup Z3 (k + 4) x2 ((Z3 (k + 4) x2) + 1) →
      Q Z6) :
    TZ d 19 0 [some (.inr k), some (.inl x1), some (.inl x2)] [] Z (zrv Q) := by
  refine z0 (op := 5) (a := 0) (b := 0) (by rfl) (by rfl) (?_ : TZ d 19 1 [some (.inr k), some (.inl x1), some (.inl x2)] [.inr k] Z (zrv Q))
  refine z_fr (by rfl) (fr7_F0 _ hk) (?_ : TZ d 19 4 [some (.inr k), some (.inl x1), some (.inl x2)] [.inr (k + 4)] Z (zrv Q))
  refine z0 (op := 3) (a := 1) (b := 0) (by rfl) (by rfl) (?_ : TZ d 19 5 [some (.inr k), some (.inl x1), some (.inl x2)] [.inl x1, .inr (k + 4)] Z (zrv Q))
  refine z0 (op := 16) (a := 0) (b := 0) (by rfl) (by rfl) (?_ : TZ d 19 6 [some (.inr k), some (.inl x1), some (.inl x2)] [.inl x1, .inr (k + 4), .inl x1, .inr (k + 4)] Z (zrv Q))
  obtain ⟨c1, v⟩ := v
  refine z_al (by rfl) (ln_F4 _ hk) c1 (?_ : TZ d 19 7 [some (.inr k), some (.inl x1), some (.inl x2)] [.inl (Z (k + 4) x1), .inl x1, .inr (k + 4)] Z (zrv Q))
  refine z0 (op := 0) (a := 0) (b := 1) (by rfl) (by rfl) (?_ : TZ d 19 8 [some (.inr k), some (.inl x1), some (.inl x2)] [.inl 1, .inl (Z (k + 4) x1), .inl x1, .inr (k + 4)] Z (zrv Q))
  refine z0 (op := 12) (a := 1) (b := 0) (by rfl) (by rfl) (?_ : TZ d 19 9 [some (.inr k), some (.inl x1), some (.inl x2)] [.inl ((Z (k + 4) x1) - 1), .inl x1, .inr (k + 4)] Z (zrv Q))
  obtain ⟨c2, v⟩ := v
  obtain ⟨Z3, eZ3⟩ : ∃ q, q = zup Z (k + 4) x1 ((Z (k + 4) x1) - 1) := ⟨_, rfl⟩
  have v := v Z3 eZ3
  refine z_as (by rfl) (ln_F4 _ hk) c2 ?_
  show TZ d 19 10 [some (.inr k), some (.inl x1), some (.inl x2)] [] (zup Z (k + 4) x1 ((Z (k + 4) x1) - 1)) _
  rw [← eZ3]
  refine z0 (op := 5) (a := 0) (b := 0) (by rfl) (by rfl) (?_ : TZ d 19 11 [some (.inr k), some (.inl x1), some (.inl x2)] [.inr k] Z3 (zrv Q))
  refine z_fr (by rfl) (fr7_F0 _ hk) (?_ : TZ d 19 14 [some (.inr k), some (.inl x1), some (.inl x2)] [.inr (k + 4)] Z3 (zrv Q))
  refine z0 (op := 3) (a := 2) (b := 0) (by rfl) (by rfl) (?_ : TZ d 19 15 [some (.inr k), some (.inl x1), some (.inl x2)] [.inl x2, .inr (k + 4)] Z3 (zrv Q))
  refine z0 (op := 16) (a := 0) (b := 0) (by rfl) (by rfl) (?_ : TZ d 19 16 [some (.inr k), some (.inl x1), some (.inl x2)] [.inl x2, .inr (k + 4), .inl x2, .inr (k + 4)] Z3 (zrv Q))
  obtain ⟨c4, v⟩ := v
  refine z_al (by rfl) (ln_F4 _ hk) c4 (?_ : TZ d 19 17 [some (.inr k), some (.inl x1), some (.inl x2)] [.inl (Z3 (k + 4) x2), .inl x2, .inr (k + 4)] Z3 (zrv Q))
  refine z0 (op := 0) (a := 0) (b := 1) (by rfl) (by rfl) (?_ : TZ d 19 18 [some (.inr k), some (.inl x1), some (.inl x2)] [.inl 1, .inl (Z3 (k + 4) x2), .inl x2, .inr (k + 4)] Z3 (zrv Q))
  refine z0 (op := 12) (a := 0) (b := 0) (by rfl) (by rfl) (?_ : TZ d 19 19 [some (.inr k), some (.inl x1), some (.inl x2)] [.inl ((Z3 (k + 4) x2) + 1), .inl x2, .inr (k + 4)] Z3 (zrv Q))
  obtain ⟨c5, v⟩ := v
  obtain ⟨Z6, eZ6⟩ : ∃ q, q = zup Z3 (k + 4) x2 ((Z3 (k + 4) x2) + 1) := ⟨_, rfl⟩
  have v := v Z6 eZ6
  refine z_as (by rfl) (ln_F4 _ hk) c5 ?_
  show TZ d 19 20 [some (.inr k), some (.inl x1), some (.inl x2)] [] (zup Z3 (k + 4) x2 ((Z3 (k + 4) x2) + 1)) _
  rw [← eZ6]
  exact z_retv (by rfl) (by rfl) v
