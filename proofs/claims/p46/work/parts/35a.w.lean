/-! what stretches of code need of integers -/
theorem w2_0 {d : Nat} {x0 x1 : Int} {Z : zM} {Q : Int → zM → Prop}
    (v : zR x0 ∧
      (1 ≤ x1 ∧ x1 ≤ 2147483647) ∧
      zR (zbit 5 x0 x1) ∧
      (0 ≤ (zbit 5 x0 x1) → Q (Int.tmod x0 x1) Z) ∧
      (¬ 0 ≤ (zbit 5 x0 x1) → (zR (Int.tmod x0 x1) ∧
          ((Int.tmod x0 x1) = 0 → Q (Int.tmod x0 x1) Z) ∧
          (¬ (Int.tmod x0 x1) = 0 → Q ((Int.tmod x0 x1) + x1) Z)))) :
    TZ d 2 0 [some (.inl x0), some (.inl x1), none] [] Z (zri Q) := by
  refine z0 (op := 3) (a := 0) (b := 0) (by rfl) (by rfl) (?_ : TZ d 2 1 [some (.inl x0), some (.inl x1), none] [.inl x0] Z (zri Q))
  refine z0 (op := 3) (a := 1) (b := 0) (by rfl) (by rfl) (?_ : TZ d 2 2 [some (.inl x0), some (.inl x1), none] [.inl x1, .inl x0] Z (zri Q))
  obtain ⟨c1, c2, v⟩ := v
  refine z_rem (by rfl) c1 c2 (?_ : TZ d 2 3 [some (.inl x0), some (.inl x1), none] [.inl (Int.tmod x0 x1)] Z (zri Q))
  refine z0 (op := 7) (a := 2) (b := 0) (by rfl) (by rfl) (?_ : TZ d 2 4 [some (.inl x0), some (.inl x1), some (.inl (Int.tmod x0 x1))] [] Z (zri Q))
  refine z0 (op := 3) (a := 0) (b := 0) (by rfl) (by rfl) (?_ : TZ d 2 5 [some (.inl x0), some (.inl x1), some (.inl (Int.tmod x0 x1))] [.inl x0] Z (zri Q))
  refine z0 (op := 3) (a := 1) (b := 0) (by rfl) (by rfl) (?_ : TZ d 2 6 [some (.inl x0), some (.inl x1), some (.inl (Int.tmod x0 x1))] [.inl x1, .inl x0] Z (zri Q))
  refine z0 (op := 12) (a := 5) (b := 0) (by rfl) (by rfl) (?_ : TZ d 2 7 [some (.inl x0), some (.inl x1), some (.inl (Int.tmod x0 x1))] [.inl (zbit 5 x0 x1)] Z (zri Q))
  obtain ⟨c3, v1, v2⟩ := v
  refine z_if0 (a := 3) (t := 18) (by rfl) (by rfl) c3 (fun h4 => ?_) (fun h4 => ?_)
  · have v := v1 h4; clear v1 v2
    show TZ d 2 18 [some (.inl x0), some (.inl x1), some (.inl (Int.tmod x0 x1))] [] Z (zri Q)
    refine z0 (op := 3) (a := 2) (b := 0) (by rfl) (by rfl) (?_ : TZ d 2 19 [some (.inl x0), some (.inl x1), some (.inl (Int.tmod x0 x1))] [.inl (Int.tmod x0 x1)] Z (zri Q))
    exact z_reti (by rfl) (by rfl) v
  · have v := v2 h4; clear v1 v2
    show TZ d 2 10 [some (.inl x0), some (.inl x1), some (.inl (Int.tmod x0 x1))] [] Z (zri Q)
    refine z0 (op := 3) (a := 2) (b := 0) (by rfl) (by rfl) (?_ : TZ d 2 11 [some (.inl x0), some (.inl x1), some (.inl (Int.tmod x0 x1))] [.inl (Int.tmod x0 x1)] Z (zri Q))
    obtain ⟨c5, v1, v2⟩ := v
    refine z_if0 (a := 0) (t := 18) (by rfl) (by rfl) c5 (fun h6 => ?_) (fun h6 => ?_)
    · have v := v1 h6; clear v1 v2
      show TZ d 2 18 [some (.inl x0), some (.inl x1), some (.inl (Int.tmod x0 x1))] [] Z (zri Q)
      refine z0 (op := 3) (a := 2) (b := 0) (by rfl) (by rfl) (?_ : TZ d 2 19 [some (.inl x0), some (.inl x1), some (.inl (Int.tmod x0 x1))] [.inl (Int.tmod x0 x1)] Z (zri Q))
      exact z_reti (by rfl) (by rfl) v
    · have v := v2 h6; clear v1 v2
      show TZ d 2 14 [some (.inl x0), some (.inl x1), some (.inl (Int.tmod x0 x1))] [] Z (zri Q)
      refine z0 (op := 3) (a := 2) (b := 0) (by rfl) (by rfl) (?_ : TZ d 2 15 [some (.inl x0), some (.inl x1), some (.inl (Int.tmod x0 x1))] [.inl (Int.tmod x0 x1)] Z (zri Q))
      refine z0 (op := 3) (a := 1) (b := 0) (by rfl) (by rfl) (?_ : TZ d 2 16 [some (.inl x0), some (.inl x1), some (.inl (Int.tmod x0 x1))] [.inl x1, .inl (Int.tmod x0 x1)] Z (zri Q))
      refine z0 (op := 12) (a := 0) (b := 0) (by rfl) (by rfl) (?_ : TZ d 2 17 [some (.inl x0), some (.inl x1), some (.inl (Int.tmod x0 x1))] [.inl ((Int.tmod x0 x1) + x1)] Z (zri Q))
      exact z_reti (by rfl) (by rfl) v
theorem w13_0 {d : Nat} {k k2 : Nat} {Z : zM} {Q : zM → Prop} (hk : k ∈ zFl) (hk2 : k2 ∈ zFl)
    (v : ∀ Z1, Z1 = zcpy Z (k2 + 3) (k + 3) 8 →
      ∀ Z2, Z2 = zcpy Z1 (k2 + 4) (k + 4) 6 →
      ∀ Z3, Z3 = zup Z2 k 7 (Z2 k2 7) →
      Q Z3) :
    TZ (d + 1) 13 0 [some (.inr k), some (.inr k2)] [] Z (zrv Q) := by
  refine z0 (op := 5) (a := 1) (b := 0) (by rfl) (by rfl) (?_ : TZ (d + 1) 13 1 [some (.inr k), some (.inr k2)] [.inr k2] Z (zrv Q))
  refine z_fr (by rfl) (fr6_F0 _ hk2) (?_ : TZ (d + 1) 13 4 [some (.inr k), some (.inr k2)] [.inr (k2 + 3)] Z (zrv Q))
  refine z0 (op := 0) (a := 0) (b := 0) (by rfl) (by rfl) (?_ : TZ (d + 1) 13 5 [some (.inr k), some (.inr k2)] [.inl 0, .inr (k2 + 3)] Z (zrv Q))
  refine z0 (op := 5) (a := 0) (b := 0) (by rfl) (by rfl) (?_ : TZ (d + 1) 13 6 [some (.inr k), some (.inr k2)] [.inr k, .inl 0, .inr (k2 + 3)] Z (zrv Q))
  refine z_fr (by rfl) (fr6_F0 _ hk) (?_ : TZ (d + 1) 13 9 [some (.inr k), some (.inr k2)] [.inr (k + 3), .inl 0, .inr (k2 + 3)] Z (zrv Q))
  refine z0 (op := 0) (a := 0) (b := 0) (by rfl) (by rfl) (?_ : TZ (d + 1) 13 10 [some (.inr k), some (.inr k2)] [.inl 0, .inr (k + 3), .inl 0, .inr (k2 + 3)] Z (zrv Q))
  refine z0 (op := 1) (a := 0) (b := 8) (by rfl) (by rfl) (?_ : TZ (d + 1) 13 12 [some (.inr k), some (.inr k2)] [.inl 8, .inl 0, .inr (k + 3), .inl 0, .inr (k2 + 3)] Z (zrv Q))
  obtain ⟨Z1, eZ1⟩ : ∃ q, q = zcpy Z (k2 + 3) (k + 3) 8 := ⟨_, rfl⟩
  have v := v Z1 eZ1
  refine z_cpy (by rfl) (by rfl) (Nat.le_of_ble_eq_true rfl) (ln_F3 _ hk2) (ln_F3 _ hk) (by decide) ?_
  show TZ (d + 1) 13 15 [some (.inr k), some (.inr k2)] [] (zcpy Z (k2 + 3) (k + 3) 8) _
  rw [← eZ1]
  refine z0 (op := 5) (a := 1) (b := 0) (by rfl) (by rfl) (?_ : TZ (d + 1) 13 16 [some (.inr k), some (.inr k2)] [.inr k2] Z1 (zrv Q))
  refine z_fr (by rfl) (fr7_F0 _ hk2) (?_ : TZ (d + 1) 13 19 [some (.inr k), some (.inr k2)] [.inr (k2 + 4)] Z1 (zrv Q))
  refine z0 (op := 0) (a := 0) (b := 0) (by rfl) (by rfl) (?_ : TZ (d + 1) 13 20 [some (.inr k), some (.inr k2)] [.inl 0, .inr (k2 + 4)] Z1 (zrv Q))
  refine z0 (op := 5) (a := 0) (b := 0) (by rfl) (by rfl) (?_ : TZ (d + 1) 13 21 [some (.inr k), some (.inr k2)] [.inr k, .inl 0, .inr (k2 + 4)] Z1 (zrv Q))
  refine z_fr (by rfl) (fr7_F0 _ hk) (?_ : TZ (d + 1) 13 24 [some (.inr k), some (.inr k2)] [.inr (k + 4), .inl 0, .inr (k2 + 4)] Z1 (zrv Q))
  refine z0 (op := 0) (a := 0) (b := 0) (by rfl) (by rfl) (?_ : TZ (d + 1) 13 25 [some (.inr k), some (.inr k2)] [.inl 0, .inr (k + 4), .inl 0, .inr (k2 + 4)] Z1 (zrv Q))
  refine z0 (op := 1) (a := 0) (b := 6) (by rfl) (by rfl) (?_ : TZ (d + 1) 13 27 [some (.inr k), some (.inr k2)] [.inl 6, .inl 0, .inr (k + 4), .inl 0, .inr (k2 + 4)] Z1 (zrv Q))
  obtain ⟨Z2, eZ2⟩ : ∃ q, q = zcpy Z1 (k2 + 4) (k + 4) 6 := ⟨_, rfl⟩
  have v := v Z2 eZ2
  refine z_cpy (by rfl) (by rfl) (Nat.le_of_ble_eq_true rfl) (ln_F4 _ hk2) (ln_F4 _ hk) (by decide) ?_
  show TZ (d + 1) 13 30 [some (.inr k), some (.inr k2)] [] (zcpy Z1 (k2 + 4) (k + 4) 6) _
  rw [← eZ2]
  refine z0 (op := 5) (a := 0) (b := 0) (by rfl) (by rfl) (?_ : TZ (d + 1) 13 31 [some (.inr k), some (.inr k2)] [.inr k] Z2 (zrv Q))
  refine z0 (op := 5) (a := 1) (b := 0) (by rfl) (by rfl) (?_ : TZ (d + 1) 13 32 [some (.inr k), some (.inr k2)] [.inr k2, .inr k] Z2 (zrv Q))
  refine z_fi (by rfl) (fi11_F0 _ hk2) (?_ : TZ (d + 1) 13 35 [some (.inr k), some (.inr k2)] [.inl (Z2 k2 7), .inr k] Z2 (zrv Q))
  obtain ⟨Z3, eZ3⟩ : ∃ q, q = zup Z2 k 7 (Z2 k2 7) := ⟨_, rfl⟩
  have v := v Z3 eZ3
  refine z_pf (by rfl) (pf11_F0 _ hk) (fun h => nomatch h) ?_
  show TZ (d + 1) 13 38 [some (.inr k), some (.inr k2)] [] (zup Z2 k 7 (Z2 k2 7)) _
  rw [← eZ3]
  exact z_retv (by rfl) (by rfl) v
theorem w14_0 {d : Nat} {k k2 : Nat} {Z : zM} {Q : Int → zM → Prop} (hk : k ∈ zFl) (hk2 : k2 ∈ zFl)
    (v : TZ d 14 2 [some (.inr k), some (.inr k2), some (.inl 0)] [] Z (zri Q)) :
    TZ d 14 0 [some (.inr k), some (.inr k2), none] [] Z (zri Q) := by
  refine z0 (op := 0) (a := 0) (b := 0) (by rfl) (by rfl) (?_ : TZ d 14 1 [some (.inr k), some (.inr k2), none] [.inl 0] Z (zri Q))
  refine z0 (op := 7) (a := 2) (b := 0) (by rfl) (by rfl) (?_ : TZ d 14 2 [some (.inr k), some (.inr k2), some (.inl 0)] [] Z (zri Q))
  exact v
theorem w14_2 {d : Nat} {k k2 : Nat} {x2 : Int} {Z : zM} {Q : Int → zM → Prop} (hk : k ∈ zFl) (hk2 : k2 ∈ zFl)
    (v : zR x2 ∧
      zR (Z k 5) ∧
      ((Z k 5) ≤ x2 → Q 1 Z) ∧
      (¬ (Z k 5) ≤ x2 → ((0 ≤ x2 ∧ x2 < 8) ∧
          (0 ≤ x2 ∧ x2 < 8) ∧
          zR (Z (k + 3) x2) ∧
          zR (Z (k2 + 3) x2) ∧
          ((Z (k + 3) x2) = (Z (k2 + 3) x2) → TZ d 14 2 [some (.inr k), some (.inr k2), some (.inl (x2 + 1))] [] Z (zri Q)) ∧
          (¬ (Z (k + 3) x2) = (Z (k2 + 3) x2) → Q 0 Z)))) :
    TZ d 14 2 [some (.inr k), some (.inr k2), some (.inl x2)] [] Z (zri Q) := by
  refine z0 (op := 3) (a := 2) (b := 0) (by rfl) (by rfl) (?_ : TZ d 14 3 [some (.inr k), some (.inr k2), some (.inl x2)] [.inl x2] Z (zri Q))
  refine z0 (op := 5) (a := 0) (b := 0) (by rfl) (by rfl) (?_ : TZ d 14 4 [some (.inr k), some (.inr k2), some (.inl x2)] [.inr k, .inl x2] Z (zri Q))
  refine z_fi (by rfl) (fi10_F0 _ hk) (?_ : TZ d 14 7 [some (.inr k), some (.inr k2), some (.inl x2)] [.inl (Z k 5), .inl x2] Z (zri Q))
  obtain ⟨c1, c2, v1, v2⟩ := v
  refine z_if2 (a := 3) (t := 33) (by rfl) (by rfl) c1 c2 (fun h3 => ?_) (fun h3 => ?_)
  · have v := v1 h3; clear v1 v2
    show TZ d 14 33 [some (.inr k), some (.inr k2), some (.inl x2)] [] Z (zri Q)
    refine z0 (op := 0) (a := 0) (b := 1) (by rfl) (by rfl) (?_ : TZ d 14 34 [some (.inr k), some (.inr k2), some (.inl x2)] [.inl 1] Z (zri Q))
    exact z_retb (by rfl) (by rfl) (by decide) v
  · have v := v2 h3; clear v1 v2
    show TZ d 14 10 [some (.inr k), some (.inr k2), some (.inl x2)] [] Z (zri Q)
    refine z0 (op := 5) (a := 0) (b := 0) (by rfl) (by rfl) (?_ : TZ d 14 11 [some (.inr k), some (.inr k2), some (.inl x2)] [.inr k] Z (zri Q))
    refine z_fr (by rfl) (fr6_F0 _ hk) (?_ : TZ d 14 14 [some (.inr k), some (.inr k2), some (.inl x2)] [.inr (k + 3)] Z (zri Q))
    refine z0 (op := 3) (a := 2) (b := 0) (by rfl) (by rfl) (?_ : TZ d 14 15 [some (.inr k), some (.inr k2), some (.inl x2)] [.inl x2, .inr (k + 3)] Z (zri Q))
    obtain ⟨c4, v⟩ := v
    refine z_al (by rfl) (ln_F3 _ hk) c4 (?_ : TZ d 14 16 [some (.inr k), some (.inr k2), some (.inl x2)] [.inl (Z (k + 3) x2)] Z (zri Q))
    refine z0 (op := 5) (a := 1) (b := 0) (by rfl) (by rfl) (?_ : TZ d 14 17 [some (.inr k), some (.inr k2), some (.inl x2)] [.inr k2, .inl (Z (k + 3) x2)] Z (zri Q))
    refine z_fr (by rfl) (fr6_F0 _ hk2) (?_ : TZ d 14 20 [some (.inr k), some (.inr k2), some (.inl x2)] [.inr (k2 + 3), .inl (Z (k + 3) x2)] Z (zri Q))
    refine z0 (op := 3) (a := 2) (b := 0) (by rfl) (by rfl) (?_ : TZ d 14 21 [some (.inr k), some (.inr k2), some (.inl x2)] [.inl x2, .inr (k2 + 3), .inl (Z (k + 3) x2)] Z (zri Q))
    obtain ⟨c5, v⟩ := v
    refine z_al (by rfl) (ln_F3 _ hk2) c5 (?_ : TZ d 14 22 [some (.inr k), some (.inr k2), some (.inl x2)] [.inl (Z (k2 + 3) x2), .inl (Z (k + 3) x2)] Z (zri Q))
    obtain ⟨c6, c7, v1, v2⟩ := v
    refine z_if2 (a := 0) (t := 27) (by rfl) (by rfl) c6 c7 (fun h8 => ?_) (fun h8 => ?_)
    · have v := v1 h8; clear v1 v2
      show TZ d 14 27 [some (.inr k), some (.inr k2), some (.inl x2)] [] Z (zri Q)
      refine z0 (op := 11) (a := 2) (b := 1) (by rfl) (by rfl) (?_ : TZ d 14 30 [some (.inr k), some (.inr k2), some (.inl (x2 + 1))] [] Z (zri Q))
      refine z_goto (t := 2) (by rfl) (by rfl) (?_ : TZ d 14 2 [some (.inr k), some (.inr k2), some (.inl (x2 + 1))] [] Z (zri Q))
      exact v
    · have v := v2 h8; clear v1 v2
      show TZ d 14 25 [some (.inr k), some (.inr k2), some (.inl x2)] [] Z (zri Q)
      refine z0 (op := 0) (a := 0) (b := 0) (by rfl) (by rfl) (?_ : TZ d 14 26 [some (.inr k), some (.inr k2), some (.inl x2)] [.inl 0] Z (zri Q))
      exact z_retb (by rfl) (by rfl) (by decide) v
theorem w15_0 {d : Nat} {k : Nat} {x1 : Int} {Z : zM} {Q : Int → zM → Prop} (hk : k ∈ zFl)
    (v : zR x1 ∧
      (x1 < 0 → Q 0 Z) ∧
      (¬ x1 < 0 → (zR x1 ∧
          zR (Z k 6) ∧
          ((Z k 6) ≤ x1 → Q 0 Z) ∧
          (¬ (Z k 6) ≤ x1 → Q 1 Z)))) :
    TZ d 15 0 [some (.inr k), some (.inl x1)] [] Z (zri Q) := by
  refine z0 (op := 3) (a := 1) (b := 0) (by rfl) (by rfl) (?_ : TZ d 15 1 [some (.inr k), some (.inl x1)] [.inl x1] Z (zri Q))
  obtain ⟨c1, v1, v2⟩ := v
  refine z_if0 (a := 2) (t := 16) (by rfl) (by rfl) c1 (fun h2 => ?_) (fun h2 => ?_)
  · have v := v1 h2; clear v1 v2
    show TZ d 15 16 [some (.inr k), some (.inl x1)] [] Z (zri Q)
    refine z0 (op := 0) (a := 0) (b := 0) (by rfl) (by rfl) (?_ : TZ d 15 17 [some (.inr k), some (.inl x1)] [.inl 0] Z (zri Q))
    exact z_retb (by rfl) (by rfl) (by decide) v
  · have v := v2 h2; clear v1 v2
    show TZ d 15 4 [some (.inr k), some (.inl x1)] [] Z (zri Q)
    refine z0 (op := 3) (a := 1) (b := 0) (by rfl) (by rfl) (?_ : TZ d 15 5 [some (.inr k), some (.inl x1)] [.inl x1] Z (zri Q))
    refine z0 (op := 5) (a := 0) (b := 0) (by rfl) (by rfl) (?_ : TZ d 15 6 [some (.inr k), some (.inl x1)] [.inr k, .inl x1] Z (zri Q))
    refine z_fi (by rfl) (fi9_F0 _ hk) (?_ : TZ d 15 9 [some (.inr k), some (.inl x1)] [.inl (Z k 6), .inl x1] Z (zri Q))
    obtain ⟨c3, c4, v1, v2⟩ := v
    refine z_if2 (a := 3) (t := 16) (by rfl) (by rfl) c3 c4 (fun h5 => ?_) (fun h5 => ?_)
    · have v := v1 h5; clear v1 v2
      show TZ d 15 16 [some (.inr k), some (.inl x1)] [] Z (zri Q)
      refine z0 (op := 0) (a := 0) (b := 0) (by rfl) (by rfl) (?_ : TZ d 15 17 [some (.inr k), some (.inl x1)] [.inl 0] Z (zri Q))
      exact z_retb (by rfl) (by rfl) (by decide) v
    · have v := v2 h5; clear v1 v2
      show TZ d 15 12 [some (.inr k), some (.inl x1)] [] Z (zri Q)
      refine z0 (op := 0) (a := 0) (b := 1) (by rfl) (by rfl) (?_ : TZ d 15 13 [some (.inr k), some (.inl x1)] [.inl 1] Z (zri Q))
      refine z_goto (t := 17) (by rfl) (by rfl) (?_ : TZ d 15 17 [some (.inr k), some (.inl x1)] [.inl 1] Z (zri Q))
      exact z_retb (by rfl) (by rfl) (by decide) v
theorem w16_0 {d : Nat} {k : Nat} {x1 : Int} {Z : zM} {Q : Int → zM → Prop} (hk : k ∈ zFl)
    (v : zR x1 ∧
      (x1 < 0 → Q 0 Z) ∧
      (¬ x1 < 0 → (zR x1 ∧
          zR (Z k 5) ∧
          ((Z k 5) ≤ x1 → Q 0 Z) ∧
          (¬ (Z k 5) ≤ x1 → Q 1 Z)))) :
    TZ d 16 0 [some (.inr k), some (.inl x1)] [] Z (zri Q) := by
  refine z0 (op := 3) (a := 1) (b := 0) (by rfl) (by rfl) (?_ : TZ d 16 1 [some (.inr k), some (.inl x1)] [.inl x1] Z (zri Q))
  obtain ⟨c1, v1, v2⟩ := v
  refine z_if0 (a := 2) (t := 16) (by rfl) (by rfl) c1 (fun h2 => ?_) (fun h2 => ?_)
  · have v := v1 h2; clear v1 v2
    show TZ d 16 16 [some (.inr k), some (.inl x1)] [] Z (zri Q)
    refine z0 (op := 0) (a := 0) (b := 0) (by rfl) (by rfl) (?_ : TZ d 16 17 [some (.inr k), some (.inl x1)] [.inl 0] Z (zri Q))
    exact z_retb (by rfl) (by rfl) (by decide) v
  · have v := v2 h2; clear v1 v2
    show TZ d 16 4 [some (.inr k), some (.inl x1)] [] Z (zri Q)
    refine z0 (op := 3) (a := 1) (b := 0) (by rfl) (by rfl) (?_ : TZ d 16 5 [some (.inr k), some (.inl x1)] [.inl x1] Z (zri Q))
    refine z0 (op := 5) (a := 0) (b := 0) (by rfl) (by rfl) (?_ : TZ d 16 6 [some (.inr k), some (.inl x1)] [.inr k, .inl x1] Z (zri Q))
    refine z_fi (by rfl) (fi10_F0 _ hk) (?_ : TZ d 16 9 [some (.inr k), some (.inl x1)] [.inl (Z k 5), .inl x1] Z (zri Q))
    obtain ⟨c3, c4, v1, v2⟩ := v
    refine z_if2 (a := 3) (t := 16) (by rfl) (by rfl) c3 c4 (fun h5 => ?_) (fun h5 => ?_)
    · have v := v1 h5; clear v1 v2
      show TZ d 16 16 [some (.inr k), some (.inl x1)] [] Z (zri Q)
      refine z0 (op := 0) (a := 0) (b := 0) (by rfl) (by rfl) (?_ : TZ d 16 17 [some (.inr k), some (.inl x1)] [.inl 0] Z (zri Q))
      exact z_retb (by rfl) (by rfl) (by decide) v
    · have v := v2 h5; clear v1 v2
      show TZ d 16 12 [some (.inr k), some (.inl x1)] [] Z (zri Q)
      refine z0 (op := 0) (a := 0) (b := 1) (by rfl) (by rfl) (?_ : TZ d 16 13 [some (.inr k), some (.inl x1)] [.inl 1] Z (zri Q))
      refine z_goto (t := 17) (by rfl) (by rfl) (?_ : TZ d 16 17 [some (.inr k), some (.inl x1)] [.inl 1] Z (zri Q))
      exact z_retb (by rfl) (by rfl) (by decide) v
theorem w17_0 {d : Nat} {k : Nat} {x1 : Int} {Z : zM} {Q : Int → zM → Prop} (hk : k ∈ zFl)
    (v : zR x1 ∧
      (x1 < 0 → Q 0 Z) ∧
      (¬ x1 < 0 → (zR x1 ∧
          zR (Z k 6) ∧
          ((Z k 6) ≤ x1 → Q 0 Z) ∧
          (¬ (Z k 6) ≤ x1 → ((0 ≤ x1 ∧ x1 < 6) ∧
              zR (Z (k + 4) x1) ∧
              (4 ≤ (Z (k + 4) x1) → Q 0 Z) ∧
              (¬ 4 ≤ (Z (k + 4) x1) → Q 1 Z)))))) :
    TZ d 17 0 [some (.inr k), some (.inl x1)] [] Z (zri Q) := by
  refine z0 (op := 3) (a := 1) (b := 0) (by rfl) (by rfl) (?_ : TZ d 17 1 [some (.inr k), some (.inl x1)] [.inl x1] Z (zri Q))
  obtain ⟨c1, v1, v2⟩ := v
  refine z_if0 (a := 2) (t := 26) (by rfl) (by rfl) c1 (fun h2 => ?_) (fun h2 => ?_)
  · have v := v1 h2; clear v1 v2
    show TZ d 17 26 [some (.inr k), some (.inl x1)] [] Z (zri Q)
    refine z0 (op := 0) (a := 0) (b := 0) (by rfl) (by rfl) (?_ : TZ d 17 27 [some (.inr k), some (.inl x1)] [.inl 0] Z (zri Q))
    exact z_retb (by rfl) (by rfl) (by decide) v
  · have v := v2 h2; clear v1 v2
    show TZ d 17 4 [some (.inr k), some (.inl x1)] [] Z (zri Q)
    refine z0 (op := 3) (a := 1) (b := 0) (by rfl) (by rfl) (?_ : TZ d 17 5 [some (.inr k), some (.inl x1)] [.inl x1] Z (zri Q))
    refine z0 (op := 5) (a := 0) (b := 0) (by rfl) (by rfl) (?_ : TZ d 17 6 [some (.inr k), some (.inl x1)] [.inr k, .inl x1] Z (zri Q))
    refine z_fi (by rfl) (fi9_F0 _ hk) (?_ : TZ d 17 9 [some (.inr k), some (.inl x1)] [.inl (Z k 6), .inl x1] Z (zri Q))
    obtain ⟨c3, c4, v1, v2⟩ := v
    refine z_if2 (a := 3) (t := 26) (by rfl) (by rfl) c3 c4 (fun h5 => ?_) (fun h5 => ?_)
    · have v := v1 h5; clear v1 v2
      show TZ d 17 26 [some (.inr k), some (.inl x1)] [] Z (zri Q)
      refine z0 (op := 0) (a := 0) (b := 0) (by rfl) (by rfl) (?_ : TZ d 17 27 [some (.inr k), some (.inl x1)] [.inl 0] Z (zri Q))
      exact z_retb (by rfl) (by rfl) (by decide) v
    · have v := v2 h5; clear v1 v2
      show TZ d 17 12 [some (.inr k), some (.inl x1)] [] Z (zri Q)
      refine z0 (op := 5) (a := 0) (b := 0) (by rfl) (by rfl) (?_ : TZ d 17 13 [some (.inr k), some (.inl x1)] [.inr k] Z (zri Q))
      refine z_fr (by rfl) (fr7_F0 _ hk) (?_ : TZ d 17 16 [some (.inr k), some (.inl x1)] [.inr (k + 4)] Z (zri Q))
      refine z0 (op := 3) (a := 1) (b := 0) (by rfl) (by rfl) (?_ : TZ d 17 17 [some (.inr k), some (.inl x1)] [.inl x1, .inr (k + 4)] Z (zri Q))
      obtain ⟨c6, v⟩ := v
      refine z_al (by rfl) (ln_F4 _ hk) c6 (?_ : TZ d 17 18 [some (.inr k), some (.inl x1)] [.inl (Z (k + 4) x1)] Z (zri Q))
      refine z0 (op := 0) (a := 0) (b := 4) (by rfl) (by rfl) (?_ : TZ d 17 19 [some (.inr k), some (.inl x1)] [.inl 4, .inl (Z (k + 4) x1)] Z (zri Q))
      obtain ⟨c7, v1, v2⟩ := v
      refine z_if2 (a := 3) (t := 26) (by rfl) (by rfl) c7 (by decide) (fun h8 => ?_) (fun h8 => ?_)
      · have v := v1 h8; clear v1 v2
        show TZ d 17 26 [some (.inr k), some (.inl x1)] [] Z (zri Q)
        refine z0 (op := 0) (a := 0) (b := 0) (by rfl) (by rfl) (?_ : TZ d 17 27 [some (.inr k), some (.inl x1)] [.inl 0] Z (zri Q))
        exact z_retb (by rfl) (by rfl) (by decide) v
      · have v := v2 h8; clear v1 v2
        show TZ d 17 22 [some (.inr k), some (.inl x1)] [] Z (zri Q)
        refine z0 (op := 0) (a := 0) (b := 1) (by rfl) (by rfl) (?_ : TZ d 17 23 [some (.inr k), some (.inl x1)] [.inl 1] Z (zri Q))
        refine z_goto (t := 27) (by rfl) (by rfl) (?_ : TZ d 17 27 [some (.inr k), some (.inl x1)] [.inl 1] Z (zri Q))
        exact z_retb (by rfl) (by rfl) (by decide) v
theorem w18_0 {d : Nat} {k : Nat} {x1 x2 x3 : Int} {Z : zM} {Q : Int → zM → Prop} (hk : k ∈ zFl)
    (v : zR (Z k 5) ∧
      (8 ≤ (Z k 5) → Q (Z k 5) Z) ∧
      (¬ 8 ≤ (Z k 5) → TI d 17 [.inr k, .inl x3] Z (fun r4 Z3 =>
          zR r4 ∧
            (r4 = 0 → Q (Z k 5) Z3) ∧
            (¬ r4 = 0 → ((0 ≤ (Z k 5) ∧ (Z k 5) < 8) ∧
                ∀ Z8, Z8 = zup Z3 (k + 1) (Z k 5) x1 →
                (0 ≤ (Z k 5) ∧ (Z k 5) < 8) ∧
                ∀ Z10, Z10 = zup Z8 (k + 2) (Z k 5) x2 →
                (0 ≤ (Z k 5) ∧ (Z k 5) < 8) ∧
                ∀ Z12, Z12 = zup Z10 (k + 3) (Z k 5) x3 →
                (0 ≤ x3 ∧ x3 < 6) ∧
                (0 ≤ x3 ∧ x3 < 6) ∧
                ∀ Z15, Z15 = zup Z12 (k + 4) x3 ((Z12 (k + 4) x3) + 1) →
                ∀ Z16, Z16 = zup Z15 k 5 ((Z15 k 5) + 1) →
                Q (Z k 5) Z16))))) :
    TZ (d + 1) 18 0 [some (.inr k), some (.inl x1), some (.inl x2), some (.inl x3), none] [] Z (zri Q) := by
  refine z0 (op := 5) (a := 0) (b := 0) (by rfl) (by rfl) (?_ : TZ (d + 1) 18 1 [some (.inr k), some (.inl x1), some (.inl x2), some (.inl x3), none] [.inr k] Z (zri Q))
  refine z_fi (by rfl) (fi10_F0 _ hk) (?_ : TZ (d + 1) 18 4 [some (.inr k), some (.inl x1), some (.inl x2), some (.inl x3), none] [.inl (Z k 5)] Z (zri Q))
  refine z0 (op := 8) (a := 4) (b := 0) (by rfl) (by rfl) (?_ : TZ (d + 1) 18 6 [some (.inr k), some (.inl x1), some (.inl x2), some (.inl x3), some (.inl (Z k 5))] [] Z (zri Q))
  refine z0 (op := 4) (a := 4) (b := 0) (by rfl) (by rfl) (?_ : TZ (d + 1) 18 8 [some (.inr k), some (.inl x1), some (.inl x2), some (.inl x3), some (.inl (Z k 5))] [.inl (Z k 5)] Z (zri Q))
  refine z0 (op := 1) (a := 0) (b := 8) (by rfl) (by rfl) (?_ : TZ (d + 1) 18 10 [some (.inr k), some (.inl x1), some (.inl x2), some (.inl x3), some (.inl (Z k 5))] [.inl 8, .inl (Z k 5)] Z (zri Q))
  obtain ⟨c1, v1, v2⟩ := v
  refine z_if2 (a := 3) (t := 65) (by rfl) (by rfl) c1 (by decide) (fun h2 => ?_) (fun h2 => ?_)
  · have v := v1 h2; clear v1 v2
    show TZ (d + 1) 18 65 [some (.inr k), some (.inl x1), some (.inl x2), some (.inl x3), some (.inl (Z k 5))] [] Z (zri Q)
    refine z0 (op := 4) (a := 4) (b := 0) (by rfl) (by rfl) (?_ : TZ (d + 1) 18 67 [some (.inr k), some (.inl x1), some (.inl x2), some (.inl x3), some (.inl (Z k 5))] [.inl (Z k 5)] Z (zri Q))
    exact z_reti (by rfl) (by rfl) v
  · have v := v2 h2; clear v1 v2
    show TZ (d + 1) 18 13 [some (.inr k), some (.inl x1), some (.inl x2), some (.inl x3), some (.inl (Z k 5))] [] Z (zri Q)
    refine z0 (op := 5) (a := 0) (b := 0) (by rfl) (by rfl) (?_ : TZ (d + 1) 18 14 [some (.inr k), some (.inl x1), some (.inl x2), some (.inl x3), some (.inl (Z k 5))] [.inr k] Z (zri Q))
    refine z0 (op := 3) (a := 3) (b := 0) (by rfl) (by rfl) (?_ : TZ (d + 1) 18 15 [some (.inr k), some (.inl x1), some (.inl x2), some (.inl x3), some (.inl (Z k 5))] [.inl x3, .inr k] Z (zri Q))
    refine z_vi (by rfl) (by rfl) (cl_F0 _ hk) (TI.mono v fun r4 Z3 v => ?_)
    show TZ (d + 1) 18 18 [some (.inr k), some (.inl x1), some (.inl x2), some (.inl x3), some (.inl (Z k 5))] [.inl r4] Z3 (zri Q)
    obtain ⟨c5, v1, v2⟩ := v
    refine z_if0 (a := 0) (t := 65) (by rfl) (by rfl) c5 (fun h6 => ?_) (fun h6 => ?_)
    · have v := v1 h6; clear v1 v2
      show TZ (d + 1) 18 65 [some (.inr k), some (.inl x1), some (.inl x2), some (.inl x3), some (.inl (Z k 5))] [] Z3 (zri Q)
      refine z0 (op := 4) (a := 4) (b := 0) (by rfl) (by rfl) (?_ : TZ (d + 1) 18 67 [some (.inr k), some (.inl x1), some (.inl x2), some (.inl x3), some (.inl (Z k 5))] [.inl (Z k 5)] Z3 (zri Q))
      exact z_reti (by rfl) (by rfl) v
    · have v := v2 h6; clear v1 v2
      show TZ (d + 1) 18 21 [some (.inr k), some (.inl x1), some (.inl x2), some (.inl x3), some (.inl (Z k 5))] [] Z3 (zri Q)
      refine z0 (op := 5) (a := 0) (b := 0) (by rfl) (by rfl) (?_ : TZ (d + 1) 18 22 [some (.inr k), some (.inl x1), some (.inl x2), some (.inl x3), some (.inl (Z k 5))] [.inr k] Z3 (zri Q))
      refine z_fr (by rfl) (fr4_F0 _ hk) (?_ : TZ (d + 1) 18 25 [some (.inr k), some (.inl x1), some (.inl x2), some (.inl x3), some (.inl (Z k 5))] [.inr (k + 1)] Z3 (zri Q))
      refine z0 (op := 4) (a := 4) (b := 0) (by rfl) (by rfl) (?_ : TZ (d + 1) 18 27 [some (.inr k), some (.inl x1), some (.inl x2), some (.inl x3), some (.inl (Z k 5))] [.inl (Z k 5), .inr (k + 1)] Z3 (zri Q))
      refine z0 (op := 3) (a := 1) (b := 0) (by rfl) (by rfl) (?_ : TZ (d + 1) 18 28 [some (.inr k), some (.inl x1), some (.inl x2), some (.inl x3), some (.inl (Z k 5))] [.inl x1, .inl (Z k 5), .inr (k + 1)] Z3 (zri Q))
      obtain ⟨c7, v⟩ := v
      obtain ⟨Z8, eZ8⟩ : ∃ q, q = zup Z3 (k + 1) (Z k 5) x1 := ⟨_, rfl⟩
      have v := v Z8 eZ8
      refine z_as (by rfl) (ln_F1 _ hk) c7 ?_
      show TZ (d + 1) 18 29 [some (.inr k), some (.inl x1), some (.inl x2), some (.inl x3), some (.inl (Z k 5))] [] (zup Z3 (k + 1) (Z k 5) x1) _
      rw [← eZ8]
      refine z0 (op := 5) (a := 0) (b := 0) (by rfl) (by rfl) (?_ : TZ (d + 1) 18 30 [some (.inr k), some (.inl x1), some (.inl x2), some (.inl x3), some (.inl (Z k 5))] [.inr k] Z8 (zri Q))
      refine z_fr (by rfl) (fr5_F0 _ hk) (?_ : TZ (d + 1) 18 33 [some (.inr k), some (.inl x1), some (.inl x2), some (.inl x3), some (.inl (Z k 5))] [.inr (k + 2)] Z8 (zri Q))
      refine z0 (op := 4) (a := 4) (b := 0) (by rfl) (by rfl) (?_ : TZ (d + 1) 18 35 [some (.inr k), some (.inl x1), some (.inl x2), some (.inl x3), some (.inl (Z k 5))] [.inl (Z k 5), .inr (k + 2)] Z8 (zri Q))
      refine z0 (op := 3) (a := 2) (b := 0) (by rfl) (by rfl) (?_ : TZ (d + 1) 18 36 [some (.inr k), some (.inl x1), some (.inl x2), some (.inl x3), some (.inl (Z k 5))] [.inl x2, .inl (Z k 5), .inr (k + 2)] Z8 (zri Q))
      obtain ⟨c9, v⟩ := v
      obtain ⟨Z10, eZ10⟩ : ∃ q, q = zup Z8 (k + 2) (Z k 5) x2 := ⟨_, rfl⟩
      have v := v Z10 eZ10
      refine z_as (by rfl) (ln_F2 _ hk) c9 ?_
      show TZ (d + 1) 18 37 [some (.inr k), some (.inl x1), some (.inl x2), some (.inl x3), some (.inl (Z k 5))] [] (zup Z8 (k + 2) (Z k 5) x2) _
      rw [← eZ10]
      refine z0 (op := 5) (a := 0) (b := 0) (by rfl) (by rfl) (?_ : TZ (d + 1) 18 38 [some (.inr k), some (.inl x1), some (.inl x2), some (.inl x3), some (.inl (Z k 5))] [.inr k] Z10 (zri Q))
      refine z_fr (by rfl) (fr6_F0 _ hk) (?_ : TZ (d + 1) 18 41 [some (.inr k), some (.inl x1), some (.inl x2), some (.inl x3), some (.inl (Z k 5))] [.inr (k + 3)] Z10 (zri Q))
      refine z0 (op := 4) (a := 4) (b := 0) (by rfl) (by rfl) (?_ : TZ (d + 1) 18 43 [some (.inr k), some (.inl x1), some (.inl x2), some (.inl x3), some (.inl (Z k 5))] [.inl (Z k 5), .inr (k + 3)] Z10 (zri Q))
      refine z0 (op := 3) (a := 3) (b := 0) (by rfl) (by rfl) (?_ : TZ (d + 1) 18 44 [some (.inr k), some (.inl x1), some (.inl x2), some (.inl x3), some (.inl (Z k 5))] [.inl x3, .inl (Z k 5), .inr (k + 3)] Z10 (zri Q))
      obtain ⟨c11, v⟩ := v
      obtain ⟨Z12, eZ12⟩ : ∃ q, q = zup Z10 (k + 3) (Z k 5) x3 := ⟨_, rfl⟩
      have v := v Z12 eZ12
      refine z_as (by rfl) (ln_F3 _ hk) c11 ?_
      show TZ (d + 1) 18 45 [some (.inr k), some (.inl x1), some (.inl x2), some (.inl x3), some (.inl (Z k 5))] [] (zup Z10 (k + 3) (Z k 5) x3) _
      rw [← eZ12]
      refine z0 (op := 5) (a := 0) (b := 0) (by rfl) (by rfl) (?_ : TZ (d + 1) 18 46 [some (.inr k), some (.inl x1), some (.inl x2), some (.inl x3), some (.inl (Z k 5))] [.inr k] Z12 (zri Q))
      refine z_fr (by rfl) (fr7_F0 _ hk) (?_ : TZ (d + 1) 18 49 [some (.inr k), some (.inl x1), some (.inl x2), some (.inl x3), some (.inl (Z k 5))] [.inr (k + 4)] Z12 (zri Q))
      refine z0 (op := 3) (a := 3) (b := 0) (by rfl) (by rfl) (?_ : TZ (d + 1) 18 50 [some (.inr k), some (.inl x1), some (.inl x2), some (.inl x3), some (.inl (Z k 5))] [.inl x3, .inr (k + 4)] Z12 (zri Q))
      refine z0 (op := 16) (a := 0) (b := 0) (by rfl) (by rfl) (?_ : TZ (d + 1) 18 51 [some (.inr k), some (.inl x1), some (.inl x2), some (.inl x3), some (.inl (Z k 5))] [.inl x3, .inr (k + 4), .inl x3, .inr (k + 4)] Z12 (zri Q))
      obtain ⟨c13, v⟩ := v
      refine z_al (by rfl) (ln_F4 _ hk) c13 (?_ : TZ (d + 1) 18 52 [some (.inr k), some (.inl x1), some (.inl x2), some (.inl x3), some (.inl (Z k 5))] [.inl (Z12 (k + 4) x3), .inl x3, .inr (k + 4)] Z12 (zri Q))
      refine z0 (op := 0) (a := 0) (b := 1) (by rfl) (by rfl) (?_ : TZ (d + 1) 18 53 [some (.inr k), some (.inl x1), some (.inl x2), some (.inl x3), some (.inl (Z k 5))] [.inl 1, .inl (Z12 (k + 4) x3), .inl x3, .inr (k + 4)] Z12 (zri Q))
      refine z0 (op := 12) (a := 0) (b := 0) (by rfl) (by rfl) (?_ : TZ (d + 1) 18 54 [some (.inr k), some (.inl x1), some (.inl x2), some (.inl x3), some (.inl (Z k 5))] [.inl ((Z12 (k + 4) x3) + 1), .inl x3, .inr (k + 4)] Z12 (zri Q))
      obtain ⟨c14, v⟩ := v
      obtain ⟨Z15, eZ15⟩ : ∃ q, q = zup Z12 (k + 4) x3 ((Z12 (k + 4) x3) + 1) := ⟨_, rfl⟩
      have v := v Z15 eZ15
      refine z_as (by rfl) (ln_F4 _ hk) c14 ?_
      show TZ (d + 1) 18 55 [some (.inr k), some (.inl x1), some (.inl x2), some (.inl x3), some (.inl (Z k 5))] [] (zup Z12 (k + 4) x3 ((Z12 (k + 4) x3) + 1)) _
      rw [← eZ15]
      refine z0 (op := 5) (a := 0) (b := 0) (by rfl) (by rfl) (?_ : TZ (d + 1) 18 56 [some (.inr k), some (.inl x1), some (.inl x2), some (.inl x3), some (.inl (Z k 5))] [.inr k] Z15 (zri Q))
      refine z0 (op := 15) (a := 0) (b := 0) (by rfl) (by rfl) (?_ : TZ (d + 1) 18 57 [some (.inr k), some (.inl x1), some (.inl x2), some (.inl x3), some (.inl (Z k 5))] [.inr k, .inr k] Z15 (zri Q))
      refine z_fi (by rfl) (fi10_F0 _ hk) (?_ : TZ (d + 1) 18 60 [some (.inr k), some (.inl x1), some (.inl x2), some (.inl x3), some (.inl (Z k 5))] [.inl (Z15 k 5), .inr k] Z15 (zri Q))
      refine z0 (op := 0) (a := 0) (b := 1) (by rfl) (by rfl) (?_ : TZ (d + 1) 18 61 [some (.inr k), some (.inl x1), some (.inl x2), some (.inl x3), some (.inl (Z k 5))] [.inl 1, .inl (Z15 k 5), .inr k] Z15 (zri Q))
      refine z0 (op := 12) (a := 0) (b := 0) (by rfl) (by rfl) (?_ : TZ (d + 1) 18 62 [some (.inr k), some (.inl x1), some (.inl x2), some (.inl x3), some (.inl (Z k 5))] [.inl ((Z15 k 5) + 1), .inr k] Z15 (zri Q))
      obtain ⟨Z16, eZ16⟩ : ∃ q, q = zup Z15 k 5 ((Z15 k 5) + 1) := ⟨_, rfl⟩
      have v := v Z16 eZ16
      refine z_pf (by rfl) (pf10_F0 _ hk) (fun h => nomatch h) ?_
      show TZ (d + 1) 18 65 [some (.inr k), some (.inl x1), some (.inl x2), some (.inl x3), some (.inl (Z k 5))] [] (zup Z15 k 5 ((Z15 k 5) + 1)) _
      rw [← eZ16]
      refine z0 (op := 4) (a := 4) (b := 0) (by rfl) (by rfl) (?_ : TZ (d + 1) 18 67 [some (.inr k), some (.inl x1), some (.inl x2), some (.inl x3), some (.inl (Z k 5))] [.inl (Z k 5)] Z16 (zri Q))
      exact z_reti (by rfl) (by rfl) v
theorem w19_0 {d : Nat} {k : Nat} {x1 x2 : Int} {Z : zM} {Q : zM → Prop} (hk : k ∈ zFl)
    (v : (0 ≤ x1 ∧ x1 < 6) ∧
      (0 ≤ x1 ∧ x1 < 6) ∧
      ∀ Z3, Z3 = zup Z (k + 4) x1 ((Z (k + 4) x1) - 1) →
      (0 ≤ x2 ∧ x2 < 6) ∧
      (0 ≤ x2 ∧ x2 < 6) ∧
      ∀ Z6, Z6 = zup Z3 (k + 4) x2 ((Z3 (k + 4) x2) + 1) →
      Q Z6) :
    TZ d 19 0 [some (.inr k), some (.inl x1), some (.inl x2)] [] Z (zrv Q) := by
  refine z0 (op := 5) (a := 0) (b := 0) (by rfl) (by rfl) (?_ : TZ d 19 1 [some (.inr k), some (.inl x1), some (.inl x2)] [.inr k] Z (zrv Q))
  refine z_fr (by rfl) (fr7_F0 _ hk) (?_ : TZ d 19 4 [some (.inr k), some (.inl x1), some (.inl x2)] [.inr (k + 4)] Z (zrv Q))
  refine z0 (op := 3) (a := 1) (b := 0) (by rfl) (by rfl) (?_ : TZ d 19 5 [some (.inr k), some (.inl x1), some (.inl x2)] [.inl x1, .inr (k + 4)] Z (zrv Q))
  refine z0 (op := 16) (a := 0) (b := 0) (by rfl) (by rfl) (?_ : TZ d 19 6 [some (.inr k), some (.inl x1), some (.inl x2)] [.inl x1, .inr (k + 4), .inl x1, .inr (k + 4)] Z (zrv Q))
  obtain ⟨c1, v⟩ := v
  refine z_al (by rfl) (ln_F4 _ hk) c1 (?_ : TZ d 19 7 [some (.inr k), some (.inl x1), some (.inl x2)] [.inl (Z (k + 4) x1), .inl x1, .inr (k + 4)] Z (zrv Q))
  refine z0 (op := 0) (a := 0) (b := 1) (by rfl) (by rfl) (?_ : TZ d 19 8 [some (.inr k), some (.inl x1), some (.inl x2)] [.inl 1, .inl (Z (k + 4) x1), .inl x1, .inr (k + 4)] Z (zrv Q))
  refine z0 (op := 12) (a := 1) (b := 0) (by rfl) (by rfl) (?_ : TZ d 19 9 [some (.inr k), some (.inl x1), some (.inl x2)] [.inl ((Z (k + 4) x1) - 1), .inl x1, .inr (k + 4)] Z (zrv Q))
  obtain ⟨c2, v⟩ := v
  obtain ⟨Z3, eZ3⟩ : ∃ q, q = zup Z (k + 4) x1 ((Z (k + 4) x1) - 1) := ⟨_, rfl⟩
  have v := v Z3 eZ3
  refine z_as (by rfl) (ln_F4 _ hk) c2 ?_
  show TZ d 19 10 [some (.inr k), some (.inl x1), some (.inl x2)] [] (zup Z (k + 4) x1 ((Z (k + 4) x1) - 1)) _
  rw [← eZ3]
  refine z0 (op := 5) (a := 0) (b := 0) (by rfl) (by rfl) (?_ : TZ d 19 11 [some (.inr k), some (.inl x1), some (.inl x2)] [.inr k] Z3 (zrv Q))
  refine z_fr (by rfl) (fr7_F0 _ hk) (?_ : TZ d 19 14 [some (.inr k), some (.inl x1), some (.inl x2)] [.inr (k + 4)] Z3 (zrv Q))
  refine z0 (op := 3) (a := 2) (b := 0) (by rfl) (by rfl) (?_ : TZ d 19 15 [some (.inr k), some (.inl x1), some (.inl x2)] [.inl x2, .inr (k + 4)] Z3 (zrv Q))
  refine z0 (op := 16) (a := 0) (b := 0) (by rfl) (by rfl) (?_ : TZ d 19 16 [some (.inr k), some (.inl x1), some (.inl x2)] [.inl x2, .inr (k + 4), .inl x2, .inr (k + 4)] Z3 (zrv Q))
  obtain ⟨c4, v⟩ := v
  refine z_al (by rfl) (ln_F4 _ hk) c4 (?_ : TZ d 19 17 [some (.inr k), some (.inl x1), some (.inl x2)] [.inl (Z3 (k + 4) x2), .inl x2, .inr (k + 4)] Z3 (zrv Q))
  refine z0 (op := 0) (a := 0) (b := 1) (by rfl) (by rfl) (?_ : TZ d 19 18 [some (.inr k), some (.inl x1), some (.inl x2)] [.inl 1, .inl (Z3 (k + 4) x2), .inl x2, .inr (k + 4)] Z3 (zrv Q))
  refine z0 (op := 12) (a := 0) (b := 0) (by rfl) (by rfl) (?_ : TZ d 19 19 [some (.inr k), some (.inl x1), some (.inl x2)] [.inl ((Z3 (k + 4) x2) + 1), .inl x2, .inr (k + 4)] Z3 (zrv Q))
  obtain ⟨c5, v⟩ := v
  obtain ⟨Z6, eZ6⟩ : ∃ q, q = zup Z3 (k + 4) x2 ((Z3 (k + 4) x2) + 1) := ⟨_, rfl⟩
  have v := v Z6 eZ6
  refine z_as (by rfl) (ln_F4 _ hk) c5 ?_
  show TZ d 19 20 [some (.inr k), some (.inl x1), some (.inl x2)] [] (zup Z3 (k + 4) x2 ((Z3 (k + 4) x2) + 1)) _
  rw [← eZ6]
  exact z_retv (by rfl) (by rfl) v
theorem w20_0 {d : Nat} {k : Nat} {x1 x2 : Int} {Z : zM} {Q : zM → Prop} (hk : k ∈ zFl)
    (v : (0 ≤ x1 ∧ x1 < 8) ∧
      TV d 19 [.inr k, .inl (Z (k + 3) x1), .inl x2] Z (fun Z2 =>
      (0 ≤ x1 ∧ x1 < 8) ∧
        ∀ Z4, Z4 = zup Z2 (k + 3) x1 x2 →
        Q Z4)) :
    TZ (d + 1) 20 0 [some (.inr k), some (.inl x1), some (.inl x2)] [] Z (zrv Q) := by
  refine z0 (op := 5) (a := 0) (b := 0) (by rfl) (by rfl) (?_ : TZ (d + 1) 20 1 [some (.inr k), some (.inl x1), some (.inl x2)] [.inr k] Z (zrv Q))
  refine z0 (op := 5) (a := 0) (b := 0) (by rfl) (by rfl) (?_ : TZ (d + 1) 20 2 [some (.inr k), some (.inl x1), some (.inl x2)] [.inr k, .inr k] Z (zrv Q))
  refine z_fr (by rfl) (fr6_F0 _ hk) (?_ : TZ (d + 1) 20 5 [some (.inr k), some (.inl x1), some (.inl x2)] [.inr (k + 3), .inr k] Z (zrv Q))
  refine z0 (op := 3) (a := 1) (b := 0) (by rfl) (by rfl) (?_ : TZ (d + 1) 20 6 [some (.inr k), some (.inl x1), some (.inl x2)] [.inl x1, .inr (k + 3), .inr k] Z (zrv Q))
  obtain ⟨c1, v⟩ := v
  refine z_al (by rfl) (ln_F3 _ hk) c1 (?_ : TZ (d + 1) 20 7 [some (.inr k), some (.inl x1), some (.inl x2)] [.inl (Z (k + 3) x1), .inr k] Z (zrv Q))
  refine z0 (op := 3) (a := 2) (b := 0) (by rfl) (by rfl) (?_ : TZ (d + 1) 20 8 [some (.inr k), some (.inl x1), some (.inl x2)] [.inl x2, .inl (Z (k + 3) x1), .inr k] Z (zrv Q))
  refine z_vv (by rfl) (by rfl) (cl_F0 _ hk) (TV.mono v fun Z2 v => ?_)
  show TZ (d + 1) 20 11 [some (.inr k), some (.inl x1), some (.inl x2)] [] Z2 (zrv Q)
  refine z0 (op := 5) (a := 0) (b := 0) (by rfl) (by rfl) (?_ : TZ (d + 1) 20 12 [some (.inr k), some (.inl x1), some (.inl x2)] [.inr k] Z2 (zrv Q))
  refine z_fr (by rfl) (fr6_F0 _ hk) (?_ : TZ (d + 1) 20 15 [some (.inr k), some (.inl x1), some (.inl x2)] [.inr (k + 3)] Z2 (zrv Q))
  refine z0 (op := 3) (a := 1) (b := 0) (by rfl) (by rfl) (?_ : TZ (d + 1) 20 16 [some (.inr k), some (.inl x1), some (.inl x2)] [.inl x1, .inr (k + 3)] Z2 (zrv Q))
  refine z0 (op := 3) (a := 2) (b := 0) (by rfl) (by rfl) (?_ : TZ (d + 1) 20 17 [some (.inr k), some (.inl x1), some (.inl x2)] [.inl x2, .inl x1, .inr (k + 3)] Z2 (zrv Q))
  obtain ⟨c3, v⟩ := v
  obtain ⟨Z4, eZ4⟩ : ∃ q, q = zup Z2 (k + 3) x1 x2 := ⟨_, rfl⟩
  have v := v Z4 eZ4
  refine z_as (by rfl) (ln_F3 _ hk) c3 ?_
  show TZ (d + 1) 20 18 [some (.inr k), some (.inl x1), some (.inl x2)] [] (zup Z2 (k + 3) x1 x2) _
  rw [← eZ4]
  exact z_retv (by rfl) (by rfl) v
theorem w21_0 {d : Nat} {k : Nat} {x1 : Int} {Z : zM} {Q : zM → Prop} (hk : k ∈ zFl)
    (v : zR x1 ∧
      (x1 ≠ 0 → (zR x1 ∧
          (x1 = 0 → ∀ Z5, Z5 = zup Z k 6 5 →
              Q Z5) ∧
          (¬ x1 = 0 → ∀ Z6, Z6 = zup Z k 6 6 →
              Q Z6))) ∧
      (¬ x1 ≠ 0 → (zR (Z k 6) ∧
          ((Z k 6) ≠ 6 → (zR x1 ∧
              (x1 = 0 → ∀ Z11, Z11 = zup Z k 6 5 →
                  Q Z11) ∧
              (¬ x1 = 0 → ∀ Z12, Z12 = zup Z k 6 6 →
                  Q Z12))) ∧
          (¬ (Z k 6) ≠ 6 → TI d 32 [.inr k, .inl 5] Z (fun r14 Z13 =>
              zR x1 ∧
                (x1 = 0 → ∀ Z17, Z17 = zup Z13 k 6 5 →
                    Q Z17) ∧
                (¬ x1 = 0 → ∀ Z18, Z18 = zup Z13 k 6 6 →
                    Q Z18)))))) :
    TZ (d + 1) 21 0 [some (.inr k), some (.inl x1)] [] Z (zrv Q) := by
  refine z0 (op := 3) (a := 1) (b := 0) (by rfl) (by rfl) (?_ : TZ (d + 1) 21 1 [some (.inr k), some (.inl x1)] [.inl x1] Z (zrv Q))
  obtain ⟨c1, v1, v2⟩ := v
  refine z_if0 (a := 1) (t := 19) (by rfl) (by rfl) c1 (fun h2 => ?_) (fun h2 => ?_)
  · have v := v1 h2; clear v1 v2
    show TZ (d + 1) 21 19 [some (.inr k), some (.inl x1)] [] Z (zrv Q)
    refine z0 (op := 5) (a := 0) (b := 0) (by rfl) (by rfl) (?_ : TZ (d + 1) 21 20 [some (.inr k), some (.inl x1)] [.inr k] Z (zrv Q))
    refine z0 (op := 3) (a := 1) (b := 0) (by rfl) (by rfl) (?_ : TZ (d + 1) 21 21 [some (.inr k), some (.inl x1)] [.inl x1, .inr k] Z (zrv Q))
    obtain ⟨c3, v1, v2⟩ := v
    refine z_if0 (a := 0) (t := 29) (by rfl) (by rfl) c3 (fun h4 => ?_) (fun h4 => ?_)
    · have v := v1 h4; clear v1 v2
      show TZ (d + 1) 21 29 [some (.inr k), some (.inl x1)] [.inr k] Z (zrv Q)
      refine z0 (op := 0) (a := 0) (b := 5) (by rfl) (by rfl) (?_ : TZ (d + 1) 21 30 [some (.inr k), some (.inl x1)] [.inl 5, .inr k] Z (zrv Q))
      obtain ⟨Z5, eZ5⟩ : ∃ q, q = zup Z k 6 5 := ⟨_, rfl⟩
      have v := v Z5 eZ5
      refine z_pf (by rfl) (pf9_F0 _ hk) (fun h => nomatch h) ?_
      show TZ (d + 1) 21 33 [some (.inr k), some (.inl x1)] [] (zup Z k 6 5) _
      rw [← eZ5]
      exact z_retv (by rfl) (by rfl) v
    · have v := v2 h4; clear v1 v2
      show TZ (d + 1) 21 24 [some (.inr k), some (.inl x1)] [.inr k] Z (zrv Q)
      refine z0 (op := 1) (a := 0) (b := 6) (by rfl) (by rfl) (?_ : TZ (d + 1) 21 26 [some (.inr k), some (.inl x1)] [.inl 6, .inr k] Z (zrv Q))
      refine z_goto (t := 30) (by rfl) (by rfl) (?_ : TZ (d + 1) 21 30 [some (.inr k), some (.inl x1)] [.inl 6, .inr k] Z (zrv Q))
      obtain ⟨Z6, eZ6⟩ : ∃ q, q = zup Z k 6 6 := ⟨_, rfl⟩
      have v := v Z6 eZ6
      refine z_pf (by rfl) (pf9_F0 _ hk) (fun h => nomatch h) ?_
      show TZ (d + 1) 21 33 [some (.inr k), some (.inl x1)] [] (zup Z k 6 6) _
      rw [← eZ6]
      exact z_retv (by rfl) (by rfl) v
  · have v := v2 h2; clear v1 v2
    show TZ (d + 1) 21 4 [some (.inr k), some (.inl x1)] [] Z (zrv Q)
    refine z0 (op := 5) (a := 0) (b := 0) (by rfl) (by rfl) (?_ : TZ (d + 1) 21 5 [some (.inr k), some (.inl x1)] [.inr k] Z (zrv Q))
    refine z_fi (by rfl) (fi9_F0 _ hk) (?_ : TZ (d + 1) 21 8 [some (.inr k), some (.inl x1)] [.inl (Z k 6)] Z (zrv Q))
    refine z0 (op := 1) (a := 0) (b := 6) (by rfl) (by rfl) (?_ : TZ (d + 1) 21 10 [some (.inr k), some (.inl x1)] [.inl 6, .inl (Z k 6)] Z (zrv Q))
    obtain ⟨c7, v1, v2⟩ := v
    refine z_if2 (a := 1) (t := 19) (by rfl) (by rfl) c7 (by decide) (fun h8 => ?_) (fun h8 => ?_)
    · have v := v1 h8; clear v1 v2
      show TZ (d + 1) 21 19 [some (.inr k), some (.inl x1)] [] Z (zrv Q)
      refine z0 (op := 5) (a := 0) (b := 0) (by rfl) (by rfl) (?_ : TZ (d + 1) 21 20 [some (.inr k), some (.inl x1)] [.inr k] Z (zrv Q))
      refine z0 (op := 3) (a := 1) (b := 0) (by rfl) (by rfl) (?_ : TZ (d + 1) 21 21 [some (.inr k), some (.inl x1)] [.inl x1, .inr k] Z (zrv Q))
      obtain ⟨c9, v1, v2⟩ := v
      refine z_if0 (a := 0) (t := 29) (by rfl) (by rfl) c9 (fun h10 => ?_) (fun h10 => ?_)
      · have v := v1 h10; clear v1 v2
        show TZ (d + 1) 21 29 [some (.inr k), some (.inl x1)] [.inr k] Z (zrv Q)
        refine z0 (op := 0) (a := 0) (b := 5) (by rfl) (by rfl) (?_ : TZ (d + 1) 21 30 [some (.inr k), some (.inl x1)] [.inl 5, .inr k] Z (zrv Q))
        obtain ⟨Z11, eZ11⟩ : ∃ q, q = zup Z k 6 5 := ⟨_, rfl⟩
        have v := v Z11 eZ11
        refine z_pf (by rfl) (pf9_F0 _ hk) (fun h => nomatch h) ?_
        show TZ (d + 1) 21 33 [some (.inr k), some (.inl x1)] [] (zup Z k 6 5) _
        rw [← eZ11]
        exact z_retv (by rfl) (by rfl) v
      · have v := v2 h10; clear v1 v2
        show TZ (d + 1) 21 24 [some (.inr k), some (.inl x1)] [.inr k] Z (zrv Q)
        refine z0 (op := 1) (a := 0) (b := 6) (by rfl) (by rfl) (?_ : TZ (d + 1) 21 26 [some (.inr k), some (.inl x1)] [.inl 6, .inr k] Z (zrv Q))
        refine z_goto (t := 30) (by rfl) (by rfl) (?_ : TZ (d + 1) 21 30 [some (.inr k), some (.inl x1)] [.inl 6, .inr k] Z (zrv Q))
        obtain ⟨Z12, eZ12⟩ : ∃ q, q = zup Z k 6 6 := ⟨_, rfl⟩
        have v := v Z12 eZ12
        refine z_pf (by rfl) (pf9_F0 _ hk) (fun h => nomatch h) ?_
        show TZ (d + 1) 21 33 [some (.inr k), some (.inl x1)] [] (zup Z k 6 6) _
        rw [← eZ12]
        exact z_retv (by rfl) (by rfl) v
    · have v := v2 h8; clear v1 v2
      show TZ (d + 1) 21 13 [some (.inr k), some (.inl x1)] [] Z (zrv Q)
      refine z0 (op := 5) (a := 0) (b := 0) (by rfl) (by rfl) (?_ : TZ (d + 1) 21 14 [some (.inr k), some (.inl x1)] [.inr k] Z (zrv Q))
      refine z0 (op := 0) (a := 0) (b := 5) (by rfl) (by rfl) (?_ : TZ (d + 1) 21 15 [some (.inr k), some (.inl x1)] [.inl 5, .inr k] Z (zrv Q))
      refine z_vi (by rfl) (by rfl) (cl_F0 _ hk) (TI.mono v fun r14 Z13 v => ?_)
      show TZ (d + 1) 21 18 [some (.inr k), some (.inl x1)] [.inl r14] Z13 (zrv Q)
      refine z0 (op := 14) (a := 0) (b := 0) (by rfl) (by rfl) (?_ : TZ (d + 1) 21 19 [some (.inr k), some (.inl x1)] [] Z13 (zrv Q))
      refine z0 (op := 5) (a := 0) (b := 0) (by rfl) (by rfl) (?_ : TZ (d + 1) 21 20 [some (.inr k), some (.inl x1)] [.inr k] Z13 (zrv Q))
      refine z0 (op := 3) (a := 1) (b := 0) (by rfl) (by rfl) (?_ : TZ (d + 1) 21 21 [some (.inr k), some (.inl x1)] [.inl x1, .inr k] Z13 (zrv Q))
      obtain ⟨c15, v1, v2⟩ := v
      refine z_if0 (a := 0) (t := 29) (by rfl) (by rfl) c15 (fun h16 => ?_) (fun h16 => ?_)
      · have v := v1 h16; clear v1 v2
        show TZ (d + 1) 21 29 [some (.inr k), some (.inl x1)] [.inr k] Z13 (zrv Q)
        refine z0 (op := 0) (a := 0) (b := 5) (by rfl) (by rfl) (?_ : TZ (d + 1) 21 30 [some (.inr k), some (.inl x1)] [.inl 5, .inr k] Z13 (zrv Q))
        obtain ⟨Z17, eZ17⟩ : ∃ q, q = zup Z13 k 6 5 := ⟨_, rfl⟩
        have v := v Z17 eZ17
        refine z_pf (by rfl) (pf9_F0 _ hk) (fun h => nomatch h) ?_
        show TZ (d + 1) 21 33 [some (.inr k), some (.inl x1)] [] (zup Z13 k 6 5) _
        rw [← eZ17]
        exact z_retv (by rfl) (by rfl) v
      · have v := v2 h16; clear v1 v2
        show TZ (d + 1) 21 24 [some (.inr k), some (.inl x1)] [.inr k] Z13 (zrv Q)
        refine z0 (op := 1) (a := 0) (b := 6) (by rfl) (by rfl) (?_ : TZ (d + 1) 21 26 [some (.inr k), some (.inl x1)] [.inl 6, .inr k] Z13 (zrv Q))
        refine z_goto (t := 30) (by rfl) (by rfl) (?_ : TZ (d + 1) 21 30 [some (.inr k), some (.inl x1)] [.inl 6, .inr k] Z13 (zrv Q))
        obtain ⟨Z18, eZ18⟩ : ∃ q, q = zup Z13 k 6 6 := ⟨_, rfl⟩
        have v := v Z18 eZ18
        refine z_pf (by rfl) (pf9_F0 _ hk) (fun h => nomatch h) ?_
        show TZ (d + 1) 21 33 [some (.inr k), some (.inl x1)] [] (zup Z13 k 6 6) _
        rw [← eZ18]
        exact z_retv (by rfl) (by rfl) v
theorem w22_0 {d : Nat} {k : Nat} {Z : zM} {Q : Int → zM → Prop} (hk : k ∈ zFl)
    (v : TZ d 22 4 [some (.inr k), some (.inl 0), some (.inl 0)] [] Z (zri Q)) :
    TZ d 22 0 [some (.inr k), none, none] [] Z (zri Q) := by
  refine z0 (op := 0) (a := 0) (b := 0) (by rfl) (by rfl) (?_ : TZ d 22 1 [some (.inr k), none, none] [.inl 0] Z (zri Q))
  refine z0 (op := 7) (a := 1) (b := 0) (by rfl) (by rfl) (?_ : TZ d 22 2 [some (.inr k), some (.inl 0), none] [] Z (zri Q))
  refine z0 (op := 0) (a := 0) (b := 0) (by rfl) (by rfl) (?_ : TZ d 22 3 [some (.inr k), some (.inl 0), none] [.inl 0] Z (zri Q))
  refine z0 (op := 7) (a := 2) (b := 0) (by rfl) (by rfl) (?_ : TZ d 22 4 [some (.inr k), some (.inl 0), some (.inl 0)] [] Z (zri Q))
  exact v
theorem w22_4 {d : Nat} {k : Nat} {x1 x2 : Int} {Z : zM} {Q : Int → zM → Prop} (hk : k ∈ zFl)
    (v : zR x2 ∧
      zR (Z k 6) ∧
      ((Z k 6) ≤ x2 → (zR x1 ∧ Q (Int.tmod x1 12) Z)) ∧
      (¬ (Z k 6) ≤ x2 → ((0 ≤ x2 ∧ x2 < 6) ∧
          (0 ≤ x2 ∧ x2 < 6) ∧ TZ d 22 4 [some (.inr k), some (.inl (x1 + ((Z (k + 5) x2) * (Z (k + 4) x2)))), some (.inl (x2 + 1))] [] Z (zri Q)))) :
    TZ d 22 4 [some (.inr k), some (.inl x1), some (.inl x2)] [] Z (zri Q) := by
  refine z0 (op := 3) (a := 2) (b := 0) (by rfl) (by rfl) (?_ : TZ d 22 5 [some (.inr k), some (.inl x1), some (.inl x2)] [.inl x2] Z (zri Q))
  refine z0 (op := 5) (a := 0) (b := 0) (by rfl) (by rfl) (?_ : TZ d 22 6 [some (.inr k), some (.inl x1), some (.inl x2)] [.inr k, .inl x2] Z (zri Q))
  refine z_fi (by rfl) (fi9_F0 _ hk) (?_ : TZ d 22 9 [some (.inr k), some (.inl x1), some (.inl x2)] [.inl (Z k 6), .inl x2] Z (zri Q))
  obtain ⟨c1, c2, v1, v2⟩ := v
  refine z_if2 (a := 3) (t := 34) (by rfl) (by rfl) c1 c2 (fun h3 => ?_) (fun h3 => ?_)
  · have v := v1 h3; clear v1 v2
    show TZ d 22 34 [some (.inr k), some (.inl x1), some (.inl x2)] [] Z (zri Q)
    refine z0 (op := 3) (a := 1) (b := 0) (by rfl) (by rfl) (?_ : TZ d 22 35 [some (.inr k), some (.inl x1), some (.inl x2)] [.inl x1] Z (zri Q))
    refine z0 (op := 1) (a := 0) (b := 12) (by rfl) (by rfl) (?_ : TZ d 22 37 [some (.inr k), some (.inl x1), some (.inl x2)] [.inl 12, .inl x1] Z (zri Q))
    obtain ⟨c4, v⟩ := v
    refine z_rem (by rfl) c4 (by decide) (?_ : TZ d 22 38 [some (.inr k), some (.inl x1), some (.inl x2)] [.inl (Int.tmod x1 12)] Z (zri Q))
    exact z_reti (by rfl) (by rfl) v
  · have v := v2 h3; clear v1 v2
    show TZ d 22 12 [some (.inr k), some (.inl x1), some (.inl x2)] [] Z (zri Q)
    refine z0 (op := 3) (a := 1) (b := 0) (by rfl) (by rfl) (?_ : TZ d 22 13 [some (.inr k), some (.inl x1), some (.inl x2)] [.inl x1] Z (zri Q))
    refine z0 (op := 5) (a := 0) (b := 0) (by rfl) (by rfl) (?_ : TZ d 22 14 [some (.inr k), some (.inl x1), some (.inl x2)] [.inr k, .inl x1] Z (zri Q))
    refine z_fr (by rfl) (fr8_F0 _ hk) (?_ : TZ d 22 17 [some (.inr k), some (.inl x1), some (.inl x2)] [.inr (k + 5), .inl x1] Z (zri Q))
    refine z0 (op := 3) (a := 2) (b := 0) (by rfl) (by rfl) (?_ : TZ d 22 18 [some (.inr k), some (.inl x1), some (.inl x2)] [.inl x2, .inr (k + 5), .inl x1] Z (zri Q))
    obtain ⟨c5, v⟩ := v
    refine z_al (by rfl) (ln_F5 _ hk) c5 (?_ : TZ d 22 19 [some (.inr k), some (.inl x1), some (.inl x2)] [.inl (Z (k + 5) x2), .inl x1] Z (zri Q))
    refine z0 (op := 5) (a := 0) (b := 0) (by rfl) (by rfl) (?_ : TZ d 22 20 [some (.inr k), some (.inl x1), some (.inl x2)] [.inr k, .inl (Z (k + 5) x2), .inl x1] Z (zri Q))
    refine z_fr (by rfl) (fr7_F0 _ hk) (?_ : TZ d 22 23 [some (.inr k), some (.inl x1), some (.inl x2)] [.inr (k + 4), .inl (Z (k + 5) x2), .inl x1] Z (zri Q))
    refine z0 (op := 3) (a := 2) (b := 0) (by rfl) (by rfl) (?_ : TZ d 22 24 [some (.inr k), some (.inl x1), some (.inl x2)] [.inl x2, .inr (k + 4), .inl (Z (k + 5) x2), .inl x1] Z (zri Q))
    obtain ⟨c6, v⟩ := v
    refine z_al (by rfl) (ln_F4 _ hk) c6 (?_ : TZ d 22 25 [some (.inr k), some (.inl x1), some (.inl x2)] [.inl (Z (k + 4) x2), .inl (Z (k + 5) x2), .inl x1] Z (zri Q))
    refine z0 (op := 12) (a := 2) (b := 0) (by rfl) (by rfl) (?_ : TZ d 22 26 [some (.inr k), some (.inl x1), some (.inl x2)] [.inl ((Z (k + 5) x2) * (Z (k + 4) x2)), .inl x1] Z (zri Q))
    refine z0 (op := 12) (a := 0) (b := 0) (by rfl) (by rfl) (?_ : TZ d 22 27 [some (.inr k), some (.inl x1), some (.inl x2)] [.inl (x1 + ((Z (k + 5) x2) * (Z (k + 4) x2)))] Z (zri Q))
    refine z0 (op := 7) (a := 1) (b := 0) (by rfl) (by rfl) (?_ : TZ d 22 28 [some (.inr k), some (.inl (x1 + ((Z (k + 5) x2) * (Z (k + 4) x2)))), some (.inl x2)] [] Z (zri Q))
    refine z0 (op := 11) (a := 2) (b := 1) (by rfl) (by rfl) (?_ : TZ d 22 31 [some (.inr k), some (.inl (x1 + ((Z (k + 5) x2) * (Z (k + 4) x2)))), some (.inl (x2 + 1))] [] Z (zri Q))
    refine z_goto (t := 4) (by rfl) (by rfl) (?_ : TZ d 22 4 [some (.inr k), some (.inl (x1 + ((Z (k + 5) x2) * (Z (k + 4) x2)))), some (.inl (x2 + 1))] [] Z (zri Q))
    exact v
theorem w23_0 {d : Nat} {k : Nat} {Z : zM} {Q : Int → zM → Prop} (hk : k ∈ zFl)
    (v : TI d 22 [.inr k] Z (fun r2 Z1 =>
      TI d 152 [.inl r2, .inl (Z1 k 7)] Z1 (fun r4 Z3 =>
        Q r4 Z3))) :
    TZ (d + 1) 23 0 [some (.inr k)] [] Z (zri Q) := by
  refine z0 (op := 5) (a := 0) (b := 0) (by rfl) (by rfl) (?_ : TZ (d + 1) 23 1 [some (.inr k)] [.inr k] Z (zri Q))
  refine z_vi (by rfl) (by rfl) (cl_F0 _ hk) (TI.mono v fun r2 Z1 v => ?_)
  show TZ (d + 1) 23 4 [some (.inr k)] [.inl r2] Z1 (zri Q)
  refine z0 (op := 5) (a := 0) (b := 0) (by rfl) (by rfl) (?_ : TZ (d + 1) 23 5 [some (.inr k)] [.inr k, .inl r2] Z1 (zri Q))
  refine z_fi (by rfl) (fi11_F0 _ hk) (?_ : TZ (d + 1) 23 8 [some (.inr k)] [.inl (Z1 k 7), .inl r2] Z1 (zri Q))
  refine z_si (by rfl) (by rfl) (TI.mono v fun r4 Z3 v => ?_)
  show TZ (d + 1) 23 11 [some (.inr k)] [.inl r4] Z3 (zri Q)
  exact z_reti (by rfl) (by rfl) v
theorem w24_0 {d : Nat} {k : Nat} {Z : zM} {Q : Int → zM → Prop} (hk : k ∈ zFl)
    (v : TZ d 24 4 [some (.inr k), some (.inl 0), some (.inl 0)] [] Z (zri Q)) :
    TZ d 24 0 [some (.inr k), none, none] [] Z (zri Q) := by
  refine z0 (op := 0) (a := 0) (b := 0) (by rfl) (by rfl) (?_ : TZ d 24 1 [some (.inr k), none, none] [.inl 0] Z (zri Q))
  refine z0 (op := 7) (a := 1) (b := 0) (by rfl) (by rfl) (?_ : TZ d 24 2 [some (.inr k), some (.inl 0), none] [] Z (zri Q))
  refine z0 (op := 0) (a := 0) (b := 0) (by rfl) (by rfl) (?_ : TZ d 24 3 [some (.inr k), some (.inl 0), none] [.inl 0] Z (zri Q))
  refine z0 (op := 7) (a := 2) (b := 0) (by rfl) (by rfl) (?_ : TZ d 24 4 [some (.inr k), some (.inl 0), some (.inl 0)] [] Z (zri Q))
  exact v
theorem w24_4 {d : Nat} {k : Nat} {x1 x2 : Int} {Z : zM} {Q : Int → zM → Prop} (hk : k ∈ zFl)
    (v : zR x2 ∧
      zR (Z k 6) ∧
      ((Z k 6) ≤ x2 → Q x1 Z) ∧
      (¬ (Z k 6) ≤ x2 → ((0 ≤ x2 ∧ x2 < 6) ∧
          zR (Z (k + 4) x2) ∧
          ((Z (k + 4) x2) ≤ 0 → TZ d 24 4 [some (.inr k), some (.inl x1), some (.inl (x2 + 1))] [] Z (zri Q)) ∧
          (¬ (Z (k + 4) x2) ≤ 0 → TZ d 24 4 [some (.inr k), some (.inl (zbit 4 x1 (zbit 6 1 x2))), some (.inl (x2 + 1))] [] Z (zri Q))))) :
    TZ d 24 4 [some (.inr k), some (.inl x1), some (.inl x2)] [] Z (zri Q) := by
  refine z0 (op := 3) (a := 2) (b := 0) (by rfl) (by rfl) (?_ : TZ d 24 5 [some (.inr k), some (.inl x1), some (.inl x2)] [.inl x2] Z (zri Q))
  refine z0 (op := 5) (a := 0) (b := 0) (by rfl) (by rfl) (?_ : TZ d 24 6 [some (.inr k), some (.inl x1), some (.inl x2)] [.inr k, .inl x2] Z (zri Q))
  refine z_fi (by rfl) (fi9_F0 _ hk) (?_ : TZ d 24 9 [some (.inr k), some (.inl x1), some (.inl x2)] [.inl (Z k 6), .inl x2] Z (zri Q))
  obtain ⟨c1, c2, v1, v2⟩ := v
  refine z_if2 (a := 3) (t := 33) (by rfl) (by rfl) c1 c2 (fun h3 => ?_) (fun h3 => ?_)
  · have v := v1 h3; clear v1 v2
    show TZ d 24 33 [some (.inr k), some (.inl x1), some (.inl x2)] [] Z (zri Q)
    refine z0 (op := 3) (a := 1) (b := 0) (by rfl) (by rfl) (?_ : TZ d 24 34 [some (.inr k), some (.inl x1), some (.inl x2)] [.inl x1] Z (zri Q))
    exact z_reti (by rfl) (by rfl) v
  · have v := v2 h3; clear v1 v2
    show TZ d 24 12 [some (.inr k), some (.inl x1), some (.inl x2)] [] Z (zri Q)
    refine z0 (op := 5) (a := 0) (b := 0) (by rfl) (by rfl) (?_ : TZ d 24 13 [some (.inr k), some (.inl x1), some (.inl x2)] [.inr k] Z (zri Q))
    refine z_fr (by rfl) (fr7_F0 _ hk) (?_ : TZ d 24 16 [some (.inr k), some (.inl x1), some (.inl x2)] [.inr (k + 4)] Z (zri Q))
    refine z0 (op := 3) (a := 2) (b := 0) (by rfl) (by rfl) (?_ : TZ d 24 17 [some (.inr k), some (.inl x1), some (.inl x2)] [.inl x2, .inr (k + 4)] Z (zri Q))
    obtain ⟨c4, v⟩ := v
    refine z_al (by rfl) (ln_F4 _ hk) c4 (?_ : TZ d 24 18 [some (.inr k), some (.inl x1), some (.inl x2)] [.inl (Z (k + 4) x2)] Z (zri Q))
    obtain ⟨c5, v1, v2⟩ := v
    refine z_if0 (a := 5) (t := 27) (by rfl) (by rfl) c5 (fun h6 => ?_) (fun h6 => ?_)
    · have v := v1 h6; clear v1 v2
      show TZ d 24 27 [some (.inr k), some (.inl x1), some (.inl x2)] [] Z (zri Q)
      refine z0 (op := 11) (a := 2) (b := 1) (by rfl) (by rfl) (?_ : TZ d 24 30 [some (.inr k), some (.inl x1), some (.inl (x2 + 1))] [] Z (zri Q))
      refine z_goto (t := 4) (by rfl) (by rfl) (?_ : TZ d 24 4 [some (.inr k), some (.inl x1), some (.inl (x2 + 1))] [] Z (zri Q))
      exact v
    · have v := v2 h6; clear v1 v2
      show TZ d 24 21 [some (.inr k), some (.inl x1), some (.inl x2)] [] Z (zri Q)
      refine z0 (op := 3) (a := 1) (b := 0) (by rfl) (by rfl) (?_ : TZ d 24 22 [some (.inr k), some (.inl x1), some (.inl x2)] [.inl x1] Z (zri Q))
      refine z0 (op := 0) (a := 0) (b := 1) (by rfl) (by rfl) (?_ : TZ d 24 23 [some (.inr k), some (.inl x1), some (.inl x2)] [.inl 1, .inl x1] Z (zri Q))
      refine z0 (op := 3) (a := 2) (b := 0) (by rfl) (by rfl) (?_ : TZ d 24 24 [some (.inr k), some (.inl x1), some (.inl x2)] [.inl x2, .inl 1, .inl x1] Z (zri Q))
      refine z0 (op := 12) (a := 6) (b := 0) (by rfl) (by rfl) (?_ : TZ d 24 25 [some (.inr k), some (.inl x1), some (.inl x2)] [.inl (zbit 6 1 x2), .inl x1] Z (zri Q))
      refine z0 (op := 12) (a := 4) (b := 0) (by rfl) (by rfl) (?_ : TZ d 24 26 [some (.inr k), some (.inl x1), some (.inl x2)] [.inl (zbit 4 x1 (zbit 6 1 x2))] Z (zri Q))
      refine z0 (op := 7) (a := 1) (b := 0) (by rfl) (by rfl) (?_ : TZ d 24 27 [some (.inr k), some (.inl (zbit 4 x1 (zbit 6 1 x2))), some (.inl x2)] [] Z (zri Q))
      refine z0 (op := 11) (a := 2) (b := 1) (by rfl) (by rfl) (?_ : TZ d 24 30 [some (.inr k), some (.inl (zbit 4 x1 (zbit 6 1 x2))), some (.inl (x2 + 1))] [] Z (zri Q))
      refine z_goto (t := 4) (by rfl) (by rfl) (?_ : TZ d 24 4 [some (.inr k), some (.inl (zbit 4 x1 (zbit 6 1 x2))), some (.inl (x2 + 1))] [] Z (zri Q))
      exact v
theorem w25_0 {d : Nat} {k : Nat} {x1 : Int} {Z : zM} {Q : Int → zM → Prop} (hk : k ∈ zFl)
    (v : TZ d 25 4 [some (.inr k), some (.inl x1), some (.inl 0), some (.inl 0), none] [] Z (zri Q)) :
    TZ d 25 0 [some (.inr k), some (.inl x1), none, none, none] [] Z (zri Q) := by
  refine z0 (op := 0) (a := 0) (b := 0) (by rfl) (by rfl) (?_ : TZ d 25 1 [some (.inr k), some (.inl x1), none, none, none] [.inl 0] Z (zri Q))
  refine z0 (op := 7) (a := 2) (b := 0) (by rfl) (by rfl) (?_ : TZ d 25 2 [some (.inr k), some (.inl x1), some (.inl 0), none, none] [] Z (zri Q))
  refine z0 (op := 0) (a := 0) (b := 0) (by rfl) (by rfl) (?_ : TZ d 25 3 [some (.inr k), some (.inl x1), some (.inl 0), none, none] [.inl 0] Z (zri Q))
  refine z0 (op := 7) (a := 3) (b := 0) (by rfl) (by rfl) (?_ : TZ d 25 4 [some (.inr k), some (.inl x1), some (.inl 0), some (.inl 0), none] [] Z (zri Q))
  exact v
theorem w25_4 {d : Nat} {k : Nat} {x1 x2 x3 : Int} {o4 : Option zV} {Z : zM} {Q : Int → zM → Prop} (hk : k ∈ zFl)
    (v : zR x3 ∧
      zR (Z k 5) ∧
      ((Z k 5) ≤ x3 → ∀ Z4, Z4 = zup Z k 7 ((Z k 7) + 1) →
          Q x2 Z4) ∧
      (¬ (Z k 5) ≤ x3 → TI d 26 [.inr k, .inl x3, .inl x1] Z (fun r6 Z5 =>
          (0 ≤ x3 ∧ x3 < 8) ∧
            zR r6 ∧
            zR (Z5 (k + 3) x3) ∧
            (r6 = (Z5 (k + 3) x3) → TZ (d + 1) 25 4 [some (.inr k), some (.inl x1), some (.inl x2), some (.inl (x3 + 1)), some (.inl r6)] [] Z5 (zri Q)) ∧
            (¬ r6 = (Z5 (k + 3) x3) → TI d 17 [.inr k, .inl r6] Z5 (fun r12 Z11 =>
                zR r12 ∧
                  (r12 = 0 → TZ (d + 1) 25 4 [some (.inr k), some (.inl x1), some (.inl x2), some (.inl (x3 + 1)), some (.inl r6)] [] Z11 (zri Q)) ∧
                  (¬ r12 = 0 → TV d 20 [.inr k, .inl x3, .inl r6] Z11 (fun Z15 =>
                      TZ (d + 1) 25 4 [some (.inr k), some (.inl x1), some (.inl (zbit 4 x2 (zbit 6 1 x3))), some (.inl (x3 + 1)), some (.inl r6)] [] Z15 (zri Q)))))))) :
    TZ (d + 1) 25 4 [some (.inr k), some (.inl x1), some (.inl x2), some (.inl x3), o4] [] Z (zri Q) := by
  refine z0 (op := 3) (a := 3) (b := 0) (by rfl) (by rfl) (?_ : TZ (d + 1) 25 5 [some (.inr k), some (.inl x1), some (.inl x2), some (.inl x3), o4] [.inl x3] Z (zri Q))
  refine z0 (op := 5) (a := 0) (b := 0) (by rfl) (by rfl) (?_ : TZ (d + 1) 25 6 [some (.inr k), some (.inl x1), some (.inl x2), some (.inl x3), o4] [.inr k, .inl x3] Z (zri Q))
  refine z_fi (by rfl) (fi10_F0 _ hk) (?_ : TZ (d + 1) 25 9 [some (.inr k), some (.inl x1), some (.inl x2), some (.inl x3), o4] [.inl (Z k 5), .inl x3] Z (zri Q))
  obtain ⟨c1, c2, v1, v2⟩ := v
  refine z_if2 (a := 3) (t := 59) (by rfl) (by rfl) c1 c2 (fun h3 => ?_) (fun h3 => ?_)
  · have v := v1 h3; clear v1 v2
    show TZ (d + 1) 25 59 [some (.inr k), some (.inl x1), some (.inl x2), some (.inl x3), o4] [] Z (zri Q)
    refine z0 (op := 5) (a := 0) (b := 0) (by rfl) (by rfl) (?_ : TZ (d + 1) 25 60 [some (.inr k), some (.inl x1), some (.inl x2), some (.inl x3), o4] [.inr k] Z (zri Q))
    refine z0 (op := 15) (a := 0) (b := 0) (by rfl) (by rfl) (?_ : TZ (d + 1) 25 61 [some (.inr k), some (.inl x1), some (.inl x2), some (.inl x3), o4] [.inr k, .inr k] Z (zri Q))
    refine z_fi (by rfl) (fi11_F0 _ hk) (?_ : TZ (d + 1) 25 64 [some (.inr k), some (.inl x1), some (.inl x2), some (.inl x3), o4] [.inl (Z k 7), .inr k] Z (zri Q))
    refine z0 (op := 0) (a := 0) (b := 1) (by rfl) (by rfl) (?_ : TZ (d + 1) 25 65 [some (.inr k), some (.inl x1), some (.inl x2), some (.inl x3), o4] [.inl 1, .inl (Z k 7), .inr k] Z (zri Q))
    refine z0 (op := 12) (a := 0) (b := 0) (by rfl) (by rfl) (?_ : TZ (d + 1) 25 66 [some (.inr k), some (.inl x1), some (.inl x2), some (.inl x3), o4] [.inl ((Z k 7) + 1), .inr k] Z (zri Q))
    obtain ⟨Z4, eZ4⟩ : ∃ q, q = zup Z k 7 ((Z k 7) + 1) := ⟨_, rfl⟩
    have v := v Z4 eZ4
    refine z_pf (by rfl) (pf11_F0 _ hk) (fun h => nomatch h) ?_
    show TZ (d + 1) 25 69 [some (.inr k), some (.inl x1), some (.inl x2), some (.inl x3), o4] [] (zup Z k 7 ((Z k 7) + 1)) _
    rw [← eZ4]
    refine z0 (op := 3) (a := 2) (b := 0) (by rfl) (by rfl) (?_ : TZ (d + 1) 25 70 [some (.inr k), some (.inl x1), some (.inl x2), some (.inl x3), o4] [.inl x2] Z4 (zri Q))
    exact z_reti (by rfl) (by rfl) v
  · have v := v2 h3; clear v1 v2
    show TZ (d + 1) 25 12 [some (.inr k), some (.inl x1), some (.inl x2), some (.inl x3), o4] [] Z (zri Q)
    refine z0 (op := 5) (a := 0) (b := 0) (by rfl) (by rfl) (?_ : TZ (d + 1) 25 13 [some (.inr k), some (.inl x1), some (.inl x2), some (.inl x3), o4] [.inr k] Z (zri Q))
    refine z0 (op := 3) (a := 3) (b := 0) (by rfl) (by rfl) (?_ : TZ (d + 1) 25 14 [some (.inr k), some (.inl x1), some (.inl x2), some (.inl x3), o4] [.inl x3, .inr k] Z (zri Q))
    refine z0 (op := 3) (a := 1) (b := 0) (by rfl) (by rfl) (?_ : TZ (d + 1) 25 15 [some (.inr k), some (.inl x1), some (.inl x2), some (.inl x3), o4] [.inl x1, .inl x3, .inr k] Z (zri Q))
    refine z_vi (by rfl) (by rfl) (cl_F0 _ hk) (TI.mono v fun r6 Z5 v => ?_)
    show TZ (d + 1) 25 18 [some (.inr k), some (.inl x1), some (.inl x2), some (.inl x3), o4] [.inl r6] Z5 (zri Q)
    refine z0 (op := 8) (a := 4) (b := 0) (by rfl) (by rfl) (?_ : TZ (d + 1) 25 20 [some (.inr k), some (.inl x1), some (.inl x2), some (.inl x3), some (.inl r6)] [] Z5 (zri Q))
    refine z0 (op := 4) (a := 4) (b := 0) (by rfl) (by rfl) (?_ : TZ (d + 1) 25 22 [some (.inr k), some (.inl x1), some (.inl x2), some (.inl x3), some (.inl r6)] [.inl r6] Z5 (zri Q))
    refine z0 (op := 5) (a := 0) (b := 0) (by rfl) (by rfl) (?_ : TZ (d + 1) 25 23 [some (.inr k), some (.inl x1), some (.inl x2), some (.inl x3), some (.inl r6)] [.inr k, .inl r6] Z5 (zri Q))
    refine z_fr (by rfl) (fr6_F0 _ hk) (?_ : TZ (d + 1) 25 26 [some (.inr k), some (.inl x1), some (.inl x2), some (.inl x3), some (.inl r6)] [.inr (k + 3), .inl r6] Z5 (zri Q))
    refine z0 (op := 3) (a := 3) (b := 0) (by rfl) (by rfl) (?_ : TZ (d + 1) 25 27 [some (.inr k), some (.inl x1), some (.inl x2), some (.inl x3), some (.inl r6)] [.inl x3, .inr (k + 3), .inl r6] Z5 (zri Q))
    obtain ⟨c7, v⟩ := v
    refine z_al (by rfl) (ln_F3 _ hk) c7 (?_ : TZ (d + 1) 25 28 [some (.inr k), some (.inl x1), some (.inl x2), some (.inl x3), some (.inl r6)] [.inl (Z5 (k + 3) x3), .inl r6] Z5 (zri Q))
    obtain ⟨c8, c9, v1, v2⟩ := v
    refine z_if2 (a := 0) (t := 53) (by rfl) (by rfl) c8 c9 (fun h10 => ?_) (fun h10 => ?_)
    · have v := v1 h10; clear v1 v2
      show TZ (d + 1) 25 53 [some (.inr k), some (.inl x1), some (.inl x2), some (.inl x3), some (.inl r6)] [] Z5 (zri Q)
      refine z0 (op := 11) (a := 3) (b := 1) (by rfl) (by rfl) (?_ : TZ (d + 1) 25 56 [some (.inr k), some (.inl x1), some (.inl x2), some (.inl (x3 + 1)), some (.inl r6)] [] Z5 (zri Q))
      refine z_goto (t := 4) (by rfl) (by rfl) (?_ : TZ (d + 1) 25 4 [some (.inr k), some (.inl x1), some (.inl x2), some (.inl (x3 + 1)), some (.inl r6)] [] Z5 (zri Q))
      exact v
    · have v := v2 h10; clear v1 v2
      show TZ (d + 1) 25 31 [some (.inr k), some (.inl x1), some (.inl x2), some (.inl x3), some (.inl r6)] [] Z5 (zri Q)
      refine z0 (op := 5) (a := 0) (b := 0) (by rfl) (by rfl) (?_ : TZ (d + 1) 25 32 [some (.inr k), some (.inl x1), some (.inl x2), some (.inl x3), some (.inl r6)] [.inr k] Z5 (zri Q))
      refine z0 (op := 4) (a := 4) (b := 0) (by rfl) (by rfl) (?_ : TZ (d + 1) 25 34 [some (.inr k), some (.inl x1), some (.inl x2), some (.inl x3), some (.inl r6)] [.inl r6, .inr k] Z5 (zri Q))
      refine z_vi (by rfl) (by rfl) (cl_F0 _ hk) (TI.mono v fun r12 Z11 v => ?_)
      show TZ (d + 1) 25 37 [some (.inr k), some (.inl x1), some (.inl x2), some (.inl x3), some (.inl r6)] [.inl r12] Z11 (zri Q)
      obtain ⟨c13, v1, v2⟩ := v
      refine z_if0 (a := 0) (t := 53) (by rfl) (by rfl) c13 (fun h14 => ?_) (fun h14 => ?_)
      · have v := v1 h14; clear v1 v2
        show TZ (d + 1) 25 53 [some (.inr k), some (.inl x1), some (.inl x2), some (.inl x3), some (.inl r6)] [] Z11 (zri Q)
        refine z0 (op := 11) (a := 3) (b := 1) (by rfl) (by rfl) (?_ : TZ (d + 1) 25 56 [some (.inr k), some (.inl x1), some (.inl x2), some (.inl (x3 + 1)), some (.inl r6)] [] Z11 (zri Q))
        refine z_goto (t := 4) (by rfl) (by rfl) (?_ : TZ (d + 1) 25 4 [some (.inr k), some (.inl x1), some (.inl x2), some (.inl (x3 + 1)), some (.inl r6)] [] Z11 (zri Q))
        exact v
      · have v := v2 h14; clear v1 v2
        show TZ (d + 1) 25 40 [some (.inr k), some (.inl x1), some (.inl x2), some (.inl x3), some (.inl r6)] [] Z11 (zri Q)
        refine z0 (op := 5) (a := 0) (b := 0) (by rfl) (by rfl) (?_ : TZ (d + 1) 25 41 [some (.inr k), some (.inl x1), some (.inl x2), some (.inl x3), some (.inl r6)] [.inr k] Z11 (zri Q))
        refine z0 (op := 3) (a := 3) (b := 0) (by rfl) (by rfl) (?_ : TZ (d + 1) 25 42 [some (.inr k), some (.inl x1), some (.inl x2), some (.inl x3), some (.inl r6)] [.inl x3, .inr k] Z11 (zri Q))
        refine z0 (op := 4) (a := 4) (b := 0) (by rfl) (by rfl) (?_ : TZ (d + 1) 25 44 [some (.inr k), some (.inl x1), some (.inl x2), some (.inl x3), some (.inl r6)] [.inl r6, .inl x3, .inr k] Z11 (zri Q))
        refine z_vv (by rfl) (by rfl) (cl_F0 _ hk) (TV.mono v fun Z15 v => ?_)
        show TZ (d + 1) 25 47 [some (.inr k), some (.inl x1), some (.inl x2), some (.inl x3), some (.inl r6)] [] Z15 (zri Q)
        refine z0 (op := 3) (a := 2) (b := 0) (by rfl) (by rfl) (?_ : TZ (d + 1) 25 48 [some (.inr k), some (.inl x1), some (.inl x2), some (.inl x3), some (.inl r6)] [.inl x2] Z15 (zri Q))
        refine z0 (op := 0) (a := 0) (b := 1) (by rfl) (by rfl) (?_ : TZ (d + 1) 25 49 [some (.inr k), some (.inl x1), some (.inl x2), some (.inl x3), some (.inl r6)] [.inl 1, .inl x2] Z15 (zri Q))
        refine z0 (op := 3) (a := 3) (b := 0) (by rfl) (by rfl) (?_ : TZ (d + 1) 25 50 [some (.inr k), some (.inl x1), some (.inl x2), some (.inl x3), some (.inl r6)] [.inl x3, .inl 1, .inl x2] Z15 (zri Q))
        refine z0 (op := 12) (a := 6) (b := 0) (by rfl) (by rfl) (?_ : TZ (d + 1) 25 51 [some (.inr k), some (.inl x1), some (.inl x2), some (.inl x3), some (.inl r6)] [.inl (zbit 6 1 x3), .inl x2] Z15 (zri Q))
        refine z0 (op := 12) (a := 4) (b := 0) (by rfl) (by rfl) (?_ : TZ (d + 1) 25 52 [some (.inr k), some (.inl x1), some (.inl x2), some (.inl x3), some (.inl r6)] [.inl (zbit 4 x2 (zbit 6 1 x3))] Z15 (zri Q))
        refine z0 (op := 7) (a := 2) (b := 0) (by rfl) (by rfl) (?_ : TZ (d + 1) 25 53 [some (.inr k), some (.inl x1), some (.inl (zbit 4 x2 (zbit 6 1 x3))), some (.inl x3), some (.inl r6)] [] Z15 (zri Q))
        refine z0 (op := 11) (a := 3) (b := 1) (by rfl) (by rfl) (?_ : TZ (d + 1) 25 56 [some (.inr k), some (.inl x1), some (.inl (zbit 4 x2 (zbit 6 1 x3))), some (.inl (x3 + 1)), some (.inl r6)] [] Z15 (zri Q))
        refine z_goto (t := 4) (by rfl) (by rfl) (?_ : TZ (d + 1) 25 4 [some (.inr k), some (.inl x1), some (.inl (zbit 4 x2 (zbit 6 1 x3))), some (.inl (x3 + 1)), some (.inl r6)] [] Z15 (zri Q))
        exact v
theorem w26_0 {d : Nat} {k : Nat} {x1 x2 : Int} {Z : zM} {Q : Int → zM → Prop} (hk : k ∈ zFl)
    (v : (0 ≤ x1 ∧ x1 < 8) ∧
      TI d 27 [.inl (Z (k + 3) x1), .inl x2] Z (fun r3 Z2 =>
      (0 ≤ x1 ∧ x1 < 8) ∧
        zR (Z2 (k + 1) x1) ∧
        ((Z2 (k + 1) x1) = 1 → TI d 28 [.inr k, .inl x1, .inl r3] Z2 (fun r7 Z6 =>
            Q r7 Z6)) ∧
        ((Z2 (k + 1) x1) = 2 → TI d 29 [.inl (Z (k + 3) x1), .inl x2, .inl r3] Z2 (fun r9 Z8 =>
            Q r9 Z8)) ∧
        ((Z2 (k + 1) x1) = 3 → TI d 30 [.inr k, .inl x1, .inl x2] Z2 (fun r11 Z10 =>
            zR r11 ∧
              (r11 = 0 → TI d 28 [.inr k, .inl x1, .inl r3] Z10 (fun r15 Z14 =>
                  Q r15 Z14)) ∧
              (¬ r11 = 0 → Q x2 Z10))) ∧
        ((Z2 (k + 1) x1) = 4 → ((0 ≤ (Z (k + 3) x1) ∧ (Z (k + 3) x1) < 6) ∧
            zR (Z2 (k + 4) (Z (k + 3) x1)) ∧
            ((Z2 (k + 4) (Z (k + 3) x1)) ≠ 1 → TI d 29 [.inl (Z (k + 3) x1), .inl x2, .inl r3] Z2 (fun r20 Z19 =>
                Q r20 Z19)) ∧
            (¬ (Z2 (k + 4) (Z (k + 3) x1)) ≠ 1 → Q r3 Z2))) ∧
        ((Z2 (k + 1) x1) = 5 → TI d 29 [.inl (Z (k + 3) x1), .inl x2, .inl r3] Z2 (fun r22 Z21 =>
            (0 ≤ x1 ∧ x1 < 8) ∧
              zR (Z21 (k + 2) x1) ∧
              zR r22 ∧
              zR (Int.tdiv (Z21 (k + 2) x1) 3) ∧ Q (min r22 (Int.tdiv (Z21 (k + 2) x1) 3)) Z21)) ∧
        (((Z2 (k + 1) x1) ≠ 1 ∧ (Z2 (k + 1) x1) ≠ 2 ∧ (Z2 (k + 1) x1) ≠ 3 ∧ (Z2 (k + 1) x1) ≠ 4 ∧ (Z2 (k + 1) x1) ≠ 5) → Q r3 Z2))) :
    TZ (d + 1) 26 0 [some (.inr k), some (.inl x1), some (.inl x2), none, none] [] Z (zri Q) := by
  refine z0 (op := 5) (a := 0) (b := 0) (by rfl) (by rfl) (?_ : TZ (d + 1) 26 1 [some (.inr k), some (.inl x1), some (.inl x2), none, none] [.inr k] Z (zri Q))
  refine z_fr (by rfl) (fr6_F0 _ hk) (?_ : TZ (d + 1) 26 4 [some (.inr k), some (.inl x1), some (.inl x2), none, none] [.inr (k + 3)] Z (zri Q))
  refine z0 (op := 3) (a := 1) (b := 0) (by rfl) (by rfl) (?_ : TZ (d + 1) 26 5 [some (.inr k), some (.inl x1), some (.inl x2), none, none] [.inl x1, .inr (k + 3)] Z (zri Q))
  obtain ⟨c1, v⟩ := v
  refine z_al (by rfl) (ln_F3 _ hk) c1 (?_ : TZ (d + 1) 26 6 [some (.inr k), some (.inl x1), some (.inl x2), none, none] [.inl (Z (k + 3) x1)] Z (zri Q))
  refine z0 (op := 7) (a := 3) (b := 0) (by rfl) (by rfl) (?_ : TZ (d + 1) 26 7 [some (.inr k), some (.inl x1), some (.inl x2), some (.inl (Z (k + 3) x1)), none] [] Z (zri Q))
  refine z0 (op := 3) (a := 3) (b := 0) (by rfl) (by rfl) (?_ : TZ (d + 1) 26 8 [some (.inr k), some (.inl x1), some (.inl x2), some (.inl (Z (k + 3) x1)), none] [.inl (Z (k + 3) x1)] Z (zri Q))
  refine z0 (op := 3) (a := 2) (b := 0) (by rfl) (by rfl) (?_ : TZ (d + 1) 26 9 [some (.inr k), some (.inl x1), some (.inl x2), some (.inl (Z (k + 3) x1)), none] [.inl x2, .inl (Z (k + 3) x1)] Z (zri Q))
  refine z_si (by rfl) (by rfl) (TI.mono v fun r3 Z2 v => ?_)
  show TZ (d + 1) 26 12 [some (.inr k), some (.inl x1), some (.inl x2), some (.inl (Z (k + 3) x1)), none] [.inl r3] Z2 (zri Q)
  refine z0 (op := 8) (a := 4) (b := 0) (by rfl) (by rfl) (?_ : TZ (d + 1) 26 14 [some (.inr k), some (.inl x1), some (.inl x2), some (.inl (Z (k + 3) x1)), some (.inl r3)] [] Z2 (zri Q))
  refine z0 (op := 5) (a := 0) (b := 0) (by rfl) (by rfl) (?_ : TZ (d + 1) 26 15 [some (.inr k), some (.inl x1), some (.inl x2), some (.inl (Z (k + 3) x1)), some (.inl r3)] [.inr k] Z2 (zri Q))
  refine z_fr (by rfl) (fr4_F0 _ hk) (?_ : TZ (d + 1) 26 18 [some (.inr k), some (.inl x1), some (.inl x2), some (.inl (Z (k + 3) x1)), some (.inl r3)] [.inr (k + 1)] Z2 (zri Q))
  refine z0 (op := 3) (a := 1) (b := 0) (by rfl) (by rfl) (?_ : TZ (d + 1) 26 19 [some (.inr k), some (.inl x1), some (.inl x2), some (.inl (Z (k + 3) x1)), some (.inl r3)] [.inl x1, .inr (k + 1)] Z2 (zri Q))
  obtain ⟨c4, v⟩ := v
  refine z_al (by rfl) (ln_F1 _ hk) c4 (?_ : TZ (d + 1) 26 20 [some (.inr k), some (.inl x1), some (.inl x2), some (.inl (Z (k + 3) x1)), some (.inl r3)] [.inl (Z2 (k + 1) x1)] Z2 (zri Q))
  obtain ⟨c5, v⟩ := v
  obtain ⟨w0, w1, w2, w3, w4, w5⟩ := v
  have hd : (Z2 (k + 1) x1) ≠ 1 ∧ (Z2 (k + 1) x1) ≠ 2 ∧ (Z2 (k + 1) x1) ≠ 3 ∧ (Z2 (k + 1) x1) ≠ 4 ∧ (Z2 (k + 1) x1) ≠ 5 → TZ (d + 1) 26 135 [some (.inr k), some (.inl x1), some (.inl x2), some (.inl (Z (k + 3) x1)), some (.inl r3)] [] Z2 (zri Q) := fun hh => by
    have v := w5 hh; clear w0 w1 w2 w3 w4 w5
    refine z0 (op := 4) (a := 4) (b := 0) (by rfl) (by rfl) (?_ : TZ (d + 1) 26 137 [some (.inr k), some (.inl x1), some (.inl x2), some (.inl (Z (k + 3) x1)), some (.inl r3)] [.inl r3] Z2 (zri Q))
    exact z_reti (by rfl) (by rfl) v
  have hc0 : (Z2 (k + 1) x1) = 1 → TZ (d + 1) 26 56 [some (.inr k), some (.inl x1), some (.inl x2), some (.inl (Z (k + 3) x1)), some (.inl r3)] [] Z2 (zri Q) := fun hh => by
    have v := w0 hh; clear w0 w1 w2 w3 w4 w5 hd
    refine z0 (op := 5) (a := 0) (b := 0) (by rfl) (by rfl) (?_ : TZ (d + 1) 26 57 [some (.inr k), some (.inl x1), some (.inl x2), some (.inl (Z (k + 3) x1)), some (.inl r3)] [.inr k] Z2 (zri Q))
    refine z0 (op := 3) (a := 1) (b := 0) (by rfl) (by rfl) (?_ : TZ (d + 1) 26 58 [some (.inr k), some (.inl x1), some (.inl x2), some (.inl (Z (k + 3) x1)), some (.inl r3)] [.inl x1, .inr k] Z2 (zri Q))
    refine z0 (op := 4) (a := 4) (b := 0) (by rfl) (by rfl) (?_ : TZ (d + 1) 26 60 [some (.inr k), some (.inl x1), some (.inl x2), some (.inl (Z (k + 3) x1)), some (.inl r3)] [.inl r3, .inl x1, .inr k] Z2 (zri Q))
    refine z_vi (by rfl) (by rfl) (cl_F0 _ hk) (TI.mono v fun r7 Z6 v => ?_)
    show TZ (d + 1) 26 63 [some (.inr k), some (.inl x1), some (.inl x2), some (.inl (Z (k + 3) x1)), some (.inl r3)] [.inl r7] Z6 (zri Q)
    exact z_reti (by rfl) (by rfl) v
  have hc1 : (Z2 (k + 1) x1) = 2 → TZ (d + 1) 26 64 [some (.inr k), some (.inl x1), some (.inl x2), some (.inl (Z (k + 3) x1)), some (.inl r3)] [] Z2 (zri Q) := fun hh => by
    have v := w1 hh; clear w0 w1 w2 w3 w4 w5 hd hc0
    refine z0 (op := 3) (a := 3) (b := 0) (by rfl) (by rfl) (?_ : TZ (d + 1) 26 65 [some (.inr k), some (.inl x1), some (.inl x2), some (.inl (Z (k + 3) x1)), some (.inl r3)] [.inl (Z (k + 3) x1)] Z2 (zri Q))
    refine z0 (op := 3) (a := 2) (b := 0) (by rfl) (by rfl) (?_ : TZ (d + 1) 26 66 [some (.inr k), some (.inl x1), some (.inl x2), some (.inl (Z (k + 3) x1)), some (.inl r3)] [.inl x2, .inl (Z (k + 3) x1)] Z2 (zri Q))
    refine z0 (op := 4) (a := 4) (b := 0) (by rfl) (by rfl) (?_ : TZ (d + 1) 26 68 [some (.inr k), some (.inl x1), some (.inl x2), some (.inl (Z (k + 3) x1)), some (.inl r3)] [.inl r3, .inl x2, .inl (Z (k + 3) x1)] Z2 (zri Q))
    refine z_si (by rfl) (by rfl) (TI.mono v fun r9 Z8 v => ?_)
    show TZ (d + 1) 26 71 [some (.inr k), some (.inl x1), some (.inl x2), some (.inl (Z (k + 3) x1)), some (.inl r3)] [.inl r9] Z8 (zri Q)
    exact z_reti (by rfl) (by rfl) v
  have hc2 : (Z2 (k + 1) x1) = 3 → TZ (d + 1) 26 72 [some (.inr k), some (.inl x1), some (.inl x2), some (.inl (Z (k + 3) x1)), some (.inl r3)] [] Z2 (zri Q) := fun hh => by
    have v := w2 hh; clear w0 w1 w2 w3 w4 w5 hd hc0 hc1
    refine z0 (op := 5) (a := 0) (b := 0) (by rfl) (by rfl) (?_ : TZ (d + 1) 26 73 [some (.inr k), some (.inl x1), some (.inl x2), some (.inl (Z (k + 3) x1)), some (.inl r3)] [.inr k] Z2 (zri Q))
    refine z0 (op := 3) (a := 1) (b := 0) (by rfl) (by rfl) (?_ : TZ (d + 1) 26 74 [some (.inr k), some (.inl x1), some (.inl x2), some (.inl (Z (k + 3) x1)), some (.inl r3)] [.inl x1, .inr k] Z2 (zri Q))
    refine z0 (op := 3) (a := 2) (b := 0) (by rfl) (by rfl) (?_ : TZ (d + 1) 26 75 [some (.inr k), some (.inl x1), some (.inl x2), some (.inl (Z (k + 3) x1)), some (.inl r3)] [.inl x2, .inl x1, .inr k] Z2 (zri Q))
    refine z_vi (by rfl) (by rfl) (cl_F0 _ hk) (TI.mono v fun r11 Z10 v => ?_)
    show TZ (d + 1) 26 78 [some (.inr k), some (.inl x1), some (.inl x2), some (.inl (Z (k + 3) x1)), some (.inl r3)] [.inl r11] Z10 (zri Q)
    obtain ⟨c12, v1, v2⟩ := v
    refine z_if0 (a := 0) (t := 85) (by rfl) (by rfl) c12 (fun h13 => ?_) (fun h13 => ?_)
    · have v := v1 h13; clear v1 v2
      show TZ (d + 1) 26 85 [some (.inr k), some (.inl x1), some (.inl x2), some (.inl (Z (k + 3) x1)), some (.inl r3)] [] Z10 (zri Q)
      refine z0 (op := 5) (a := 0) (b := 0) (by rfl) (by rfl) (?_ : TZ (d + 1) 26 86 [some (.inr k), some (.inl x1), some (.inl x2), some (.inl (Z (k + 3) x1)), some (.inl r3)] [.inr k] Z10 (zri Q))
      refine z0 (op := 3) (a := 1) (b := 0) (by rfl) (by rfl) (?_ : TZ (d + 1) 26 87 [some (.inr k), some (.inl x1), some (.inl x2), some (.inl (Z (k + 3) x1)), some (.inl r3)] [.inl x1, .inr k] Z10 (zri Q))
      refine z0 (op := 4) (a := 4) (b := 0) (by rfl) (by rfl) (?_ : TZ (d + 1) 26 89 [some (.inr k), some (.inl x1), some (.inl x2), some (.inl (Z (k + 3) x1)), some (.inl r3)] [.inl r3, .inl x1, .inr k] Z10 (zri Q))
      refine z_vi (by rfl) (by rfl) (cl_F0 _ hk) (TI.mono v fun r15 Z14 v => ?_)
      show TZ (d + 1) 26 92 [some (.inr k), some (.inl x1), some (.inl x2), some (.inl (Z (k + 3) x1)), some (.inl r3)] [.inl r15] Z14 (zri Q)
      exact z_reti (by rfl) (by rfl) v
    · have v := v2 h13; clear v1 v2
      show TZ (d + 1) 26 81 [some (.inr k), some (.inl x1), some (.inl x2), some (.inl (Z (k + 3) x1)), some (.inl r3)] [] Z10 (zri Q)
      refine z0 (op := 3) (a := 2) (b := 0) (by rfl) (by rfl) (?_ : TZ (d + 1) 26 82 [some (.inr k), some (.inl x1), some (.inl x2), some (.inl (Z (k + 3) x1)), some (.inl r3)] [.inl x2] Z10 (zri Q))
      refine z_goto (t := 92) (by rfl) (by rfl) (?_ : TZ (d + 1) 26 92 [some (.inr k), some (.inl x1), some (.inl x2), some (.inl (Z (k + 3) x1)), some (.inl r3)] [.inl x2] Z10 (zri Q))
      exact z_reti (by rfl) (by rfl) v
  have hc3 : (Z2 (k + 1) x1) = 4 → TZ (d + 1) 26 93 [some (.inr k), some (.inl x1), some (.inl x2), some (.inl (Z (k + 3) x1)), some (.inl r3)] [] Z2 (zri Q) := fun hh => by
    have v := w3 hh; clear w0 w1 w2 w3 w4 w5 hd hc0 hc1 hc2
    refine z0 (op := 5) (a := 0) (b := 0) (by rfl) (by rfl) (?_ : TZ (d + 1) 26 94 [some (.inr k), some (.inl x1), some (.inl x2), some (.inl (Z (k + 3) x1)), some (.inl r3)] [.inr k] Z2 (zri Q))
    refine z_fr (by rfl) (fr7_F0 _ hk) (?_ : TZ (d + 1) 26 97 [some (.inr k), some (.inl x1), some (.inl x2), some (.inl (Z (k + 3) x1)), some (.inl r3)] [.inr (k + 4)] Z2 (zri Q))
    refine z0 (op := 3) (a := 3) (b := 0) (by rfl) (by rfl) (?_ : TZ (d + 1) 26 98 [some (.inr k), some (.inl x1), some (.inl x2), some (.inl (Z (k + 3) x1)), some (.inl r3)] [.inl (Z (k + 3) x1), .inr (k + 4)] Z2 (zri Q))
    obtain ⟨c16, v⟩ := v
    refine z_al (by rfl) (ln_F4 _ hk) c16 (?_ : TZ (d + 1) 26 99 [some (.inr k), some (.inl x1), some (.inl x2), some (.inl (Z (k + 3) x1)), some (.inl r3)] [.inl (Z2 (k + 4) (Z (k + 3) x1))] Z2 (zri Q))
    refine z0 (op := 0) (a := 0) (b := 1) (by rfl) (by rfl) (?_ : TZ (d + 1) 26 100 [some (.inr k), some (.inl x1), some (.inl x2), some (.inl (Z (k + 3) x1)), some (.inl r3)] [.inl 1, .inl (Z2 (k + 4) (Z (k + 3) x1))] Z2 (zri Q))
    obtain ⟨c17, v1, v2⟩ := v
    refine z_if2 (a := 1) (t := 108) (by rfl) (by rfl) c17 (by decide) (fun h18 => ?_) (fun h18 => ?_)
    · have v := v1 h18; clear v1 v2
      show TZ (d + 1) 26 108 [some (.inr k), some (.inl x1), some (.inl x2), some (.inl (Z (k + 3) x1)), some (.inl r3)] [] Z2 (zri Q)
      refine z0 (op := 3) (a := 3) (b := 0) (by rfl) (by rfl) (?_ : TZ (d + 1) 26 109 [some (.inr k), some (.inl x1), some (.inl x2), some (.inl (Z (k + 3) x1)), some (.inl r3)] [.inl (Z (k + 3) x1)] Z2 (zri Q))
      refine z0 (op := 3) (a := 2) (b := 0) (by rfl) (by rfl) (?_ : TZ (d + 1) 26 110 [some (.inr k), some (.inl x1), some (.inl x2), some (.inl (Z (k + 3) x1)), some (.inl r3)] [.inl x2, .inl (Z (k + 3) x1)] Z2 (zri Q))
      refine z0 (op := 4) (a := 4) (b := 0) (by rfl) (by rfl) (?_ : TZ (d + 1) 26 112 [some (.inr k), some (.inl x1), some (.inl x2), some (.inl (Z (k + 3) x1)), some (.inl r3)] [.inl r3, .inl x2, .inl (Z (k + 3) x1)] Z2 (zri Q))
      refine z_si (by rfl) (by rfl) (TI.mono v fun r20 Z19 v => ?_)
      show TZ (d + 1) 26 115 [some (.inr k), some (.inl x1), some (.inl x2), some (.inl (Z (k + 3) x1)), some (.inl r3)] [.inl r20] Z19 (zri Q)
      exact z_reti (by rfl) (by rfl) v
    · have v := v2 h18; clear v1 v2
      show TZ (d + 1) 26 103 [some (.inr k), some (.inl x1), some (.inl x2), some (.inl (Z (k + 3) x1)), some (.inl r3)] [] Z2 (zri Q)
      refine z0 (op := 4) (a := 4) (b := 0) (by rfl) (by rfl) (?_ : TZ (d + 1) 26 105 [some (.inr k), some (.inl x1), some (.inl x2), some (.inl (Z (k + 3) x1)), some (.inl r3)] [.inl r3] Z2 (zri Q))
      refine z_goto (t := 115) (by rfl) (by rfl) (?_ : TZ (d + 1) 26 115 [some (.inr k), some (.inl x1), some (.inl x2), some (.inl (Z (k + 3) x1)), some (.inl r3)] [.inl r3] Z2 (zri Q))
      exact z_reti (by rfl) (by rfl) v
  have hc4 : (Z2 (k + 1) x1) = 5 → TZ (d + 1) 26 116 [some (.inr k), some (.inl x1), some (.inl x2), some (.inl (Z (k + 3) x1)), some (.inl r3)] [] Z2 (zri Q) := fun hh => by
    have v := w4 hh; clear w0 w1 w2 w3 w4 w5 hd hc0 hc1 hc2 hc3
    refine z0 (op := 3) (a := 3) (b := 0) (by rfl) (by rfl) (?_ : TZ (d + 1) 26 117 [some (.inr k), some (.inl x1), some (.inl x2), some (.inl (Z (k + 3) x1)), some (.inl r3)] [.inl (Z (k + 3) x1)] Z2 (zri Q))
    refine z0 (op := 3) (a := 2) (b := 0) (by rfl) (by rfl) (?_ : TZ (d + 1) 26 118 [some (.inr k), some (.inl x1), some (.inl x2), some (.inl (Z (k + 3) x1)), some (.inl r3)] [.inl x2, .inl (Z (k + 3) x1)] Z2 (zri Q))
    refine z0 (op := 4) (a := 4) (b := 0) (by rfl) (by rfl) (?_ : TZ (d + 1) 26 120 [some (.inr k), some (.inl x1), some (.inl x2), some (.inl (Z (k + 3) x1)), some (.inl r3)] [.inl r3, .inl x2, .inl (Z (k + 3) x1)] Z2 (zri Q))
    refine z_si (by rfl) (by rfl) (TI.mono v fun r22 Z21 v => ?_)
    show TZ (d + 1) 26 123 [some (.inr k), some (.inl x1), some (.inl x2), some (.inl (Z (k + 3) x1)), some (.inl r3)] [.inl r22] Z21 (zri Q)
    refine z0 (op := 5) (a := 0) (b := 0) (by rfl) (by rfl) (?_ : TZ (d + 1) 26 124 [some (.inr k), some (.inl x1), some (.inl x2), some (.inl (Z (k + 3) x1)), some (.inl r3)] [.inr k, .inl r22] Z21 (zri Q))
    refine z_fr (by rfl) (fr5_F0 _ hk) (?_ : TZ (d + 1) 26 127 [some (.inr k), some (.inl x1), some (.inl x2), some (.inl (Z (k + 3) x1)), some (.inl r3)] [.inr (k + 2), .inl r22] Z21 (zri Q))
    refine z0 (op := 3) (a := 1) (b := 0) (by rfl) (by rfl) (?_ : TZ (d + 1) 26 128 [some (.inr k), some (.inl x1), some (.inl x2), some (.inl (Z (k + 3) x1)), some (.inl r3)] [.inl x1, .inr (k + 2), .inl r22] Z21 (zri Q))
    obtain ⟨c23, v⟩ := v
    refine z_al (by rfl) (ln_F2 _ hk) c23 (?_ : TZ (d + 1) 26 129 [some (.inr k), some (.inl x1), some (.inl x2), some (.inl (Z (k + 3) x1)), some (.inl r3)] [.inl (Z21 (k + 2) x1), .inl r22] Z21 (zri Q))
    refine z0 (op := 0) (a := 0) (b := 3) (by rfl) (by rfl) (?_ : TZ (d + 1) 26 130 [some (.inr k), some (.inl x1), some (.inl x2), some (.inl (Z (k + 3) x1)), some (.inl r3)] [.inl 3, .inl (Z21 (k + 2) x1), .inl r22] Z21 (zri Q))
    obtain ⟨c24, v⟩ := v
    refine z_div (by rfl) c24 (by decide) (?_ : TZ (d + 1) 26 131 [some (.inr k), some (.inl x1), some (.inl x2), some (.inl (Z (k + 3) x1)), some (.inl r3)] [.inl (Int.tdiv (Z21 (k + 2) x1) 3), .inl r22] Z21 (zri Q))
    obtain ⟨c25, c26, v⟩ := v
    refine z_min (by rfl) (by rfl) (Nat.le_of_ble_eq_true rfl) c25 c26 (?_ : TZ (d + 1) 26 134 [some (.inr k), some (.inl x1), some (.inl x2), some (.inl (Z (k + 3) x1)), some (.inl r3)] [.inl (min r22 (Int.tdiv (Z21 (k + 2) x1) 3))] Z21 (zri Q))
    exact z_reti (by rfl) (by rfl) v
  refine z_tsw (t := 135) (by rfl) (by rfl) (by decide) (by rfl) c5 (fun n o hn hx => ?_) (fun hx => hd (by omega))
  match n, hn with
  | 0, hn => have e := Option.some.inj hn; subst e; exact ⟨56, by rfl, hc0 (by omega)⟩
  | 1, hn => have e := Option.some.inj hn; subst e; exact ⟨64, by rfl, hc1 (by omega)⟩
  | 2, hn => have e := Option.some.inj hn; subst e; exact ⟨72, by rfl, hc2 (by omega)⟩
  | 3, hn => have e := Option.some.inj hn; subst e; exact ⟨93, by rfl, hc3 (by omega)⟩
  | 4, hn => have e := Option.some.inj hn; subst e; exact ⟨116, by rfl, hc4 (by omega)⟩
  | n + 5, hn => exact absurd hn (by simp)
theorem w27_0 {d : Nat} {x0 x1 : Int} {Z : zM} {Q : Int → zM → Prop}
    (v : zR x1 ∧
      (x1 = (-1) → Q x0 Z) ∧
      (¬ x1 = (-1) → (zR x1 ∧
          zR x0 ∧
          (x1 ≠ x0 → (zR x1 ∧
              zR x0 ∧
              (x1 ≤ x0 → Q (x0 - 1) Z) ∧
              (¬ x1 ≤ x0 → Q (x0 + 1) Z))) ∧
          (¬ x1 ≠ x0 → Q x0 Z)))) :
    TZ d 27 0 [some (.inl x0), some (.inl x1)] [] Z (zri Q) := by
  refine z0 (op := 3) (a := 1) (b := 0) (by rfl) (by rfl) (?_ : TZ d 27 1 [some (.inl x0), some (.inl x1)] [.inl x1] Z (zri Q))
  refine z0 (op := 0) (a := 0) (b := (-1)) (by rfl) (by rfl) (?_ : TZ d 27 2 [some (.inl x0), some (.inl x1)] [.inl (-1), .inl x1] Z (zri Q))
  obtain ⟨c1, v1, v2⟩ := v
  refine z_if2 (a := 0) (t := 10) (by rfl) (by rfl) c1 (by decide) (fun h2 => ?_) (fun h2 => ?_)
  · have v := v1 h2; clear v1 v2
    show TZ d 27 10 [some (.inl x0), some (.inl x1)] [] Z (zri Q)
    refine z0 (op := 3) (a := 0) (b := 0) (by rfl) (by rfl) (?_ : TZ d 27 11 [some (.inl x0), some (.inl x1)] [.inl x0] Z (zri Q))
    exact z_reti (by rfl) (by rfl) v
  · have v := v2 h2; clear v1 v2
    show TZ d 27 5 [some (.inl x0), some (.inl x1)] [] Z (zri Q)
    refine z0 (op := 3) (a := 1) (b := 0) (by rfl) (by rfl) (?_ : TZ d 27 6 [some (.inl x0), some (.inl x1)] [.inl x1] Z (zri Q))
    refine z0 (op := 3) (a := 0) (b := 0) (by rfl) (by rfl) (?_ : TZ d 27 7 [some (.inl x0), some (.inl x1)] [.inl x0, .inl x1] Z (zri Q))
    obtain ⟨c3, c4, v1, v2⟩ := v
    refine z_if2 (a := 1) (t := 12) (by rfl) (by rfl) c3 c4 (fun h5 => ?_) (fun h5 => ?_)
    · have v := v1 h5; clear v1 v2
      show TZ d 27 12 [some (.inl x0), some (.inl x1)] [] Z (zri Q)
      refine z0 (op := 3) (a := 1) (b := 0) (by rfl) (by rfl) (?_ : TZ d 27 13 [some (.inl x0), some (.inl x1)] [.inl x1] Z (zri Q))
      refine z0 (op := 3) (a := 0) (b := 0) (by rfl) (by rfl) (?_ : TZ d 27 14 [some (.inl x0), some (.inl x1)] [.inl x0, .inl x1] Z (zri Q))
      obtain ⟨c6, c7, v1, v2⟩ := v
      refine z_if2 (a := 5) (t := 23) (by rfl) (by rfl) c6 c7 (fun h8 => ?_) (fun h8 => ?_)
      · have v := v1 h8; clear v1 v2
        show TZ d 27 23 [some (.inl x0), some (.inl x1)] [] Z (zri Q)
        refine z0 (op := 3) (a := 0) (b := 0) (by rfl) (by rfl) (?_ : TZ d 27 24 [some (.inl x0), some (.inl x1)] [.inl x0] Z (zri Q))
        refine z0 (op := 0) (a := 0) (b := 1) (by rfl) (by rfl) (?_ : TZ d 27 25 [some (.inl x0), some (.inl x1)] [.inl 1, .inl x0] Z (zri Q))
        refine z0 (op := 12) (a := 1) (b := 0) (by rfl) (by rfl) (?_ : TZ d 27 26 [some (.inl x0), some (.inl x1)] [.inl (x0 - 1)] Z (zri Q))
        exact z_reti (by rfl) (by rfl) v
      · have v := v2 h8; clear v1 v2
        show TZ d 27 17 [some (.inl x0), some (.inl x1)] [] Z (zri Q)
        refine z0 (op := 3) (a := 0) (b := 0) (by rfl) (by rfl) (?_ : TZ d 27 18 [some (.inl x0), some (.inl x1)] [.inl x0] Z (zri Q))
        refine z0 (op := 0) (a := 0) (b := 1) (by rfl) (by rfl) (?_ : TZ d 27 19 [some (.inl x0), some (.inl x1)] [.inl 1, .inl x0] Z (zri Q))
        refine z0 (op := 12) (a := 0) (b := 0) (by rfl) (by rfl) (?_ : TZ d 27 20 [some (.inl x0), some (.inl x1)] [.inl (x0 + 1)] Z (zri Q))
        refine z_goto (t := 26) (by rfl) (by rfl) (?_ : TZ d 27 26 [some (.inl x0), some (.inl x1)] [.inl (x0 + 1)] Z (zri Q))
        exact z_reti (by rfl) (by rfl) v
    · have v := v2 h5; clear v1 v2
      show TZ d 27 10 [some (.inl x0), some (.inl x1)] [] Z (zri Q)
      refine z0 (op := 3) (a := 0) (b := 0) (by rfl) (by rfl) (?_ : TZ d 27 11 [some (.inl x0), some (.inl x1)] [.inl x0] Z (zri Q))
      exact z_reti (by rfl) (by rfl) v
theorem w28_0 {d : Nat} {k : Nat} {x1 x2 : Int} {Z : zM} {Q : Int → zM → Prop} (hk : k ∈ zFl)
    (v : (0 ≤ x1 ∧ x1 < 8) ∧
      zR ((Z k 7) + (Z (k + 2) x1)) ∧
      zR (Int.tmod ((Z k 7) + (Z (k + 2) x1)) 3) ∧
      ((Int.tmod ((Z k 7) + (Z (k + 2) x1)) 3) ≠ 0 → Q x2 Z) ∧
      (¬ (Int.tmod ((Z k 7) + (Z (k + 2) x1)) 3) ≠ 0 → (zR (x2 - 1) ∧ Q (max 0 (x2 - 1)) Z))) :
    TZ (d + 1) 28 0 [some (.inr k), some (.inl x1), some (.inl x2), none] [] Z (zri Q) := by
  refine z0 (op := 5) (a := 0) (b := 0) (by rfl) (by rfl) (?_ : TZ (d + 1) 28 1 [some (.inr k), some (.inl x1), some (.inl x2), none] [.inr k] Z (zri Q))
  refine z_fi (by rfl) (fi11_F0 _ hk) (?_ : TZ (d + 1) 28 4 [some (.inr k), some (.inl x1), some (.inl x2), none] [.inl (Z k 7)] Z (zri Q))
  refine z0 (op := 5) (a := 0) (b := 0) (by rfl) (by rfl) (?_ : TZ (d + 1) 28 5 [some (.inr k), some (.inl x1), some (.inl x2), none] [.inr k, .inl (Z k 7)] Z (zri Q))
  refine z_fr (by rfl) (fr5_F0 _ hk) (?_ : TZ (d + 1) 28 8 [some (.inr k), some (.inl x1), some (.inl x2), none] [.inr (k + 2), .inl (Z k 7)] Z (zri Q))
  refine z0 (op := 3) (a := 1) (b := 0) (by rfl) (by rfl) (?_ : TZ (d + 1) 28 9 [some (.inr k), some (.inl x1), some (.inl x2), none] [.inl x1, .inr (k + 2), .inl (Z k 7)] Z (zri Q))
  obtain ⟨c1, v⟩ := v
  refine z_al (by rfl) (ln_F2 _ hk) c1 (?_ : TZ (d + 1) 28 10 [some (.inr k), some (.inl x1), some (.inl x2), none] [.inl (Z (k + 2) x1), .inl (Z k 7)] Z (zri Q))
  refine z0 (op := 12) (a := 0) (b := 0) (by rfl) (by rfl) (?_ : TZ (d + 1) 28 11 [some (.inr k), some (.inl x1), some (.inl x2), none] [.inl ((Z k 7) + (Z (k + 2) x1))] Z (zri Q))
  refine z0 (op := 0) (a := 0) (b := 3) (by rfl) (by rfl) (?_ : TZ (d + 1) 28 12 [some (.inr k), some (.inl x1), some (.inl x2), none] [.inl 3, .inl ((Z k 7) + (Z (k + 2) x1))] Z (zri Q))
  obtain ⟨c2, v⟩ := v
  refine z_rem (by rfl) c2 (by decide) (?_ : TZ (d + 1) 28 13 [some (.inr k), some (.inl x1), some (.inl x2), none] [.inl (Int.tmod ((Z k 7) + (Z (k + 2) x1)) 3)] Z (zri Q))
  obtain ⟨c3, v1, v2⟩ := v
  refine z_if0 (a := 1) (t := 20) (by rfl) (by rfl) c3 (fun h4 => ?_) (fun h4 => ?_)
  · have v := v1 h4; clear v1 v2
    show TZ (d + 1) 28 20 [some (.inr k), some (.inl x1), some (.inl x2), none] [] Z (zri Q)
    refine z0 (op := 0) (a := 0) (b := 0) (by rfl) (by rfl) (?_ : TZ (d + 1) 28 21 [some (.inr k), some (.inl x1), some (.inl x2), none] [.inl 0] Z (zri Q))
    refine z0 (op := 7) (a := 3) (b := 0) (by rfl) (by rfl) (?_ : TZ (d + 1) 28 22 [some (.inr k), some (.inl x1), some (.inl x2), some (.inl 0)] [] Z (zri Q))
    refine z0 (op := 3) (a := 3) (b := 0) (by rfl) (by rfl) (?_ : TZ (d + 1) 28 23 [some (.inr k), some (.inl x1), some (.inl x2), some (.inl 0)] [.inl 0] Z (zri Q))
    refine z_if0 (a := 0) (t := 36) (by rfl) (by rfl) (by decide) (fun _ => ?_) (fun h => absurd (show (0 : Int) = (0 : Int) by decide) h)
    show TZ (d + 1) 28 36 [some (.inr k), some (.inl x1), some (.inl x2), some (.inl 0)] [] Z (zri Q)
    refine z0 (op := 3) (a := 2) (b := 0) (by rfl) (by rfl) (?_ : TZ (d + 1) 28 37 [some (.inr k), some (.inl x1), some (.inl x2), some (.inl 0)] [.inl x2] Z (zri Q))
    exact z_reti (by rfl) (by rfl) v
  · have v := v2 h4; clear v1 v2
    show TZ (d + 1) 28 16 [some (.inr k), some (.inl x1), some (.inl x2), none] [] Z (zri Q)
    refine z0 (op := 0) (a := 0) (b := 1) (by rfl) (by rfl) (?_ : TZ (d + 1) 28 17 [some (.inr k), some (.inl x1), some (.inl x2), none] [.inl 1] Z (zri Q))
    refine z_goto (t := 21) (by rfl) (by rfl) (?_ : TZ (d + 1) 28 21 [some (.inr k), some (.inl x1), some (.inl x2), none] [.inl 1] Z (zri Q))
    refine z0 (op := 7) (a := 3) (b := 0) (by rfl) (by rfl) (?_ : TZ (d + 1) 28 22 [some (.inr k), some (.inl x1), some (.inl x2), some (.inl 1)] [] Z (zri Q))
    refine z0 (op := 3) (a := 3) (b := 0) (by rfl) (by rfl) (?_ : TZ (d + 1) 28 23 [some (.inr k), some (.inl x1), some (.inl x2), some (.inl 1)] [.inl 1] Z (zri Q))
    refine z_if0 (a := 0) (t := 36) (by rfl) (by rfl) (by decide) (fun h => absurd (show (1 : Int) = (0 : Int) from h) (by decide)) (fun _ => ?_)
    show TZ (d + 1) 28 26 [some (.inr k), some (.inl x1), some (.inl x2), some (.inl 1)] [] Z (zri Q)
    refine z0 (op := 0) (a := 0) (b := 0) (by rfl) (by rfl) (?_ : TZ (d + 1) 28 27 [some (.inr k), some (.inl x1), some (.inl x2), some (.inl 1)] [.inl 0] Z (zri Q))
    refine z0 (op := 3) (a := 2) (b := 0) (by rfl) (by rfl) (?_ : TZ (d + 1) 28 28 [some (.inr k), some (.inl x1), some (.inl x2), some (.inl 1)] [.inl x2, .inl 0] Z (zri Q))
    refine z0 (op := 0) (a := 0) (b := 1) (by rfl) (by rfl) (?_ : TZ (d + 1) 28 29 [some (.inr k), some (.inl x1), some (.inl x2), some (.inl 1)] [.inl 1, .inl x2, .inl 0] Z (zri Q))
    refine z0 (op := 12) (a := 1) (b := 0) (by rfl) (by rfl) (?_ : TZ (d + 1) 28 30 [some (.inr k), some (.inl x1), some (.inl x2), some (.inl 1)] [.inl (x2 - 1), .inl 0] Z (zri Q))
    obtain ⟨c5, v⟩ := v
    refine z_max (by rfl) (by rfl) (Nat.le_of_ble_eq_true rfl) (by decide) c5 (?_ : TZ (d + 1) 28 33 [some (.inr k), some (.inl x1), some (.inl x2), some (.inl 1)] [.inl (max 0 (x2 - 1))] Z (zri Q))
    refine z_goto (t := 37) (by rfl) (by rfl) (?_ : TZ (d + 1) 28 37 [some (.inr k), some (.inl x1), some (.inl x2), some (.inl 1)] [.inl (max 0 (x2 - 1))] Z (zri Q))
    exact z_reti (by rfl) (by rfl) v
theorem w29_0 {d : Nat} {x0 x1 x2 : Int} {Z : zM} {Q : Int → zM → Prop}
    (v : zR x1 ∧
      (x1 = (-1) → Q x2 Z) ∧
      (¬ x1 = (-1) → (zR (x1 - x0) ∧
          zR (if 0 ≤ (x1 - x0) then (x1 - x0) else -(x1 - x0)) ∧
          ((if 0 ≤ (x1 - x0) then (x1 - x0) else -(x1 - x0)) ≠ 1 → Q x2 Z) ∧
          (¬ (if 0 ≤ (x1 - x0) then (x1 - x0) else -(x1 - x0)) ≠ 1 → Q x0 Z)))) :
    TZ (d + 1) 29 0 [some (.inl x0), some (.inl x1), some (.inl x2), none] [] Z (zri Q) := by
  refine z0 (op := 3) (a := 1) (b := 0) (by rfl) (by rfl) (?_ : TZ (d + 1) 29 1 [some (.inl x0), some (.inl x1), some (.inl x2), none] [.inl x1] Z (zri Q))
  refine z0 (op := 0) (a := 0) (b := (-1)) (by rfl) (by rfl) (?_ : TZ (d + 1) 29 2 [some (.inl x0), some (.inl x1), some (.inl x2), none] [.inl (-1), .inl x1] Z (zri Q))
  obtain ⟨c1, v1, v2⟩ := v
  refine z_if2 (a := 0) (t := 19) (by rfl) (by rfl) c1 (by decide) (fun h2 => ?_) (fun h2 => ?_)
  · have v := v1 h2; clear v1 v2
    show TZ (d + 1) 29 19 [some (.inl x0), some (.inl x1), some (.inl x2), none] [] Z (zri Q)
    refine z0 (op := 0) (a := 0) (b := 0) (by rfl) (by rfl) (?_ : TZ (d + 1) 29 20 [some (.inl x0), some (.inl x1), some (.inl x2), none] [.inl 0] Z (zri Q))
    refine z0 (op := 7) (a := 3) (b := 0) (by rfl) (by rfl) (?_ : TZ (d + 1) 29 21 [some (.inl x0), some (.inl x1), some (.inl x2), some (.inl 0)] [] Z (zri Q))
    refine z0 (op := 3) (a := 3) (b := 0) (by rfl) (by rfl) (?_ : TZ (d + 1) 29 22 [some (.inl x0), some (.inl x1), some (.inl x2), some (.inl 0)] [.inl 0] Z (zri Q))
    refine z_if0 (a := 0) (t := 29) (by rfl) (by rfl) (by decide) (fun _ => ?_) (fun h => absurd (show (0 : Int) = (0 : Int) by decide) h)
    show TZ (d + 1) 29 29 [some (.inl x0), some (.inl x1), some (.inl x2), some (.inl 0)] [] Z (zri Q)
    refine z0 (op := 3) (a := 2) (b := 0) (by rfl) (by rfl) (?_ : TZ (d + 1) 29 30 [some (.inl x0), some (.inl x1), some (.inl x2), some (.inl 0)] [.inl x2] Z (zri Q))
    exact z_reti (by rfl) (by rfl) v
  · have v := v2 h2; clear v1 v2
    show TZ (d + 1) 29 5 [some (.inl x0), some (.inl x1), some (.inl x2), none] [] Z (zri Q)
    refine z0 (op := 3) (a := 1) (b := 0) (by rfl) (by rfl) (?_ : TZ (d + 1) 29 6 [some (.inl x0), some (.inl x1), some (.inl x2), none] [.inl x1] Z (zri Q))
    refine z0 (op := 3) (a := 0) (b := 0) (by rfl) (by rfl) (?_ : TZ (d + 1) 29 7 [some (.inl x0), some (.inl x1), some (.inl x2), none] [.inl x0, .inl x1] Z (zri Q))
    refine z0 (op := 12) (a := 1) (b := 0) (by rfl) (by rfl) (?_ : TZ (d + 1) 29 8 [some (.inl x0), some (.inl x1), some (.inl x2), none] [.inl (x1 - x0)] Z (zri Q))
    obtain ⟨c3, v⟩ := v
    refine z_abs (by rfl) (by rfl) (Nat.le_of_ble_eq_true rfl) c3 (?_ : TZ (d + 1) 29 11 [some (.inl x0), some (.inl x1), some (.inl x2), none] [.inl (if 0 ≤ (x1 - x0) then (x1 - x0) else -(x1 - x0))] Z (zri Q))
    refine z0 (op := 0) (a := 0) (b := 1) (by rfl) (by rfl) (?_ : TZ (d + 1) 29 12 [some (.inl x0), some (.inl x1), some (.inl x2), none] [.inl 1, .inl (if 0 ≤ (x1 - x0) then (x1 - x0) else -(x1 - x0))] Z (zri Q))
    obtain ⟨c4, v1, v2⟩ := v
    refine z_if2 (a := 1) (t := 19) (by rfl) (by rfl) c4 (by decide) (fun h5 => ?_) (fun h5 => ?_)
    · have v := v1 h5; clear v1 v2
      show TZ (d + 1) 29 19 [some (.inl x0), some (.inl x1), some (.inl x2), none] [] Z (zri Q)
      refine z0 (op := 0) (a := 0) (b := 0) (by rfl) (by rfl) (?_ : TZ (d + 1) 29 20 [some (.inl x0), some (.inl x1), some (.inl x2), none] [.inl 0] Z (zri Q))
      refine z0 (op := 7) (a := 3) (b := 0) (by rfl) (by rfl) (?_ : TZ (d + 1) 29 21 [some (.inl x0), some (.inl x1), some (.inl x2), some (.inl 0)] [] Z (zri Q))
      refine z0 (op := 3) (a := 3) (b := 0) (by rfl) (by rfl) (?_ : TZ (d + 1) 29 22 [some (.inl x0), some (.inl x1), some (.inl x2), some (.inl 0)] [.inl 0] Z (zri Q))
      refine z_if0 (a := 0) (t := 29) (by rfl) (by rfl) (by decide) (fun _ => ?_) (fun h => absurd (show (0 : Int) = (0 : Int) by decide) h)
      show TZ (d + 1) 29 29 [some (.inl x0), some (.inl x1), some (.inl x2), some (.inl 0)] [] Z (zri Q)
      refine z0 (op := 3) (a := 2) (b := 0) (by rfl) (by rfl) (?_ : TZ (d + 1) 29 30 [some (.inl x0), some (.inl x1), some (.inl x2), some (.inl 0)] [.inl x2] Z (zri Q))
      exact z_reti (by rfl) (by rfl) v
    · have v := v2 h5; clear v1 v2
      show TZ (d + 1) 29 15 [some (.inl x0), some (.inl x1), some (.inl x2), none] [] Z (zri Q)
      refine z0 (op := 0) (a := 0) (b := 1) (by rfl) (by rfl) (?_ : TZ (d + 1) 29 16 [some (.inl x0), some (.inl x1), some (.inl x2), none] [.inl 1] Z (zri Q))
      refine z_goto (t := 20) (by rfl) (by rfl) (?_ : TZ (d + 1) 29 20 [some (.inl x0), some (.inl x1), some (.inl x2), none] [.inl 1] Z (zri Q))
      refine z0 (op := 7) (a := 3) (b := 0) (by rfl) (by rfl) (?_ : TZ (d + 1) 29 21 [some (.inl x0), some (.inl x1), some (.inl x2), some (.inl 1)] [] Z (zri Q))
      refine z0 (op := 3) (a := 3) (b := 0) (by rfl) (by rfl) (?_ : TZ (d + 1) 29 22 [some (.inl x0), some (.inl x1), some (.inl x2), some (.inl 1)] [.inl 1] Z (zri Q))
      refine z_if0 (a := 0) (t := 29) (by rfl) (by rfl) (by decide) (fun h => absurd (show (1 : Int) = (0 : Int) from h) (by decide)) (fun _ => ?_)
      show TZ (d + 1) 29 25 [some (.inl x0), some (.inl x1), some (.inl x2), some (.inl 1)] [] Z (zri Q)
      refine z0 (op := 3) (a := 0) (b := 0) (by rfl) (by rfl) (?_ : TZ (d + 1) 29 26 [some (.inl x0), some (.inl x1), some (.inl x2), some (.inl 1)] [.inl x0] Z (zri Q))
      refine z_goto (t := 30) (by rfl) (by rfl) (?_ : TZ (d + 1) 29 30 [some (.inl x0), some (.inl x1), some (.inl x2), some (.inl 1)] [.inl x0] Z (zri Q))
      exact z_reti (by rfl) (by rfl) v
theorem w30_0 {d : Nat} {k : Nat} {x1 x2 : Int} {Z : zM} {Q : Int → zM → Prop} (hk : k ∈ zFl)
    (v : zR x2 ∧
      (x2 = (-1) → Q 0 Z) ∧
      (¬ x2 = (-1) → ((0 ≤ x1 ∧ x1 < 8) ∧
          zR (x2 - (Z (k + 3) x1)) ∧
          (0 ≤ x1 ∧ x1 < 8) ∧
          zR (if 0 ≤ (x2 - (Z (k + 3) x1)) then (x2 - (Z (k + 3) x1)) else -(x2 - (Z (k + 3) x1))) ∧
          zR (Z (k + 2) x1) ∧
          ((Z (k + 2) x1) < (if 0 ≤ (x2 - (Z (k + 3) x1)) then (x2 - (Z (k + 3) x1)) else -(x2 - (Z (k + 3) x1))) → Q 0 Z) ∧
          (¬ (Z (k + 2) x1) < (if 0 ≤ (x2 - (Z (k + 3) x1)) then (x2 - (Z (k + 3) x1)) else -(x2 - (Z (k + 3) x1))) → Q 1 Z)))) :
    TZ (d + 1) 30 0 [some (.inr k), some (.inl x1), some (.inl x2)] [] Z (zri Q) := by
  refine z0 (op := 3) (a := 2) (b := 0) (by rfl) (by rfl) (?_ : TZ (d + 1) 30 1 [some (.inr k), some (.inl x1), some (.inl x2)] [.inl x2] Z (zri Q))
  refine z0 (op := 0) (a := 0) (b := (-1)) (by rfl) (by rfl) (?_ : TZ (d + 1) 30 2 [some (.inr k), some (.inl x1), some (.inl x2)] [.inl (-1), .inl x2] Z (zri Q))
  obtain ⟨c1, v1, v2⟩ := v
  refine z_if2 (a := 0) (t := 29) (by rfl) (by rfl) c1 (by decide) (fun h2 => ?_) (fun h2 => ?_)
  · have v := v1 h2; clear v1 v2
    show TZ (d + 1) 30 29 [some (.inr k), some (.inl x1), some (.inl x2)] [] Z (zri Q)
    refine z0 (op := 0) (a := 0) (b := 0) (by rfl) (by rfl) (?_ : TZ (d + 1) 30 30 [some (.inr k), some (.inl x1), some (.inl x2)] [.inl 0] Z (zri Q))
    exact z_retb (by rfl) (by rfl) (by decide) v
  · have v := v2 h2; clear v1 v2
    show TZ (d + 1) 30 5 [some (.inr k), some (.inl x1), some (.inl x2)] [] Z (zri Q)
    refine z0 (op := 3) (a := 2) (b := 0) (by rfl) (by rfl) (?_ : TZ (d + 1) 30 6 [some (.inr k), some (.inl x1), some (.inl x2)] [.inl x2] Z (zri Q))
    refine z0 (op := 5) (a := 0) (b := 0) (by rfl) (by rfl) (?_ : TZ (d + 1) 30 7 [some (.inr k), some (.inl x1), some (.inl x2)] [.inr k, .inl x2] Z (zri Q))
    refine z_fr (by rfl) (fr6_F0 _ hk) (?_ : TZ (d + 1) 30 10 [some (.inr k), some (.inl x1), some (.inl x2)] [.inr (k + 3), .inl x2] Z (zri Q))
    refine z0 (op := 3) (a := 1) (b := 0) (by rfl) (by rfl) (?_ : TZ (d + 1) 30 11 [some (.inr k), some (.inl x1), some (.inl x2)] [.inl x1, .inr (k + 3), .inl x2] Z (zri Q))
    obtain ⟨c3, v⟩ := v
    refine z_al (by rfl) (ln_F3 _ hk) c3 (?_ : TZ (d + 1) 30 12 [some (.inr k), some (.inl x1), some (.inl x2)] [.inl (Z (k + 3) x1), .inl x2] Z (zri Q))
    refine z0 (op := 12) (a := 1) (b := 0) (by rfl) (by rfl) (?_ : TZ (d + 1) 30 13 [some (.inr k), some (.inl x1), some (.inl x2)] [.inl (x2 - (Z (k + 3) x1))] Z (zri Q))
    obtain ⟨c4, v⟩ := v
    refine z_abs (by rfl) (by rfl) (Nat.le_of_ble_eq_true rfl) c4 (?_ : TZ (d + 1) 30 16 [some (.inr k), some (.inl x1), some (.inl x2)] [.inl (if 0 ≤ (x2 - (Z (k + 3) x1)) then (x2 - (Z (k + 3) x1)) else -(x2 - (Z (k + 3) x1)))] Z (zri Q))
    refine z0 (op := 5) (a := 0) (b := 0) (by rfl) (by rfl) (?_ : TZ (d + 1) 30 17 [some (.inr k), some (.inl x1), some (.inl x2)] [.inr k, .inl (if 0 ≤ (x2 - (Z (k + 3) x1)) then (x2 - (Z (k + 3) x1)) else -(x2 - (Z (k + 3) x1)))] Z (zri Q))
    refine z_fr (by rfl) (fr5_F0 _ hk) (?_ : TZ (d + 1) 30 20 [some (.inr k), some (.inl x1), some (.inl x2)] [.inr (k + 2), .inl (if 0 ≤ (x2 - (Z (k + 3) x1)) then (x2 - (Z (k + 3) x1)) else -(x2 - (Z (k + 3) x1)))] Z (zri Q))
    refine z0 (op := 3) (a := 1) (b := 0) (by rfl) (by rfl) (?_ : TZ (d + 1) 30 21 [some (.inr k), some (.inl x1), some (.inl x2)] [.inl x1, .inr (k + 2), .inl (if 0 ≤ (x2 - (Z (k + 3) x1)) then (x2 - (Z (k + 3) x1)) else -(x2 - (Z (k + 3) x1)))] Z (zri Q))
    obtain ⟨c5, v⟩ := v
    refine z_al (by rfl) (ln_F2 _ hk) c5 (?_ : TZ (d + 1) 30 22 [some (.inr k), some (.inl x1), some (.inl x2)] [.inl (Z (k + 2) x1), .inl (if 0 ≤ (x2 - (Z (k + 3) x1)) then (x2 - (Z (k + 3) x1)) else -(x2 - (Z (k + 3) x1)))] Z (zri Q))
    obtain ⟨c6, c7, v1, v2⟩ := v
    refine z_if2 (a := 4) (t := 29) (by rfl) (by rfl) c6 c7 (fun h8 => ?_) (fun h8 => ?_)
    · have v := v1 h8; clear v1 v2
      show TZ (d + 1) 30 29 [some (.inr k), some (.inl x1), some (.inl x2)] [] Z (zri Q)
      refine z0 (op := 0) (a := 0) (b := 0) (by rfl) (by rfl) (?_ : TZ (d + 1) 30 30 [some (.inr k), some (.inl x1), some (.inl x2)] [.inl 0] Z (zri Q))
      exact z_retb (by rfl) (by rfl) (by decide) v
    · have v := v2 h8; clear v1 v2
      show TZ (d + 1) 30 25 [some (.inr k), some (.inl x1), some (.inl x2)] [] Z (zri Q)
      refine z0 (op := 0) (a := 0) (b := 1) (by rfl) (by rfl) (?_ : TZ (d + 1) 30 26 [some (.inr k), some (.inl x1), some (.inl x2)] [.inl 1] Z (zri Q))
      refine z_goto (t := 30) (by rfl) (by rfl) (?_ : TZ (d + 1) 30 30 [some (.inr k), some (.inl x1), some (.inl x2)] [.inl 1] Z (zri Q))
      exact z_retb (by rfl) (by rfl) (by decide) v
theorem w31_0 {d : Nat} {k : Nat} {x1 : Int} {Z : zM} {Q : zM → Prop} (hk : k ∈ zFl)
    (v : zR x1 ∧
      (x1 ≠ 1 → (zR x1 ∧
          (x1 ≠ 2 → (zR x1 ∧
              (x1 < 3 → Q Z) ∧
              (¬ x1 < 3 → TI d 32 [.inr k, .inl (x1 - 3)] Z (fun r8 Z7 =>
                  Q Z7)))) ∧
          (¬ x1 ≠ 2 → TI d 35 [.inr k] Z (fun r10 Z9 =>
              Q Z9)))) ∧
      (¬ x1 ≠ 1 → TI d 34 [.inr k] Z (fun r12 Z11 =>
          Q Z11))) :
    TZ (d + 1) 31 0 [some (.inr k), some (.inl x1)] [] Z (zrv Q) := by
  refine z0 (op := 3) (a := 1) (b := 0) (by rfl) (by rfl) (?_ : TZ (d + 1) 31 1 [some (.inr k), some (.inl x1)] [.inl x1] Z (zrv Q))
  refine z0 (op := 0) (a := 0) (b := 1) (by rfl) (by rfl) (?_ : TZ (d + 1) 31 2 [some (.inr k), some (.inl x1)] [.inl 1, .inl x1] Z (zrv Q))
  obtain ⟨c1, v1, v2⟩ := v
  refine z_if2 (a := 1) (t := 13) (by rfl) (by rfl) c1 (by decide) (fun h2 => ?_) (fun h2 => ?_)
  · have v := v1 h2; clear v1 v2
    show TZ (d + 1) 31 13 [some (.inr k), some (.inl x1)] [] Z (zrv Q)
    refine z0 (op := 3) (a := 1) (b := 0) (by rfl) (by rfl) (?_ : TZ (d + 1) 31 14 [some (.inr k), some (.inl x1)] [.inl x1] Z (zrv Q))
    refine z0 (op := 0) (a := 0) (b := 2) (by rfl) (by rfl) (?_ : TZ (d + 1) 31 15 [some (.inr k), some (.inl x1)] [.inl 2, .inl x1] Z (zrv Q))
    obtain ⟨c3, v1, v2⟩ := v
    refine z_if2 (a := 1) (t := 26) (by rfl) (by rfl) c3 (by decide) (fun h4 => ?_) (fun h4 => ?_)
    · have v := v1 h4; clear v1 v2
      show TZ (d + 1) 31 26 [some (.inr k), some (.inl x1)] [] Z (zrv Q)
      refine z0 (op := 3) (a := 1) (b := 0) (by rfl) (by rfl) (?_ : TZ (d + 1) 31 27 [some (.inr k), some (.inl x1)] [.inl x1] Z (zrv Q))
      refine z0 (op := 0) (a := 0) (b := 3) (by rfl) (by rfl) (?_ : TZ (d + 1) 31 28 [some (.inr k), some (.inl x1)] [.inl 3, .inl x1] Z (zrv Q))
      obtain ⟨c5, v1, v2⟩ := v
      refine z_if2 (a := 2) (t := 39) (by rfl) (by rfl) c5 (by decide) (fun h6 => ?_) (fun h6 => ?_)
      · have v := v1 h6; clear v1 v2
        show TZ (d + 1) 31 39 [some (.inr k), some (.inl x1)] [] Z (zrv Q)
        exact z_retv (by rfl) (by rfl) v
      · have v := v2 h6; clear v1 v2
        show TZ (d + 1) 31 31 [some (.inr k), some (.inl x1)] [] Z (zrv Q)
        refine z0 (op := 5) (a := 0) (b := 0) (by rfl) (by rfl) (?_ : TZ (d + 1) 31 32 [some (.inr k), some (.inl x1)] [.inr k] Z (zrv Q))
        refine z0 (op := 3) (a := 1) (b := 0) (by rfl) (by rfl) (?_ : TZ (d + 1) 31 33 [some (.inr k), some (.inl x1)] [.inl x1, .inr k] Z (zrv Q))
        refine z0 (op := 0) (a := 0) (b := 3) (by rfl) (by rfl) (?_ : TZ (d + 1) 31 34 [some (.inr k), some (.inl x1)] [.inl 3, .inl x1, .inr k] Z (zrv Q))
        refine z0 (op := 12) (a := 1) (b := 0) (by rfl) (by rfl) (?_ : TZ (d + 1) 31 35 [some (.inr k), some (.inl x1)] [.inl (x1 - 3), .inr k] Z (zrv Q))
        refine z_vi (by rfl) (by rfl) (cl_F0 _ hk) (TI.mono v fun r8 Z7 v => ?_)
        show TZ (d + 1) 31 38 [some (.inr k), some (.inl x1)] [.inl r8] Z7 (zrv Q)
        refine z0 (op := 14) (a := 0) (b := 0) (by rfl) (by rfl) (?_ : TZ (d + 1) 31 39 [some (.inr k), some (.inl x1)] [] Z7 (zrv Q))
        exact z_retv (by rfl) (by rfl) v
    · have v := v2 h4; clear v1 v2
      show TZ (d + 1) 31 18 [some (.inr k), some (.inl x1)] [] Z (zrv Q)
      refine z0 (op := 5) (a := 0) (b := 0) (by rfl) (by rfl) (?_ : TZ (d + 1) 31 19 [some (.inr k), some (.inl x1)] [.inr k] Z (zrv Q))
      refine z_vi (by rfl) (by rfl) (cl_F0 _ hk) (TI.mono v fun r10 Z9 v => ?_)
      show TZ (d + 1) 31 22 [some (.inr k), some (.inl x1)] [.inl r10] Z9 (zrv Q)
      refine z0 (op := 14) (a := 0) (b := 0) (by rfl) (by rfl) (?_ : TZ (d + 1) 31 23 [some (.inr k), some (.inl x1)] [] Z9 (zrv Q))
      refine z_goto (t := 39) (by rfl) (by rfl) (?_ : TZ (d + 1) 31 39 [some (.inr k), some (.inl x1)] [] Z9 (zrv Q))
      exact z_retv (by rfl) (by rfl) v
  · have v := v2 h2; clear v1 v2
    show TZ (d + 1) 31 5 [some (.inr k), some (.inl x1)] [] Z (zrv Q)
    refine z0 (op := 5) (a := 0) (b := 0) (by rfl) (by rfl) (?_ : TZ (d + 1) 31 6 [some (.inr k), some (.inl x1)] [.inr k] Z (zrv Q))
    refine z_vi (by rfl) (by rfl) (cl_F0 _ hk) (TI.mono v fun r12 Z11 v => ?_)
    show TZ (d + 1) 31 9 [some (.inr k), some (.inl x1)] [.inl r12] Z11 (zrv Q)
    refine z0 (op := 14) (a := 0) (b := 0) (by rfl) (by rfl) (?_ : TZ (d + 1) 31 10 [some (.inr k), some (.inl x1)] [] Z11 (zrv Q))
    refine z_goto (t := 39) (by rfl) (by rfl) (?_ : TZ (d + 1) 31 39 [some (.inr k), some (.inl x1)] [] Z11 (zrv Q))
    exact z_retv (by rfl) (by rfl) v
theorem w32_0 {d : Nat} {k : Nat} {x1 : Int} {Z : zM} {Q : Int → zM → Prop} (hk : k ∈ zFl)
    (v : TZ d 32 4 [some (.inr k), some (.inl x1), some (.inl 0), some (.inl 0), none] [] Z (zri Q)) :
    TZ d 32 0 [some (.inr k), some (.inl x1), none, none, none] [] Z (zri Q) := by
  refine z0 (op := 0) (a := 0) (b := 0) (by rfl) (by rfl) (?_ : TZ d 32 1 [some (.inr k), some (.inl x1), none, none, none] [.inl 0] Z (zri Q))
  refine z0 (op := 7) (a := 2) (b := 0) (by rfl) (by rfl) (?_ : TZ d 32 2 [some (.inr k), some (.inl x1), some (.inl 0), none, none] [] Z (zri Q))
  refine z0 (op := 0) (a := 0) (b := 0) (by rfl) (by rfl) (?_ : TZ d 32 3 [some (.inr k), some (.inl x1), some (.inl 0), none, none] [.inl 0] Z (zri Q))
  refine z0 (op := 7) (a := 3) (b := 0) (by rfl) (by rfl) (?_ : TZ d 32 4 [some (.inr k), some (.inl x1), some (.inl 0), some (.inl 0), none] [] Z (zri Q))
  exact v
theorem w32_4 {d : Nat} {k : Nat} {x1 x2 x3 : Int} {o4 : Option zV} {Z : zM} {Q : Int → zM → Prop} (hk : k ∈ zFl)
    (v : zR x3 ∧
      zR (Z k 5) ∧
      ((Z k 5) ≤ x3 → Q x2 Z) ∧
      (¬ (Z k 5) ≤ x3 → ((0 ≤ x3 ∧ x3 < 8) ∧
          zR (Z (k + 3) x3) ∧
          zR x1 ∧
          ((Z (k + 3) x3) ≠ x1 → TZ (d + 1) 32 4 [some (.inr k), some (.inl x1), some (.inl x2), some (.inl (x3 + 1)), some (.inl (-9))] [] Z (zri Q)) ∧
          (¬ (Z (k + 3) x3) ≠ x1 → TI d 33 [.inr k, .inl x1] Z (fun r9 Z8 =>
              zR r9 ∧
                (r9 < 0 → TZ (d + 1) 32 4 [some (.inr k), some (.inl x1), some (.inl x2), some (.inl (x3 + 1)), some (.inl r9)] [] Z8 (zri Q)) ∧
                (¬ r9 < 0 → TV d 20 [.inr k, .inl x3, .inl r9] Z8 (fun Z12 =>
                    TZ (d + 1) 32 4 [some (.inr k), some (.inl x1), some (.inl (x2 + 1)), some (.inl (x3 + 1)), some (.inl r9)] [] Z12 (zri Q)))))))) :
    TZ (d + 1) 32 4 [some (.inr k), some (.inl x1), some (.inl x2), some (.inl x3), o4] [] Z (zri Q) := by
  refine z0 (op := 3) (a := 3) (b := 0) (by rfl) (by rfl) (?_ : TZ (d + 1) 32 5 [some (.inr k), some (.inl x1), some (.inl x2), some (.inl x3), o4] [.inl x3] Z (zri Q))
  refine z0 (op := 5) (a := 0) (b := 0) (by rfl) (by rfl) (?_ : TZ (d + 1) 32 6 [some (.inr k), some (.inl x1), some (.inl x2), some (.inl x3), o4] [.inr k, .inl x3] Z (zri Q))
  refine z_fi (by rfl) (fi10_F0 _ hk) (?_ : TZ (d + 1) 32 9 [some (.inr k), some (.inl x1), some (.inl x2), some (.inl x3), o4] [.inl (Z k 5), .inl x3] Z (zri Q))
  obtain ⟨c1, c2, v1, v2⟩ := v
  refine z_if2 (a := 3) (t := 55) (by rfl) (by rfl) c1 c2 (fun h3 => ?_) (fun h3 => ?_)
  · have v := v1 h3; clear v1 v2
    show TZ (d + 1) 32 55 [some (.inr k), some (.inl x1), some (.inl x2), some (.inl x3), o4] [] Z (zri Q)
    refine z0 (op := 3) (a := 2) (b := 0) (by rfl) (by rfl) (?_ : TZ (d + 1) 32 56 [some (.inr k), some (.inl x1), some (.inl x2), some (.inl x3), o4] [.inl x2] Z (zri Q))
    exact z_reti (by rfl) (by rfl) v
  · have v := v2 h3; clear v1 v2
    show TZ (d + 1) 32 12 [some (.inr k), some (.inl x1), some (.inl x2), some (.inl x3), o4] [] Z (zri Q)
    refine z0 (op := 5) (a := 0) (b := 0) (by rfl) (by rfl) (?_ : TZ (d + 1) 32 13 [some (.inr k), some (.inl x1), some (.inl x2), some (.inl x3), o4] [.inr k] Z (zri Q))
    refine z_fr (by rfl) (fr6_F0 _ hk) (?_ : TZ (d + 1) 32 16 [some (.inr k), some (.inl x1), some (.inl x2), some (.inl x3), o4] [.inr (k + 3)] Z (zri Q))
    refine z0 (op := 3) (a := 3) (b := 0) (by rfl) (by rfl) (?_ : TZ (d + 1) 32 17 [some (.inr k), some (.inl x1), some (.inl x2), some (.inl x3), o4] [.inl x3, .inr (k + 3)] Z (zri Q))
    obtain ⟨c4, v⟩ := v
    refine z_al (by rfl) (ln_F3 _ hk) c4 (?_ : TZ (d + 1) 32 18 [some (.inr k), some (.inl x1), some (.inl x2), some (.inl x3), o4] [.inl (Z (k + 3) x3)] Z (zri Q))
    refine z0 (op := 3) (a := 1) (b := 0) (by rfl) (by rfl) (?_ : TZ (d + 1) 32 19 [some (.inr k), some (.inl x1), some (.inl x2), some (.inl x3), o4] [.inl x1, .inl (Z (k + 3) x3)] Z (zri Q))
    obtain ⟨c5, c6, v1, v2⟩ := v
    refine z_if2 (a := 1) (t := 30) (by rfl) (by rfl) c5 c6 (fun h7 => ?_) (fun h7 => ?_)
    · have v := v1 h7; clear v1 v2
      show TZ (d + 1) 32 30 [some (.inr k), some (.inl x1), some (.inl x2), some (.inl x3), o4] [] Z (zri Q)
      refine z0 (op := 1) (a := 0) (b := (-9)) (by rfl) (by rfl) (?_ : TZ (d + 1) 32 32 [some (.inr k), some (.inl x1), some (.inl x2), some (.inl x3), o4] [.inl (-9)] Z (zri Q))
      refine z0 (op := 8) (a := 4) (b := 0) (by rfl) (by rfl) (?_ : TZ (d + 1) 32 34 [some (.inr k), some (.inl x1), some (.inl x2), some (.inl x3), some (.inl (-9))] [] Z (zri Q))
      refine z0 (op := 4) (a := 4) (b := 0) (by rfl) (by rfl) (?_ : TZ (d + 1) 32 36 [some (.inr k), some (.inl x1), some (.inl x2), some (.inl x3), some (.inl (-9))] [.inl (-9)] Z (zri Q))
      refine z_if0 (a := 2) (t := 49) (by rfl) (by rfl) (by decide) (fun _ => ?_) (fun h => absurd (show ((-9) : Int) < (0 : Int) by decide) h)
      show TZ (d + 1) 32 49 [some (.inr k), some (.inl x1), some (.inl x2), some (.inl x3), some (.inl (-9))] [] Z (zri Q)
      refine z0 (op := 11) (a := 3) (b := 1) (by rfl) (by rfl) (?_ : TZ (d + 1) 32 52 [some (.inr k), some (.inl x1), some (.inl x2), some (.inl (x3 + 1)), some (.inl (-9))] [] Z (zri Q))
      refine z_goto (t := 4) (by rfl) (by rfl) (?_ : TZ (d + 1) 32 4 [some (.inr k), some (.inl x1), some (.inl x2), some (.inl (x3 + 1)), some (.inl (-9))] [] Z (zri Q))
      exact v
    · have v := v2 h7; clear v1 v2
      show TZ (d + 1) 32 22 [some (.inr k), some (.inl x1), some (.inl x2), some (.inl x3), o4] [] Z (zri Q)
      refine z0 (op := 5) (a := 0) (b := 0) (by rfl) (by rfl) (?_ : TZ (d + 1) 32 23 [some (.inr k), some (.inl x1), some (.inl x2), some (.inl x3), o4] [.inr k] Z (zri Q))
      refine z0 (op := 3) (a := 1) (b := 0) (by rfl) (by rfl) (?_ : TZ (d + 1) 32 24 [some (.inr k), some (.inl x1), some (.inl x2), some (.inl x3), o4] [.inl x1, .inr k] Z (zri Q))
      refine z_vi (by rfl) (by rfl) (cl_F0 _ hk) (TI.mono v fun r9 Z8 v => ?_)
      show TZ (d + 1) 32 27 [some (.inr k), some (.inl x1), some (.inl x2), some (.inl x3), o4] [.inl r9] Z8 (zri Q)
      refine z_goto (t := 32) (by rfl) (by rfl) (?_ : TZ (d + 1) 32 32 [some (.inr k), some (.inl x1), some (.inl x2), some (.inl x3), o4] [.inl r9] Z8 (zri Q))
      refine z0 (op := 8) (a := 4) (b := 0) (by rfl) (by rfl) (?_ : TZ (d + 1) 32 34 [some (.inr k), some (.inl x1), some (.inl x2), some (.inl x3), some (.inl r9)] [] Z8 (zri Q))
      refine z0 (op := 4) (a := 4) (b := 0) (by rfl) (by rfl) (?_ : TZ (d + 1) 32 36 [some (.inr k), some (.inl x1), some (.inl x2), some (.inl x3), some (.inl r9)] [.inl r9] Z8 (zri Q))
      obtain ⟨c10, v1, v2⟩ := v
      refine z_if0 (a := 2) (t := 49) (by rfl) (by rfl) c10 (fun h11 => ?_) (fun h11 => ?_)
      · have v := v1 h11; clear v1 v2
        show TZ (d + 1) 32 49 [some (.inr k), some (.inl x1), some (.inl x2), some (.inl x3), some (.inl r9)] [] Z8 (zri Q)
        refine z0 (op := 11) (a := 3) (b := 1) (by rfl) (by rfl) (?_ : TZ (d + 1) 32 52 [some (.inr k), some (.inl x1), some (.inl x2), some (.inl (x3 + 1)), some (.inl r9)] [] Z8 (zri Q))
        refine z_goto (t := 4) (by rfl) (by rfl) (?_ : TZ (d + 1) 32 4 [some (.inr k), some (.inl x1), some (.inl x2), some (.inl (x3 + 1)), some (.inl r9)] [] Z8 (zri Q))
        exact v
      · have v := v2 h11; clear v1 v2
        show TZ (d + 1) 32 39 [some (.inr k), some (.inl x1), some (.inl x2), some (.inl x3), some (.inl r9)] [] Z8 (zri Q)
        refine z0 (op := 5) (a := 0) (b := 0) (by rfl) (by rfl) (?_ : TZ (d + 1) 32 40 [some (.inr k), some (.inl x1), some (.inl x2), some (.inl x3), some (.inl r9)] [.inr k] Z8 (zri Q))
        refine z0 (op := 3) (a := 3) (b := 0) (by rfl) (by rfl) (?_ : TZ (d + 1) 32 41 [some (.inr k), some (.inl x1), some (.inl x2), some (.inl x3), some (.inl r9)] [.inl x3, .inr k] Z8 (zri Q))
        refine z0 (op := 4) (a := 4) (b := 0) (by rfl) (by rfl) (?_ : TZ (d + 1) 32 43 [some (.inr k), some (.inl x1), some (.inl x2), some (.inl x3), some (.inl r9)] [.inl r9, .inl x3, .inr k] Z8 (zri Q))
        refine z_vv (by rfl) (by rfl) (cl_F0 _ hk) (TV.mono v fun Z12 v => ?_)
        show TZ (d + 1) 32 46 [some (.inr k), some (.inl x1), some (.inl x2), some (.inl x3), some (.inl r9)] [] Z12 (zri Q)
        refine z0 (op := 11) (a := 2) (b := 1) (by rfl) (by rfl) (?_ : TZ (d + 1) 32 49 [some (.inr k), some (.inl x1), some (.inl (x2 + 1)), some (.inl x3), some (.inl r9)] [] Z12 (zri Q))
        refine z0 (op := 11) (a := 3) (b := 1) (by rfl) (by rfl) (?_ : TZ (d + 1) 32 52 [some (.inr k), some (.inl x1), some (.inl (x2 + 1)), some (.inl (x3 + 1)), some (.inl r9)] [] Z12 (zri Q))
        refine z_goto (t := 4) (by rfl) (by rfl) (?_ : TZ (d + 1) 32 4 [some (.inr k), some (.inl x1), some (.inl (x2 + 1)), some (.inl (x3 + 1)), some (.inl r9)] [] Z12 (zri Q))
        exact v
theorem w33_0 {d : Nat} {k : Nat} {x1 : Int} {Z : zM} {Q : Int → zM → Prop} (hk : k ∈ zFl)
    (v : TZ d 33 4 [some (.inr k), some (.inl x1), some (.inl (x1 + 1))] [] Z (zri Q)) :
    TZ d 33 0 [some (.inr k), some (.inl x1), none] [] Z (zri Q) := by
  refine z0 (op := 3) (a := 1) (b := 0) (by rfl) (by rfl) (?_ : TZ d 33 1 [some (.inr k), some (.inl x1), none] [.inl x1] Z (zri Q))
  refine z0 (op := 0) (a := 0) (b := 1) (by rfl) (by rfl) (?_ : TZ d 33 2 [some (.inr k), some (.inl x1), none] [.inl 1, .inl x1] Z (zri Q))
  refine z0 (op := 12) (a := 0) (b := 0) (by rfl) (by rfl) (?_ : TZ d 33 3 [some (.inr k), some (.inl x1), none] [.inl (x1 + 1)] Z (zri Q))
  refine z0 (op := 7) (a := 2) (b := 0) (by rfl) (by rfl) (?_ : TZ d 33 4 [some (.inr k), some (.inl x1), some (.inl (x1 + 1))] [] Z (zri Q))
  exact v
theorem w33_4 {d : Nat} {k : Nat} {x1 x2 : Int} {Z : zM} {Q : Int → zM → Prop} (hk : k ∈ zFl)
    (v : zR x2 ∧
      zR (Z k 6) ∧
      ((Z k 6) ≤ x2 → TZ (d + 1) 33 32 [some (.inr k), some (.inl x1), some (.inl (x1 - 1))] [] Z (zri Q)) ∧
      (¬ (Z k 6) ≤ x2 → TI d 17 [.inr k, .inl x2] Z (fun r5 Z4 =>
          zR r5 ∧
            (r5 = 0 → TZ (d + 1) 33 4 [some (.inr k), some (.inl x1), some (.inl (x2 + 1))] [] Z4 (zri Q)) ∧
            (¬ r5 = 0 → Q x2 Z4)))) :
    TZ (d + 1) 33 4 [some (.inr k), some (.inl x1), some (.inl x2)] [] Z (zri Q) := by
  refine z0 (op := 3) (a := 2) (b := 0) (by rfl) (by rfl) (?_ : TZ (d + 1) 33 5 [some (.inr k), some (.inl x1), some (.inl x2)] [.inl x2] Z (zri Q))
  refine z0 (op := 5) (a := 0) (b := 0) (by rfl) (by rfl) (?_ : TZ (d + 1) 33 6 [some (.inr k), some (.inl x1), some (.inl x2)] [.inr k, .inl x2] Z (zri Q))
  refine z_fi (by rfl) (fi9_F0 _ hk) (?_ : TZ (d + 1) 33 9 [some (.inr k), some (.inl x1), some (.inl x2)] [.inl (Z k 6), .inl x2] Z (zri Q))
  obtain ⟨c1, c2, v1, v2⟩ := v
  refine z_if2 (a := 3) (t := 28) (by rfl) (by rfl) c1 c2 (fun h3 => ?_) (fun h3 => ?_)
  · have v := v1 h3; clear v1 v2
    show TZ (d + 1) 33 28 [some (.inr k), some (.inl x1), some (.inl x2)] [] Z (zri Q)
    refine z0 (op := 3) (a := 1) (b := 0) (by rfl) (by rfl) (?_ : TZ (d + 1) 33 29 [some (.inr k), some (.inl x1), some (.inl x2)] [.inl x1] Z (zri Q))
    refine z0 (op := 0) (a := 0) (b := 1) (by rfl) (by rfl) (?_ : TZ (d + 1) 33 30 [some (.inr k), some (.inl x1), some (.inl x2)] [.inl 1, .inl x1] Z (zri Q))
    refine z0 (op := 12) (a := 1) (b := 0) (by rfl) (by rfl) (?_ : TZ (d + 1) 33 31 [some (.inr k), some (.inl x1), some (.inl x2)] [.inl (x1 - 1)] Z (zri Q))
    refine z0 (op := 7) (a := 2) (b := 0) (by rfl) (by rfl) (?_ : TZ (d + 1) 33 32 [some (.inr k), some (.inl x1), some (.inl (x1 - 1))] [] Z (zri Q))
    exact v
  · have v := v2 h3; clear v1 v2
    show TZ (d + 1) 33 12 [some (.inr k), some (.inl x1), some (.inl x2)] [] Z (zri Q)
    refine z0 (op := 5) (a := 0) (b := 0) (by rfl) (by rfl) (?_ : TZ (d + 1) 33 13 [some (.inr k), some (.inl x1), some (.inl x2)] [.inr k] Z (zri Q))
    refine z0 (op := 3) (a := 2) (b := 0) (by rfl) (by rfl) (?_ : TZ (d + 1) 33 14 [some (.inr k), some (.inl x1), some (.inl x2)] [.inl x2, .inr k] Z (zri Q))
    refine z_vi (by rfl) (by rfl) (cl_F0 _ hk) (TI.mono v fun r5 Z4 v => ?_)
    show TZ (d + 1) 33 17 [some (.inr k), some (.inl x1), some (.inl x2)] [.inl r5] Z4 (zri Q)
    obtain ⟨c6, v1, v2⟩ := v
    refine z_if0 (a := 0) (t := 22) (by rfl) (by rfl) c6 (fun h7 => ?_) (fun h7 => ?_)
    · have v := v1 h7; clear v1 v2
      show TZ (d + 1) 33 22 [some (.inr k), some (.inl x1), some (.inl x2)] [] Z4 (zri Q)
      refine z0 (op := 11) (a := 2) (b := 1) (by rfl) (by rfl) (?_ : TZ (d + 1) 33 25 [some (.inr k), some (.inl x1), some (.inl (x2 + 1))] [] Z4 (zri Q))
      refine z_goto (t := 4) (by rfl) (by rfl) (?_ : TZ (d + 1) 33 4 [some (.inr k), some (.inl x1), some (.inl (x2 + 1))] [] Z4 (zri Q))
      exact v
    · have v := v2 h7; clear v1 v2
      show TZ (d + 1) 33 20 [some (.inr k), some (.inl x1), some (.inl x2)] [] Z4 (zri Q)
      refine z0 (op := 3) (a := 2) (b := 0) (by rfl) (by rfl) (?_ : TZ (d + 1) 33 21 [some (.inr k), some (.inl x1), some (.inl x2)] [.inl x2] Z4 (zri Q))
      exact z_reti (by rfl) (by rfl) v
theorem w33_32 {d : Nat} {k : Nat} {x1 x2 : Int} {Z : zM} {Q : Int → zM → Prop} (hk : k ∈ zFl)
    (v : zR x2 ∧
      (x2 < 0 → Q (-9) Z) ∧
      (¬ x2 < 0 → TI d 17 [.inr k, .inl x2] Z (fun r4 Z3 =>
          zR r4 ∧
            (r4 = 0 → TZ (d + 1) 33 32 [some (.inr k), some (.inl x1), some (.inl (x2 + (-1)))] [] Z3 (zri Q)) ∧
            (¬ r4 = 0 → Q x2 Z3)))) :
    TZ (d + 1) 33 32 [some (.inr k), some (.inl x1), some (.inl x2)] [] Z (zri Q) := by
  refine z0 (op := 3) (a := 2) (b := 0) (by rfl) (by rfl) (?_ : TZ (d + 1) 33 33 [some (.inr k), some (.inl x1), some (.inl x2)] [.inl x2] Z (zri Q))
  obtain ⟨c1, v1, v2⟩ := v
  refine z_if0 (a := 2) (t := 52) (by rfl) (by rfl) c1 (fun h2 => ?_) (fun h2 => ?_)
  · have v := v1 h2; clear v1 v2
    show TZ (d + 1) 33 52 [some (.inr k), some (.inl x1), some (.inl x2)] [] Z (zri Q)
    refine z0 (op := 1) (a := 0) (b := (-9)) (by rfl) (by rfl) (?_ : TZ (d + 1) 33 54 [some (.inr k), some (.inl x1), some (.inl x2)] [.inl (-9)] Z (zri Q))
    exact z_reti (by rfl) (by rfl) v
  · have v := v2 h2; clear v1 v2
    show TZ (d + 1) 33 36 [some (.inr k), some (.inl x1), some (.inl x2)] [] Z (zri Q)
    refine z0 (op := 5) (a := 0) (b := 0) (by rfl) (by rfl) (?_ : TZ (d + 1) 33 37 [some (.inr k), some (.inl x1), some (.inl x2)] [.inr k] Z (zri Q))
    refine z0 (op := 3) (a := 2) (b := 0) (by rfl) (by rfl) (?_ : TZ (d + 1) 33 38 [some (.inr k), some (.inl x1), some (.inl x2)] [.inl x2, .inr k] Z (zri Q))
    refine z_vi (by rfl) (by rfl) (cl_F0 _ hk) (TI.mono v fun r4 Z3 v => ?_)
    show TZ (d + 1) 33 41 [some (.inr k), some (.inl x1), some (.inl x2)] [.inl r4] Z3 (zri Q)
    obtain ⟨c5, v1, v2⟩ := v
    refine z_if0 (a := 0) (t := 46) (by rfl) (by rfl) c5 (fun h6 => ?_) (fun h6 => ?_)
    · have v := v1 h6; clear v1 v2
      show TZ (d + 1) 33 46 [some (.inr k), some (.inl x1), some (.inl x2)] [] Z3 (zri Q)
      refine z0 (op := 11) (a := 2) (b := (-1)) (by rfl) (by rfl) (?_ : TZ (d + 1) 33 49 [some (.inr k), some (.inl x1), some (.inl (x2 + (-1)))] [] Z3 (zri Q))
      refine z_goto (t := 32) (by rfl) (by rfl) (?_ : TZ (d + 1) 33 32 [some (.inr k), some (.inl x1), some (.inl (x2 + (-1)))] [] Z3 (zri Q))
      exact v
    · have v := v2 h6; clear v1 v2
      show TZ (d + 1) 33 44 [some (.inr k), some (.inl x1), some (.inl x2)] [] Z3 (zri Q)
      refine z0 (op := 3) (a := 2) (b := 0) (by rfl) (by rfl) (?_ : TZ (d + 1) 33 45 [some (.inr k), some (.inl x1), some (.inl x2)] [.inl x2] Z3 (zri Q))
      exact z_reti (by rfl) (by rfl) v
theorem w34_0 {d : Nat} {k : Nat} {Z : zM} {Q : Int → zM → Prop} (hk : k ∈ zFl)
    (v : TZ d 34 4 [some (.inr k), some (.inl 0), some (.inl 0), none, none, none] [] Z (zri Q)) :
    TZ d 34 0 [some (.inr k), none, none, none, none, none] [] Z (zri Q) := by
  refine z0 (op := 0) (a := 0) (b := 0) (by rfl) (by rfl) (?_ : TZ d 34 1 [some (.inr k), none, none, none, none, none] [.inl 0] Z (zri Q))
  refine z0 (op := 7) (a := 1) (b := 0) (by rfl) (by rfl) (?_ : TZ d 34 2 [some (.inr k), some (.inl 0), none, none, none, none] [] Z (zri Q))
  refine z0 (op := 0) (a := 0) (b := 0) (by rfl) (by rfl) (?_ : TZ d 34 3 [some (.inr k), some (.inl 0), none, none, none, none] [.inl 0] Z (zri Q))
  refine z0 (op := 7) (a := 2) (b := 0) (by rfl) (by rfl) (?_ : TZ d 34 4 [some (.inr k), some (.inl 0), some (.inl 0), none, none, none] [] Z (zri Q))
  exact v
theorem w34_4 {d : Nat} {k : Nat} {x1 x2 : Int} {o3 o4 o5 : Option zV} {Z : zM} {Q : Int → zM → Prop} (hk : k ∈ zFl)
    (v : zR x2 ∧
      zR (Z k 5) ∧
      ((Z k 5) ≤ x2 → Q x1 Z) ∧
      (¬ (Z k 5) ≤ x2 → ((0 ≤ x2 ∧ x2 < 8) ∧ TZ d 34 30 [some (.inr k), some (.inl x1), some (.inl x2), some (.inl (Z (k + 3) x2)), some (.inl (Z (k + 3) x2)), some (.inl ((Z k 6) - 1))] [] Z (zri Q)))) :
    TZ d 34 4 [some (.inr k), some (.inl x1), some (.inl x2), o3, o4, o5] [] Z (zri Q) := by
  refine z0 (op := 3) (a := 2) (b := 0) (by rfl) (by rfl) (?_ : TZ d 34 5 [some (.inr k), some (.inl x1), some (.inl x2), o3, o4, o5] [.inl x2] Z (zri Q))
  refine z0 (op := 5) (a := 0) (b := 0) (by rfl) (by rfl) (?_ : TZ d 34 6 [some (.inr k), some (.inl x1), some (.inl x2), o3, o4, o5] [.inr k, .inl x2] Z (zri Q))
  refine z_fi (by rfl) (fi10_F0 _ hk) (?_ : TZ d 34 9 [some (.inr k), some (.inl x1), some (.inl x2), o3, o4, o5] [.inl (Z k 5), .inl x2] Z (zri Q))
  obtain ⟨c1, c2, v1, v2⟩ := v
  refine z_if2 (a := 3) (t := 92) (by rfl) (by rfl) c1 c2 (fun h3 => ?_) (fun h3 => ?_)
  · have v := v1 h3; clear v1 v2
    show TZ d 34 92 [some (.inr k), some (.inl x1), some (.inl x2), o3, o4, o5] [] Z (zri Q)
    refine z0 (op := 3) (a := 1) (b := 0) (by rfl) (by rfl) (?_ : TZ d 34 93 [some (.inr k), some (.inl x1), some (.inl x2), o3, o4, o5] [.inl x1] Z (zri Q))
    exact z_reti (by rfl) (by rfl) v
  · have v := v2 h3; clear v1 v2
    show TZ d 34 12 [some (.inr k), some (.inl x1), some (.inl x2), o3, o4, o5] [] Z (zri Q)
    refine z0 (op := 5) (a := 0) (b := 0) (by rfl) (by rfl) (?_ : TZ d 34 13 [some (.inr k), some (.inl x1), some (.inl x2), o3, o4, o5] [.inr k] Z (zri Q))
    refine z_fr (by rfl) (fr6_F0 _ hk) (?_ : TZ d 34 16 [some (.inr k), some (.inl x1), some (.inl x2), o3, o4, o5] [.inr (k + 3)] Z (zri Q))
    refine z0 (op := 3) (a := 2) (b := 0) (by rfl) (by rfl) (?_ : TZ d 34 17 [some (.inr k), some (.inl x1), some (.inl x2), o3, o4, o5] [.inl x2, .inr (k + 3)] Z (zri Q))
    obtain ⟨c4, v⟩ := v
    refine z_al (by rfl) (ln_F3 _ hk) c4 (?_ : TZ d 34 18 [some (.inr k), some (.inl x1), some (.inl x2), o3, o4, o5] [.inl (Z (k + 3) x2)] Z (zri Q))
    refine z0 (op := 7) (a := 3) (b := 0) (by rfl) (by rfl) (?_ : TZ d 34 19 [some (.inr k), some (.inl x1), some (.inl x2), some (.inl (Z (k + 3) x2)), o4, o5] [] Z (zri Q))
    refine z0 (op := 3) (a := 3) (b := 0) (by rfl) (by rfl) (?_ : TZ d 34 20 [some (.inr k), some (.inl x1), some (.inl x2), some (.inl (Z (k + 3) x2)), o4, o5] [.inl (Z (k + 3) x2)] Z (zri Q))
    refine z0 (op := 8) (a := 4) (b := 0) (by rfl) (by rfl) (?_ : TZ d 34 22 [some (.inr k), some (.inl x1), some (.inl x2), some (.inl (Z (k + 3) x2)), some (.inl (Z (k + 3) x2)), o5] [] Z (zri Q))
    refine z0 (op := 5) (a := 0) (b := 0) (by rfl) (by rfl) (?_ : TZ d 34 23 [some (.inr k), some (.inl x1), some (.inl x2), some (.inl (Z (k + 3) x2)), some (.inl (Z (k + 3) x2)), o5] [.inr k] Z (zri Q))
    refine z_fi (by rfl) (fi9_F0 _ hk) (?_ : TZ d 34 26 [some (.inr k), some (.inl x1), some (.inl x2), some (.inl (Z (k + 3) x2)), some (.inl (Z (k + 3) x2)), o5] [.inl (Z k 6)] Z (zri Q))
    refine z0 (op := 0) (a := 0) (b := 1) (by rfl) (by rfl) (?_ : TZ d 34 27 [some (.inr k), some (.inl x1), some (.inl x2), some (.inl (Z (k + 3) x2)), some (.inl (Z (k + 3) x2)), o5] [.inl 1, .inl (Z k 6)] Z (zri Q))
    refine z0 (op := 12) (a := 1) (b := 0) (by rfl) (by rfl) (?_ : TZ d 34 28 [some (.inr k), some (.inl x1), some (.inl x2), some (.inl (Z (k + 3) x2)), some (.inl (Z (k + 3) x2)), o5] [.inl ((Z k 6) - 1)] Z (zri Q))
    refine z0 (op := 8) (a := 5) (b := 0) (by rfl) (by rfl) (?_ : TZ d 34 30 [some (.inr k), some (.inl x1), some (.inl x2), some (.inl (Z (k + 3) x2)), some (.inl (Z (k + 3) x2)), some (.inl ((Z k 6) - 1))] [] Z (zri Q))
    exact v
theorem w34_30 {d : Nat} {k : Nat} {x1 x2 x3 x4 x5 : Int} {Z : zM} {Q : Int → zM → Prop} (hk : k ∈ zFl)
    (v : zR x5 ∧
      zR x3 ∧
      (x5 ≤ x3 → TV d 20 [.inr k, .inl x2, .inl x4] Z (fun Z4 =>
          zR x4 ∧
            zR x3 ∧
            (x4 ≠ x3 → TZ (d + 1) 34 4 [some (.inr k), some (.inl (x1 + 1)), some (.inl (x2 + 1)), some (.inl x3), some (.inl x4), some (.inl x5)] [] Z4 (zri Q)) ∧
            (¬ x4 ≠ x3 → TZ (d + 1) 34 4 [some (.inr k), some (.inl (x1 + 0)), some (.inl (x2 + 1)), some (.inl x3), some (.inl x4), some (.inl x5)] [] Z4 (zri Q)))) ∧
      (¬ x5 ≤ x3 → (zR x4 ∧
          zR x3 ∧
          (x4 ≠ x3 → TV d 20 [.inr k, .inl x2, .inl x4] Z (fun Z11 =>
              zR x4 ∧
                zR x3 ∧
                (x4 ≠ x3 → TZ (d + 1) 34 4 [some (.inr k), some (.inl (x1 + 1)), some (.inl (x2 + 1)), some (.inl x3), some (.inl x4), some (.inl x5)] [] Z11 (zri Q)) ∧
                (¬ x4 ≠ x3 → TZ (d + 1) 34 4 [some (.inr k), some (.inl (x1 + 0)), some (.inl (x2 + 1)), some (.inl x3), some (.inl x4), some (.inl x5)] [] Z11 (zri Q)))) ∧
          (¬ x4 ≠ x3 → TI d 17 [.inr k, .inl x5] Z (fun r16 Z15 =>
              zR r16 ∧
                (r16 = 0 → TZ (d + 1) 34 30 [some (.inr k), some (.inl x1), some (.inl x2), some (.inl x3), some (.inl x3), some (.inl (x5 + (-1)))] [] Z15 (zri Q)) ∧
                (¬ r16 = 0 → TZ (d + 1) 34 30 [some (.inr k), some (.inl x1), some (.inl x2), some (.inl x3), some (.inl x5), some (.inl (x5 + (-1)))] [] Z15 (zri Q))))))) :
    TZ (d + 1) 34 30 [some (.inr k), some (.inl x1), some (.inl x2), some (.inl x3), some (.inl x4), some (.inl x5)] [] Z (zri Q) := by
  refine z0 (op := 4) (a := 5) (b := 0) (by rfl) (by rfl) (?_ : TZ (d + 1) 34 32 [some (.inr k), some (.inl x1), some (.inl x2), some (.inl x3), some (.inl x4), some (.inl x5)] [.inl x5] Z (zri Q))
  refine z0 (op := 3) (a := 3) (b := 0) (by rfl) (by rfl) (?_ : TZ (d + 1) 34 33 [some (.inr k), some (.inl x1), some (.inl x2), some (.inl x3), some (.inl x4), some (.inl x5)] [.inl x3, .inl x5] Z (zri Q))
  obtain ⟨c1, c2, v1, v2⟩ := v
  refine z_if2 (a := 5) (t := 65) (by rfl) (by rfl) c1 c2 (fun h3 => ?_) (fun h3 => ?_)
  · have v := v1 h3; clear v1 v2
    show TZ (d + 1) 34 65 [some (.inr k), some (.inl x1), some (.inl x2), some (.inl x3), some (.inl x4), some (.inl x5)] [] Z (zri Q)
    refine z0 (op := 5) (a := 0) (b := 0) (by rfl) (by rfl) (?_ : TZ (d + 1) 34 66 [some (.inr k), some (.inl x1), some (.inl x2), some (.inl x3), some (.inl x4), some (.inl x5)] [.inr k] Z (zri Q))
    refine z0 (op := 3) (a := 2) (b := 0) (by rfl) (by rfl) (?_ : TZ (d + 1) 34 67 [some (.inr k), some (.inl x1), some (.inl x2), some (.inl x3), some (.inl x4), some (.inl x5)] [.inl x2, .inr k] Z (zri Q))
    refine z0 (op := 4) (a := 4) (b := 0) (by rfl) (by rfl) (?_ : TZ (d + 1) 34 69 [some (.inr k), some (.inl x1), some (.inl x2), some (.inl x3), some (.inl x4), some (.inl x5)] [.inl x4, .inl x2, .inr k] Z (zri Q))
    refine z_vv (by rfl) (by rfl) (cl_F0 _ hk) (TV.mono v fun Z4 v => ?_)
    show TZ (d + 1) 34 72 [some (.inr k), some (.inl x1), some (.inl x2), some (.inl x3), some (.inl x4), some (.inl x5)] [] Z4 (zri Q)
    refine z0 (op := 3) (a := 1) (b := 0) (by rfl) (by rfl) (?_ : TZ (d + 1) 34 73 [some (.inr k), some (.inl x1), some (.inl x2), some (.inl x3), some (.inl x4), some (.inl x5)] [.inl x1] Z4 (zri Q))
    refine z0 (op := 4) (a := 4) (b := 0) (by rfl) (by rfl) (?_ : TZ (d + 1) 34 75 [some (.inr k), some (.inl x1), some (.inl x2), some (.inl x3), some (.inl x4), some (.inl x5)] [.inl x4, .inl x1] Z4 (zri Q))
    refine z0 (op := 3) (a := 3) (b := 0) (by rfl) (by rfl) (?_ : TZ (d + 1) 34 76 [some (.inr k), some (.inl x1), some (.inl x2), some (.inl x3), some (.inl x4), some (.inl x5)] [.inl x3, .inl x4, .inl x1] Z4 (zri Q))
    obtain ⟨c5, c6, v1, v2⟩ := v
    refine z_if2 (a := 1) (t := 83) (by rfl) (by rfl) c5 c6 (fun h7 => ?_) (fun h7 => ?_)
    · have v := v1 h7; clear v1 v2
      show TZ (d + 1) 34 83 [some (.inr k), some (.inl x1), some (.inl x2), some (.inl x3), some (.inl x4), some (.inl x5)] [.inl x1] Z4 (zri Q)
      refine z0 (op := 0) (a := 0) (b := 1) (by rfl) (by rfl) (?_ : TZ (d + 1) 34 84 [some (.inr k), some (.inl x1), some (.inl x2), some (.inl x3), some (.inl x4), some (.inl x5)] [.inl 1, .inl x1] Z4 (zri Q))
      refine z0 (op := 12) (a := 0) (b := 0) (by rfl) (by rfl) (?_ : TZ (d + 1) 34 85 [some (.inr k), some (.inl x1), some (.inl x2), some (.inl x3), some (.inl x4), some (.inl x5)] [.inl (x1 + 1)] Z4 (zri Q))
      refine z0 (op := 7) (a := 1) (b := 0) (by rfl) (by rfl) (?_ : TZ (d + 1) 34 86 [some (.inr k), some (.inl (x1 + 1)), some (.inl x2), some (.inl x3), some (.inl x4), some (.inl x5)] [] Z4 (zri Q))
      refine z0 (op := 11) (a := 2) (b := 1) (by rfl) (by rfl) (?_ : TZ (d + 1) 34 89 [some (.inr k), some (.inl (x1 + 1)), some (.inl (x2 + 1)), some (.inl x3), some (.inl x4), some (.inl x5)] [] Z4 (zri Q))
      refine z_goto (t := 4) (by rfl) (by rfl) (?_ : TZ (d + 1) 34 4 [some (.inr k), some (.inl (x1 + 1)), some (.inl (x2 + 1)), some (.inl x3), some (.inl x4), some (.inl x5)] [] Z4 (zri Q))
      exact v
    · have v := v2 h7; clear v1 v2
      show TZ (d + 1) 34 79 [some (.inr k), some (.inl x1), some (.inl x2), some (.inl x3), some (.inl x4), some (.inl x5)] [.inl x1] Z4 (zri Q)
      refine z0 (op := 0) (a := 0) (b := 0) (by rfl) (by rfl) (?_ : TZ (d + 1) 34 80 [some (.inr k), some (.inl x1), some (.inl x2), some (.inl x3), some (.inl x4), some (.inl x5)] [.inl 0, .inl x1] Z4 (zri Q))
      refine z_goto (t := 84) (by rfl) (by rfl) (?_ : TZ (d + 1) 34 84 [some (.inr k), some (.inl x1), some (.inl x2), some (.inl x3), some (.inl x4), some (.inl x5)] [.inl 0, .inl x1] Z4 (zri Q))
      refine z0 (op := 12) (a := 0) (b := 0) (by rfl) (by rfl) (?_ : TZ (d + 1) 34 85 [some (.inr k), some (.inl x1), some (.inl x2), some (.inl x3), some (.inl x4), some (.inl x5)] [.inl (x1 + 0)] Z4 (zri Q))
      refine z0 (op := 7) (a := 1) (b := 0) (by rfl) (by rfl) (?_ : TZ (d + 1) 34 86 [some (.inr k), some (.inl (x1 + 0)), some (.inl x2), some (.inl x3), some (.inl x4), some (.inl x5)] [] Z4 (zri Q))
      refine z0 (op := 11) (a := 2) (b := 1) (by rfl) (by rfl) (?_ : TZ (d + 1) 34 89 [some (.inr k), some (.inl (x1 + 0)), some (.inl (x2 + 1)), some (.inl x3), some (.inl x4), some (.inl x5)] [] Z4 (zri Q))
      refine z_goto (t := 4) (by rfl) (by rfl) (?_ : TZ (d + 1) 34 4 [some (.inr k), some (.inl (x1 + 0)), some (.inl (x2 + 1)), some (.inl x3), some (.inl x4), some (.inl x5)] [] Z4 (zri Q))
      exact v
  · have v := v2 h3; clear v1 v2
    show TZ (d + 1) 34 36 [some (.inr k), some (.inl x1), some (.inl x2), some (.inl x3), some (.inl x4), some (.inl x5)] [] Z (zri Q)
    refine z0 (op := 4) (a := 4) (b := 0) (by rfl) (by rfl) (?_ : TZ (d + 1) 34 38 [some (.inr k), some (.inl x1), some (.inl x2), some (.inl x3), some (.inl x4), some (.inl x5)] [.inl x4] Z (zri Q))
    refine z0 (op := 3) (a := 3) (b := 0) (by rfl) (by rfl) (?_ : TZ (d + 1) 34 39 [some (.inr k), some (.inl x1), some (.inl x2), some (.inl x3), some (.inl x4), some (.inl x5)] [.inl x3, .inl x4] Z (zri Q))
    obtain ⟨c8, c9, v1, v2⟩ := v
    refine z_if2 (a := 1) (t := 65) (by rfl) (by rfl) c8 c9 (fun h10 => ?_) (fun h10 => ?_)
    · have v := v1 h10; clear v1 v2
      show TZ (d + 1) 34 65 [some (.inr k), some (.inl x1), some (.inl x2), some (.inl x3), some (.inl x4), some (.inl x5)] [] Z (zri Q)
      refine z0 (op := 5) (a := 0) (b := 0) (by rfl) (by rfl) (?_ : TZ (d + 1) 34 66 [some (.inr k), some (.inl x1), some (.inl x2), some (.inl x3), some (.inl x4), some (.inl x5)] [.inr k] Z (zri Q))
      refine z0 (op := 3) (a := 2) (b := 0) (by rfl) (by rfl) (?_ : TZ (d + 1) 34 67 [some (.inr k), some (.inl x1), some (.inl x2), some (.inl x3), some (.inl x4), some (.inl x5)] [.inl x2, .inr k] Z (zri Q))
      refine z0 (op := 4) (a := 4) (b := 0) (by rfl) (by rfl) (?_ : TZ (d + 1) 34 69 [some (.inr k), some (.inl x1), some (.inl x2), some (.inl x3), some (.inl x4), some (.inl x5)] [.inl x4, .inl x2, .inr k] Z (zri Q))
      refine z_vv (by rfl) (by rfl) (cl_F0 _ hk) (TV.mono v fun Z11 v => ?_)
      show TZ (d + 1) 34 72 [some (.inr k), some (.inl x1), some (.inl x2), some (.inl x3), some (.inl x4), some (.inl x5)] [] Z11 (zri Q)
      refine z0 (op := 3) (a := 1) (b := 0) (by rfl) (by rfl) (?_ : TZ (d + 1) 34 73 [some (.inr k), some (.inl x1), some (.inl x2), some (.inl x3), some (.inl x4), some (.inl x5)] [.inl x1] Z11 (zri Q))
      refine z0 (op := 4) (a := 4) (b := 0) (by rfl) (by rfl) (?_ : TZ (d + 1) 34 75 [some (.inr k), some (.inl x1), some (.inl x2), some (.inl x3), some (.inl x4), some (.inl x5)] [.inl x4, .inl x1] Z11 (zri Q))
      refine z0 (op := 3) (a := 3) (b := 0) (by rfl) (by rfl) (?_ : TZ (d + 1) 34 76 [some (.inr k), some (.inl x1), some (.inl x2), some (.inl x3), some (.inl x4), some (.inl x5)] [.inl x3, .inl x4, .inl x1] Z11 (zri Q))
      obtain ⟨c12, c13, v1, v2⟩ := v
      refine z_if2 (a := 1) (t := 83) (by rfl) (by rfl) c12 c13 (fun h14 => ?_) (fun h14 => ?_)
      · have v := v1 h14; clear v1 v2
        show TZ (d + 1) 34 83 [some (.inr k), some (.inl x1), some (.inl x2), some (.inl x3), some (.inl x4), some (.inl x5)] [.inl x1] Z11 (zri Q)
        refine z0 (op := 0) (a := 0) (b := 1) (by rfl) (by rfl) (?_ : TZ (d + 1) 34 84 [some (.inr k), some (.inl x1), some (.inl x2), some (.inl x3), some (.inl x4), some (.inl x5)] [.inl 1, .inl x1] Z11 (zri Q))
        refine z0 (op := 12) (a := 0) (b := 0) (by rfl) (by rfl) (?_ : TZ (d + 1) 34 85 [some (.inr k), some (.inl x1), some (.inl x2), some (.inl x3), some (.inl x4), some (.inl x5)] [.inl (x1 + 1)] Z11 (zri Q))
        refine z0 (op := 7) (a := 1) (b := 0) (by rfl) (by rfl) (?_ : TZ (d + 1) 34 86 [some (.inr k), some (.inl (x1 + 1)), some (.inl x2), some (.inl x3), some (.inl x4), some (.inl x5)] [] Z11 (zri Q))
        refine z0 (op := 11) (a := 2) (b := 1) (by rfl) (by rfl) (?_ : TZ (d + 1) 34 89 [some (.inr k), some (.inl (x1 + 1)), some (.inl (x2 + 1)), some (.inl x3), some (.inl x4), some (.inl x5)] [] Z11 (zri Q))
        refine z_goto (t := 4) (by rfl) (by rfl) (?_ : TZ (d + 1) 34 4 [some (.inr k), some (.inl (x1 + 1)), some (.inl (x2 + 1)), some (.inl x3), some (.inl x4), some (.inl x5)] [] Z11 (zri Q))
        exact v
      · have v := v2 h14; clear v1 v2
        show TZ (d + 1) 34 79 [some (.inr k), some (.inl x1), some (.inl x2), some (.inl x3), some (.inl x4), some (.inl x5)] [.inl x1] Z11 (zri Q)
        refine z0 (op := 0) (a := 0) (b := 0) (by rfl) (by rfl) (?_ : TZ (d + 1) 34 80 [some (.inr k), some (.inl x1), some (.inl x2), some (.inl x3), some (.inl x4), some (.inl x5)] [.inl 0, .inl x1] Z11 (zri Q))
        refine z_goto (t := 84) (by rfl) (by rfl) (?_ : TZ (d + 1) 34 84 [some (.inr k), some (.inl x1), some (.inl x2), some (.inl x3), some (.inl x4), some (.inl x5)] [.inl 0, .inl x1] Z11 (zri Q))
        refine z0 (op := 12) (a := 0) (b := 0) (by rfl) (by rfl) (?_ : TZ (d + 1) 34 85 [some (.inr k), some (.inl x1), some (.inl x2), some (.inl x3), some (.inl x4), some (.inl x5)] [.inl (x1 + 0)] Z11 (zri Q))
        refine z0 (op := 7) (a := 1) (b := 0) (by rfl) (by rfl) (?_ : TZ (d + 1) 34 86 [some (.inr k), some (.inl (x1 + 0)), some (.inl x2), some (.inl x3), some (.inl x4), some (.inl x5)] [] Z11 (zri Q))
        refine z0 (op := 11) (a := 2) (b := 1) (by rfl) (by rfl) (?_ : TZ (d + 1) 34 89 [some (.inr k), some (.inl (x1 + 0)), some (.inl (x2 + 1)), some (.inl x3), some (.inl x4), some (.inl x5)] [] Z11 (zri Q))
        refine z_goto (t := 4) (by rfl) (by rfl) (?_ : TZ (d + 1) 34 4 [some (.inr k), some (.inl (x1 + 0)), some (.inl (x2 + 1)), some (.inl x3), some (.inl x4), some (.inl x5)] [] Z11 (zri Q))
        exact v
    · have v := v2 h10; clear v1 v2
      show TZ (d + 1) 34 42 [some (.inr k), some (.inl x1), some (.inl x2), some (.inl x3), some (.inl x4), some (.inl x5)] [] Z (zri Q)
      refine z0 (op := 5) (a := 0) (b := 0) (by rfl) (by rfl) (?_ : TZ (d + 1) 34 43 [some (.inr k), some (.inl x1), some (.inl x2), some (.inl x3), some (.inl x4), some (.inl x5)] [.inr k] Z (zri Q))
      refine z0 (op := 4) (a := 5) (b := 0) (by rfl) (by rfl) (?_ : TZ (d + 1) 34 45 [some (.inr k), some (.inl x1), some (.inl x2), some (.inl x3), some (.inl x4), some (.inl x5)] [.inl x5, .inr k] Z (zri Q))
      refine z_vi (by rfl) (by rfl) (cl_F0 _ hk) (TI.mono v fun r16 Z15 v => ?_)
      show TZ (d + 1) 34 48 [some (.inr k), some (.inl x1), some (.inl x2), some (.inl x3), some (.inl x4), some (.inl x5)] [.inl r16] Z15 (zri Q)
      obtain ⟨c17, v1, v2⟩ := v
      refine z_if0 (a := 0) (t := 56) (by rfl) (by rfl) c17 (fun h18 => ?_) (fun h18 => ?_)
      · have v := v1 h18; clear v1 v2
        show TZ (d + 1) 34 56 [some (.inr k), some (.inl x1), some (.inl x2), some (.inl x3), some (.inl x4), some (.inl x5)] [] Z15 (zri Q)
        refine z0 (op := 3) (a := 3) (b := 0) (by rfl) (by rfl) (?_ : TZ (d + 1) 34 57 [some (.inr k), some (.inl x1), some (.inl x2), some (.inl x3), some (.inl x4), some (.inl x5)] [.inl x3] Z15 (zri Q))
        refine z0 (op := 8) (a := 4) (b := 0) (by rfl) (by rfl) (?_ : TZ (d + 1) 34 59 [some (.inr k), some (.inl x1), some (.inl x2), some (.inl x3), some (.inl x3), some (.inl x5)] [] Z15 (zri Q))
        refine z0 (op := 11) (a := 5) (b := (-1)) (by rfl) (by rfl) (?_ : TZ (d + 1) 34 62 [some (.inr k), some (.inl x1), some (.inl x2), some (.inl x3), some (.inl x3), some (.inl (x5 + (-1)))] [] Z15 (zri Q))
        refine z_goto (t := 30) (by rfl) (by rfl) (?_ : TZ (d + 1) 34 30 [some (.inr k), some (.inl x1), some (.inl x2), some (.inl x3), some (.inl x3), some (.inl (x5 + (-1)))] [] Z15 (zri Q))
        exact v
      · have v := v2 h18; clear v1 v2
        show TZ (d + 1) 34 51 [some (.inr k), some (.inl x1), some (.inl x2), some (.inl x3), some (.inl x4), some (.inl x5)] [] Z15 (zri Q)
        refine z0 (op := 4) (a := 5) (b := 0) (by rfl) (by rfl) (?_ : TZ (d + 1) 34 53 [some (.inr k), some (.inl x1), some (.inl x2), some (.inl x3), some (.inl x4), some (.inl x5)] [.inl x5] Z15 (zri Q))
        refine z_goto (t := 57) (by rfl) (by rfl) (?_ : TZ (d + 1) 34 57 [some (.inr k), some (.inl x1), some (.inl x2), some (.inl x3), some (.inl x4), some (.inl x5)] [.inl x5] Z15 (zri Q))
        refine z0 (op := 8) (a := 4) (b := 0) (by rfl) (by rfl) (?_ : TZ (d + 1) 34 59 [some (.inr k), some (.inl x1), some (.inl x2), some (.inl x3), some (.inl x5), some (.inl x5)] [] Z15 (zri Q))
        refine z0 (op := 11) (a := 5) (b := (-1)) (by rfl) (by rfl) (?_ : TZ (d + 1) 34 62 [some (.inr k), some (.inl x1), some (.inl x2), some (.inl x3), some (.inl x5), some (.inl (x5 + (-1)))] [] Z15 (zri Q))
        refine z_goto (t := 30) (by rfl) (by rfl) (?_ : TZ (d + 1) 34 30 [some (.inr k), some (.inl x1), some (.inl x2), some (.inl x3), some (.inl x5), some (.inl (x5 + (-1)))] [] Z15 (zri Q))
        exact v
theorem w35_0 {d : Nat} {k : Nat} {Z : zM} {Q : Int → zM → Prop} (hk : k ∈ zFl)
    (v : TZ d 35 4 [some (.inr k), some (.inl 0), some (.inl 0), none, none, none] [] Z (zri Q)) :
    TZ d 35 0 [some (.inr k), none, none, none, none, none] [] Z (zri Q) := by
  refine z0 (op := 0) (a := 0) (b := 0) (by rfl) (by rfl) (?_ : TZ d 35 1 [some (.inr k), none, none, none, none, none] [.inl 0] Z (zri Q))
  refine z0 (op := 7) (a := 1) (b := 0) (by rfl) (by rfl) (?_ : TZ d 35 2 [some (.inr k), some (.inl 0), none, none, none, none] [] Z (zri Q))
  refine z0 (op := 0) (a := 0) (b := 0) (by rfl) (by rfl) (?_ : TZ d 35 3 [some (.inr k), some (.inl 0), none, none, none, none] [.inl 0] Z (zri Q))
  refine z0 (op := 7) (a := 2) (b := 0) (by rfl) (by rfl) (?_ : TZ d 35 4 [some (.inr k), some (.inl 0), some (.inl 0), none, none, none] [] Z (zri Q))
  exact v
theorem w35_4 {d : Nat} {k : Nat} {x1 x2 : Int} {o3 o4 o5 : Option zV} {Z : zM} {Q : Int → zM → Prop} (hk : k ∈ zFl)
    (v : zR x2 ∧
      zR (Z k 5) ∧
      ((Z k 5) ≤ x2 → Q x1 Z) ∧
      (¬ (Z k 5) ≤ x2 → ((0 ≤ x2 ∧ x2 < 8) ∧ TZ d 35 25 [some (.inr k), some (.inl x1), some (.inl x2), some (.inl (Z (k + 3) x2)), some (.inl (Z (k + 3) x2)), some (.inl 0)] [] Z (zri Q)))) :
    TZ d 35 4 [some (.inr k), some (.inl x1), some (.inl x2), o3, o4, o5] [] Z (zri Q) := by
  refine z0 (op := 3) (a := 2) (b := 0) (by rfl) (by rfl) (?_ : TZ d 35 5 [some (.inr k), some (.inl x1), some (.inl x2), o3, o4, o5] [.inl x2] Z (zri Q))
  refine z0 (op := 5) (a := 0) (b := 0) (by rfl) (by rfl) (?_ : TZ d 35 6 [some (.inr k), some (.inl x1), some (.inl x2), o3, o4, o5] [.inr k, .inl x2] Z (zri Q))
  refine z_fi (by rfl) (fi10_F0 _ hk) (?_ : TZ d 35 9 [some (.inr k), some (.inl x1), some (.inl x2), o3, o4, o5] [.inl (Z k 5), .inl x2] Z (zri Q))
  obtain ⟨c1, c2, v1, v2⟩ := v
  refine z_if2 (a := 3) (t := 87) (by rfl) (by rfl) c1 c2 (fun h3 => ?_) (fun h3 => ?_)
  · have v := v1 h3; clear v1 v2
    show TZ d 35 87 [some (.inr k), some (.inl x1), some (.inl x2), o3, o4, o5] [] Z (zri Q)
    refine z0 (op := 3) (a := 1) (b := 0) (by rfl) (by rfl) (?_ : TZ d 35 88 [some (.inr k), some (.inl x1), some (.inl x2), o3, o4, o5] [.inl x1] Z (zri Q))
    exact z_reti (by rfl) (by rfl) v
  · have v := v2 h3; clear v1 v2
    show TZ d 35 12 [some (.inr k), some (.inl x1), some (.inl x2), o3, o4, o5] [] Z (zri Q)
    refine z0 (op := 5) (a := 0) (b := 0) (by rfl) (by rfl) (?_ : TZ d 35 13 [some (.inr k), some (.inl x1), some (.inl x2), o3, o4, o5] [.inr k] Z (zri Q))
    refine z_fr (by rfl) (fr6_F0 _ hk) (?_ : TZ d 35 16 [some (.inr k), some (.inl x1), some (.inl x2), o3, o4, o5] [.inr (k + 3)] Z (zri Q))
    refine z0 (op := 3) (a := 2) (b := 0) (by rfl) (by rfl) (?_ : TZ d 35 17 [some (.inr k), some (.inl x1), some (.inl x2), o3, o4, o5] [.inl x2, .inr (k + 3)] Z (zri Q))
    obtain ⟨c4, v⟩ := v
    refine z_al (by rfl) (ln_F3 _ hk) c4 (?_ : TZ d 35 18 [some (.inr k), some (.inl x1), some (.inl x2), o3, o4, o5] [.inl (Z (k + 3) x2)] Z (zri Q))
    refine z0 (op := 7) (a := 3) (b := 0) (by rfl) (by rfl) (?_ : TZ d 35 19 [some (.inr k), some (.inl x1), some (.inl x2), some (.inl (Z (k + 3) x2)), o4, o5] [] Z (zri Q))
    refine z0 (op := 3) (a := 3) (b := 0) (by rfl) (by rfl) (?_ : TZ d 35 20 [some (.inr k), some (.inl x1), some (.inl x2), some (.inl (Z (k + 3) x2)), o4, o5] [.inl (Z (k + 3) x2)] Z (zri Q))
    refine z0 (op := 8) (a := 4) (b := 0) (by rfl) (by rfl) (?_ : TZ d 35 22 [some (.inr k), some (.inl x1), some (.inl x2), some (.inl (Z (k + 3) x2)), some (.inl (Z (k + 3) x2)), o5] [] Z (zri Q))
    refine z0 (op := 0) (a := 0) (b := 0) (by rfl) (by rfl) (?_ : TZ d 35 23 [some (.inr k), some (.inl x1), some (.inl x2), some (.inl (Z (k + 3) x2)), some (.inl (Z (k + 3) x2)), o5] [.inl 0] Z (zri Q))
    refine z0 (op := 8) (a := 5) (b := 0) (by rfl) (by rfl) (?_ : TZ d 35 25 [some (.inr k), some (.inl x1), some (.inl x2), some (.inl (Z (k + 3) x2)), some (.inl (Z (k + 3) x2)), some (.inl 0)] [] Z (zri Q))
    exact v
theorem w35_25 {d : Nat} {k : Nat} {x1 x2 x3 x4 x5 : Int} {Z : zM} {Q : Int → zM → Prop} (hk : k ∈ zFl)
    (v : zR x5 ∧
      zR x3 ∧
      (x3 ≤ x5 → TV d 20 [.inr k, .inl x2, .inl x4] Z (fun Z4 =>
          zR x4 ∧
            zR x3 ∧
            (x4 ≠ x3 → TZ (d + 1) 35 4 [some (.inr k), some (.inl (x1 + 1)), some (.inl (x2 + 1)), some (.inl x3), some (.inl x4), some (.inl x5)] [] Z4 (zri Q)) ∧
            (¬ x4 ≠ x3 → TZ (d + 1) 35 4 [some (.inr k), some (.inl (x1 + 0)), some (.inl (x2 + 1)), some (.inl x3), some (.inl x4), some (.inl x5)] [] Z4 (zri Q)))) ∧
      (¬ x3 ≤ x5 → (zR x4 ∧
          zR x3 ∧
          (x4 ≠ x3 → TV d 20 [.inr k, .inl x2, .inl x4] Z (fun Z11 =>
              zR x4 ∧
                zR x3 ∧
                (x4 ≠ x3 → TZ (d + 1) 35 4 [some (.inr k), some (.inl (x1 + 1)), some (.inl (x2 + 1)), some (.inl x3), some (.inl x4), some (.inl x5)] [] Z11 (zri Q)) ∧
                (¬ x4 ≠ x3 → TZ (d + 1) 35 4 [some (.inr k), some (.inl (x1 + 0)), some (.inl (x2 + 1)), some (.inl x3), some (.inl x4), some (.inl x5)] [] Z11 (zri Q)))) ∧
          (¬ x4 ≠ x3 → TI d 17 [.inr k, .inl x5] Z (fun r16 Z15 =>
              zR r16 ∧
                (r16 = 0 → TZ (d + 1) 35 25 [some (.inr k), some (.inl x1), some (.inl x2), some (.inl x3), some (.inl x3), some (.inl (x5 + 1))] [] Z15 (zri Q)) ∧
                (¬ r16 = 0 → TZ (d + 1) 35 25 [some (.inr k), some (.inl x1), some (.inl x2), some (.inl x3), some (.inl x5), some (.inl (x5 + 1))] [] Z15 (zri Q))))))) :
    TZ (d + 1) 35 25 [some (.inr k), some (.inl x1), some (.inl x2), some (.inl x3), some (.inl x4), some (.inl x5)] [] Z (zri Q) := by
  refine z0 (op := 4) (a := 5) (b := 0) (by rfl) (by rfl) (?_ : TZ (d + 1) 35 27 [some (.inr k), some (.inl x1), some (.inl x2), some (.inl x3), some (.inl x4), some (.inl x5)] [.inl x5] Z (zri Q))
  refine z0 (op := 3) (a := 3) (b := 0) (by rfl) (by rfl) (?_ : TZ (d + 1) 35 28 [some (.inr k), some (.inl x1), some (.inl x2), some (.inl x3), some (.inl x4), some (.inl x5)] [.inl x3, .inl x5] Z (zri Q))
  obtain ⟨c1, c2, v1, v2⟩ := v
  refine z_if2 (a := 3) (t := 60) (by rfl) (by rfl) c1 c2 (fun h3 => ?_) (fun h3 => ?_)
  · have v := v1 h3; clear v1 v2
    show TZ (d + 1) 35 60 [some (.inr k), some (.inl x1), some (.inl x2), some (.inl x3), some (.inl x4), some (.inl x5)] [] Z (zri Q)
    refine z0 (op := 5) (a := 0) (b := 0) (by rfl) (by rfl) (?_ : TZ (d + 1) 35 61 [some (.inr k), some (.inl x1), some (.inl x2), some (.inl x3), some (.inl x4), some (.inl x5)] [.inr k] Z (zri Q))
    refine z0 (op := 3) (a := 2) (b := 0) (by rfl) (by rfl) (?_ : TZ (d + 1) 35 62 [some (.inr k), some (.inl x1), some (.inl x2), some (.inl x3), some (.inl x4), some (.inl x5)] [.inl x2, .inr k] Z (zri Q))
    refine z0 (op := 4) (a := 4) (b := 0) (by rfl) (by rfl) (?_ : TZ (d + 1) 35 64 [some (.inr k), some (.inl x1), some (.inl x2), some (.inl x3), some (.inl x4), some (.inl x5)] [.inl x4, .inl x2, .inr k] Z (zri Q))
    refine z_vv (by rfl) (by rfl) (cl_F0 _ hk) (TV.mono v fun Z4 v => ?_)
    show TZ (d + 1) 35 67 [some (.inr k), some (.inl x1), some (.inl x2), some (.inl x3), some (.inl x4), some (.inl x5)] [] Z4 (zri Q)
    refine z0 (op := 3) (a := 1) (b := 0) (by rfl) (by rfl) (?_ : TZ (d + 1) 35 68 [some (.inr k), some (.inl x1), some (.inl x2), some (.inl x3), some (.inl x4), some (.inl x5)] [.inl x1] Z4 (zri Q))
    refine z0 (op := 4) (a := 4) (b := 0) (by rfl) (by rfl) (?_ : TZ (d + 1) 35 70 [some (.inr k), some (.inl x1), some (.inl x2), some (.inl x3), some (.inl x4), some (.inl x5)] [.inl x4, .inl x1] Z4 (zri Q))
    refine z0 (op := 3) (a := 3) (b := 0) (by rfl) (by rfl) (?_ : TZ (d + 1) 35 71 [some (.inr k), some (.inl x1), some (.inl x2), some (.inl x3), some (.inl x4), some (.inl x5)] [.inl x3, .inl x4, .inl x1] Z4 (zri Q))
    obtain ⟨c5, c6, v1, v2⟩ := v
    refine z_if2 (a := 1) (t := 78) (by rfl) (by rfl) c5 c6 (fun h7 => ?_) (fun h7 => ?_)
    · have v := v1 h7; clear v1 v2
      show TZ (d + 1) 35 78 [some (.inr k), some (.inl x1), some (.inl x2), some (.inl x3), some (.inl x4), some (.inl x5)] [.inl x1] Z4 (zri Q)
      refine z0 (op := 0) (a := 0) (b := 1) (by rfl) (by rfl) (?_ : TZ (d + 1) 35 79 [some (.inr k), some (.inl x1), some (.inl x2), some (.inl x3), some (.inl x4), some (.inl x5)] [.inl 1, .inl x1] Z4 (zri Q))
      refine z0 (op := 12) (a := 0) (b := 0) (by rfl) (by rfl) (?_ : TZ (d + 1) 35 80 [some (.inr k), some (.inl x1), some (.inl x2), some (.inl x3), some (.inl x4), some (.inl x5)] [.inl (x1 + 1)] Z4 (zri Q))
      refine z0 (op := 7) (a := 1) (b := 0) (by rfl) (by rfl) (?_ : TZ (d + 1) 35 81 [some (.inr k), some (.inl (x1 + 1)), some (.inl x2), some (.inl x3), some (.inl x4), some (.inl x5)] [] Z4 (zri Q))
      refine z0 (op := 11) (a := 2) (b := 1) (by rfl) (by rfl) (?_ : TZ (d + 1) 35 84 [some (.inr k), some (.inl (x1 + 1)), some (.inl (x2 + 1)), some (.inl x3), some (.inl x4), some (.inl x5)] [] Z4 (zri Q))
      refine z_goto (t := 4) (by rfl) (by rfl) (?_ : TZ (d + 1) 35 4 [some (.inr k), some (.inl (x1 + 1)), some (.inl (x2 + 1)), some (.inl x3), some (.inl x4), some (.inl x5)] [] Z4 (zri Q))
      exact v
    · have v := v2 h7; clear v1 v2
      show TZ (d + 1) 35 74 [some (.inr k), some (.inl x1), some (.inl x2), some (.inl x3), some (.inl x4), some (.inl x5)] [.inl x1] Z4 (zri Q)
      refine z0 (op := 0) (a := 0) (b := 0) (by rfl) (by rfl) (?_ : TZ (d + 1) 35 75 [some (.inr k), some (.inl x1), some (.inl x2), some (.inl x3), some (.inl x4), some (.inl x5)] [.inl 0, .inl x1] Z4 (zri Q))
      refine z_goto (t := 79) (by rfl) (by rfl) (?_ : TZ (d + 1) 35 79 [some (.inr k), some (.inl x1), some (.inl x2), some (.inl x3), some (.inl x4), some (.inl x5)] [.inl 0, .inl x1] Z4 (zri Q))
      refine z0 (op := 12) (a := 0) (b := 0) (by rfl) (by rfl) (?_ : TZ (d + 1) 35 80 [some (.inr k), some (.inl x1), some (.inl x2), some (.inl x3), some (.inl x4), some (.inl x5)] [.inl (x1 + 0)] Z4 (zri Q))
      refine z0 (op := 7) (a := 1) (b := 0) (by rfl) (by rfl) (?_ : TZ (d + 1) 35 81 [some (.inr k), some (.inl (x1 + 0)), some (.inl x2), some (.inl x3), some (.inl x4), some (.inl x5)] [] Z4 (zri Q))
      refine z0 (op := 11) (a := 2) (b := 1) (by rfl) (by rfl) (?_ : TZ (d + 1) 35 84 [some (.inr k), some (.inl (x1 + 0)), some (.inl (x2 + 1)), some (.inl x3), some (.inl x4), some (.inl x5)] [] Z4 (zri Q))
      refine z_goto (t := 4) (by rfl) (by rfl) (?_ : TZ (d + 1) 35 4 [some (.inr k), some (.inl (x1 + 0)), some (.inl (x2 + 1)), some (.inl x3), some (.inl x4), some (.inl x5)] [] Z4 (zri Q))
      exact v
  · have v := v2 h3; clear v1 v2
    show TZ (d + 1) 35 31 [some (.inr k), some (.inl x1), some (.inl x2), some (.inl x3), some (.inl x4), some (.inl x5)] [] Z (zri Q)
    refine z0 (op := 4) (a := 4) (b := 0) (by rfl) (by rfl) (?_ : TZ (d + 1) 35 33 [some (.inr k), some (.inl x1), some (.inl x2), some (.inl x3), some (.inl x4), some (.inl x5)] [.inl x4] Z (zri Q))
    refine z0 (op := 3) (a := 3) (b := 0) (by rfl) (by rfl) (?_ : TZ (d + 1) 35 34 [some (.inr k), some (.inl x1), some (.inl x2), some (.inl x3), some (.inl x4), some (.inl x5)] [.inl x3, .inl x4] Z (zri Q))
    obtain ⟨c8, c9, v1, v2⟩ := v
    refine z_if2 (a := 1) (t := 60) (by rfl) (by rfl) c8 c9 (fun h10 => ?_) (fun h10 => ?_)
    · have v := v1 h10; clear v1 v2
      show TZ (d + 1) 35 60 [some (.inr k), some (.inl x1), some (.inl x2), some (.inl x3), some (.inl x4), some (.inl x5)] [] Z (zri Q)
      refine z0 (op := 5) (a := 0) (b := 0) (by rfl) (by rfl) (?_ : TZ (d + 1) 35 61 [some (.inr k), some (.inl x1), some (.inl x2), some (.inl x3), some (.inl x4), some (.inl x5)] [.inr k] Z (zri Q))
      refine z0 (op := 3) (a := 2) (b := 0) (by rfl) (by rfl) (?_ : TZ (d + 1) 35 62 [some (.inr k), some (.inl x1), some (.inl x2), some (.inl x3), some (.inl x4), some (.inl x5)] [.inl x2, .inr k] Z (zri Q))
      refine z0 (op := 4) (a := 4) (b := 0) (by rfl) (by rfl) (?_ : TZ (d + 1) 35 64 [some (.inr k), some (.inl x1), some (.inl x2), some (.inl x3), some (.inl x4), some (.inl x5)] [.inl x4, .inl x2, .inr k] Z (zri Q))
      refine z_vv (by rfl) (by rfl) (cl_F0 _ hk) (TV.mono v fun Z11 v => ?_)
      show TZ (d + 1) 35 67 [some (.inr k), some (.inl x1), some (.inl x2), some (.inl x3), some (.inl x4), some (.inl x5)] [] Z11 (zri Q)
      refine z0 (op := 3) (a := 1) (b := 0) (by rfl) (by rfl) (?_ : TZ (d + 1) 35 68 [some (.inr k), some (.inl x1), some (.inl x2), some (.inl x3), some (.inl x4), some (.inl x5)] [.inl x1] Z11 (zri Q))
      refine z0 (op := 4) (a := 4) (b := 0) (by rfl) (by rfl) (?_ : TZ (d + 1) 35 70 [some (.inr k), some (.inl x1), some (.inl x2), some (.inl x3), some (.inl x4), some (.inl x5)] [.inl x4, .inl x1] Z11 (zri Q))
      refine z0 (op := 3) (a := 3) (b := 0) (by rfl) (by rfl) (?_ : TZ (d + 1) 35 71 [some (.inr k), some (.inl x1), some (.inl x2), some (.inl x3), some (.inl x4), some (.inl x5)] [.inl x3, .inl x4, .inl x1] Z11 (zri Q))
      obtain ⟨c12, c13, v1, v2⟩ := v
      refine z_if2 (a := 1) (t := 78) (by rfl) (by rfl) c12 c13 (fun h14 => ?_) (fun h14 => ?_)
      · have v := v1 h14; clear v1 v2
        show TZ (d + 1) 35 78 [some (.inr k), some (.inl x1), some (.inl x2), some (.inl x3), some (.inl x4), some (.inl x5)] [.inl x1] Z11 (zri Q)
        refine z0 (op := 0) (a := 0) (b := 1) (by rfl) (by rfl) (?_ : TZ (d + 1) 35 79 [some (.inr k), some (.inl x1), some (.inl x2), some (.inl x3), some (.inl x4), some (.inl x5)] [.inl 1, .inl x1] Z11 (zri Q))
        refine z0 (op := 12) (a := 0) (b := 0) (by rfl) (by rfl) (?_ : TZ (d + 1) 35 80 [some (.inr k), some (.inl x1), some (.inl x2), some (.inl x3), some (.inl x4), some (.inl x5)] [.inl (x1 + 1)] Z11 (zri Q))
        refine z0 (op := 7) (a := 1) (b := 0) (by rfl) (by rfl) (?_ : TZ (d + 1) 35 81 [some (.inr k), some (.inl (x1 + 1)), some (.inl x2), some (.inl x3), some (.inl x4), some (.inl x5)] [] Z11 (zri Q))
        refine z0 (op := 11) (a := 2) (b := 1) (by rfl) (by rfl) (?_ : TZ (d + 1) 35 84 [some (.inr k), some (.inl (x1 + 1)), some (.inl (x2 + 1)), some (.inl x3), some (.inl x4), some (.inl x5)] [] Z11 (zri Q))
        refine z_goto (t := 4) (by rfl) (by rfl) (?_ : TZ (d + 1) 35 4 [some (.inr k), some (.inl (x1 + 1)), some (.inl (x2 + 1)), some (.inl x3), some (.inl x4), some (.inl x5)] [] Z11 (zri Q))
        exact v
      · have v := v2 h14; clear v1 v2
        show TZ (d + 1) 35 74 [some (.inr k), some (.inl x1), some (.inl x2), some (.inl x3), some (.inl x4), some (.inl x5)] [.inl x1] Z11 (zri Q)
        refine z0 (op := 0) (a := 0) (b := 0) (by rfl) (by rfl) (?_ : TZ (d + 1) 35 75 [some (.inr k), some (.inl x1), some (.inl x2), some (.inl x3), some (.inl x4), some (.inl x5)] [.inl 0, .inl x1] Z11 (zri Q))
        refine z_goto (t := 79) (by rfl) (by rfl) (?_ : TZ (d + 1) 35 79 [some (.inr k), some (.inl x1), some (.inl x2), some (.inl x3), some (.inl x4), some (.inl x5)] [.inl 0, .inl x1] Z11 (zri Q))
        refine z0 (op := 12) (a := 0) (b := 0) (by rfl) (by rfl) (?_ : TZ (d + 1) 35 80 [some (.inr k), some (.inl x1), some (.inl x2), some (.inl x3), some (.inl x4), some (.inl x5)] [.inl (x1 + 0)] Z11 (zri Q))
        refine z0 (op := 7) (a := 1) (b := 0) (by rfl) (by rfl) (?_ : TZ (d + 1) 35 81 [some (.inr k), some (.inl (x1 + 0)), some (.inl x2), some (.inl x3), some (.inl x4), some (.inl x5)] [] Z11 (zri Q))
        refine z0 (op := 11) (a := 2) (b := 1) (by rfl) (by rfl) (?_ : TZ (d + 1) 35 84 [some (.inr k), some (.inl (x1 + 0)), some (.inl (x2 + 1)), some (.inl x3), some (.inl x4), some (.inl x5)] [] Z11 (zri Q))
        refine z_goto (t := 4) (by rfl) (by rfl) (?_ : TZ (d + 1) 35 4 [some (.inr k), some (.inl (x1 + 0)), some (.inl (x2 + 1)), some (.inl x3), some (.inl x4), some (.inl x5)] [] Z11 (zri Q))
        exact v
    · have v := v2 h10; clear v1 v2
      show TZ (d + 1) 35 37 [some (.inr k), some (.inl x1), some (.inl x2), some (.inl x3), some (.inl x4), some (.inl x5)] [] Z (zri Q)
      refine z0 (op := 5) (a := 0) (b := 0) (by rfl) (by rfl) (?_ : TZ (d + 1) 35 38 [some (.inr k), some (.inl x1), some (.inl x2), some (.inl x3), some (.inl x4), some (.inl x5)] [.inr k] Z (zri Q))
      refine z0 (op := 4) (a := 5) (b := 0) (by rfl) (by rfl) (?_ : TZ (d + 1) 35 40 [some (.inr k), some (.inl x1), some (.inl x2), some (.inl x3), some (.inl x4), some (.inl x5)] [.inl x5, .inr k] Z (zri Q))
      refine z_vi (by rfl) (by rfl) (cl_F0 _ hk) (TI.mono v fun r16 Z15 v => ?_)
      show TZ (d + 1) 35 43 [some (.inr k), some (.inl x1), some (.inl x2), some (.inl x3), some (.inl x4), some (.inl x5)] [.inl r16] Z15 (zri Q)
      obtain ⟨c17, v1, v2⟩ := v
      refine z_if0 (a := 0) (t := 51) (by rfl) (by rfl) c17 (fun h18 => ?_) (fun h18 => ?_)
      · have v := v1 h18; clear v1 v2
        show TZ (d + 1) 35 51 [some (.inr k), some (.inl x1), some (.inl x2), some (.inl x3), some (.inl x4), some (.inl x5)] [] Z15 (zri Q)
        refine z0 (op := 3) (a := 3) (b := 0) (by rfl) (by rfl) (?_ : TZ (d + 1) 35 52 [some (.inr k), some (.inl x1), some (.inl x2), some (.inl x3), some (.inl x4), some (.inl x5)] [.inl x3] Z15 (zri Q))
        refine z0 (op := 8) (a := 4) (b := 0) (by rfl) (by rfl) (?_ : TZ (d + 1) 35 54 [some (.inr k), some (.inl x1), some (.inl x2), some (.inl x3), some (.inl x3), some (.inl x5)] [] Z15 (zri Q))
        refine z0 (op := 11) (a := 5) (b := 1) (by rfl) (by rfl) (?_ : TZ (d + 1) 35 57 [some (.inr k), some (.inl x1), some (.inl x2), some (.inl x3), some (.inl x3), some (.inl (x5 + 1))] [] Z15 (zri Q))
        refine z_goto (t := 25) (by rfl) (by rfl) (?_ : TZ (d + 1) 35 25 [some (.inr k), some (.inl x1), some (.inl x2), some (.inl x3), some (.inl x3), some (.inl (x5 + 1))] [] Z15 (zri Q))
        exact v
      · have v := v2 h18; clear v1 v2
        show TZ (d + 1) 35 46 [some (.inr k), some (.inl x1), some (.inl x2), some (.inl x3), some (.inl x4), some (.inl x5)] [] Z15 (zri Q)
        refine z0 (op := 4) (a := 5) (b := 0) (by rfl) (by rfl) (?_ : TZ (d + 1) 35 48 [some (.inr k), some (.inl x1), some (.inl x2), some (.inl x3), some (.inl x4), some (.inl x5)] [.inl x5] Z15 (zri Q))
        refine z_goto (t := 52) (by rfl) (by rfl) (?_ : TZ (d + 1) 35 52 [some (.inr k), some (.inl x1), some (.inl x2), some (.inl x3), some (.inl x4), some (.inl x5)] [.inl x5] Z15 (zri Q))
        refine z0 (op := 8) (a := 4) (b := 0) (by rfl) (by rfl) (?_ : TZ (d + 1) 35 54 [some (.inr k), some (.inl x1), some (.inl x2), some (.inl x3), some (.inl x5), some (.inl x5)] [] Z15 (zri Q))
        refine z0 (op := 11) (a := 5) (b := 1) (by rfl) (by rfl) (?_ : TZ (d + 1) 35 57 [some (.inr k), some (.inl x1), some (.inl x2), some (.inl x3), some (.inl x5), some (.inl (x5 + 1))] [] Z15 (zri Q))
        refine z_goto (t := 25) (by rfl) (by rfl) (?_ : TZ (d + 1) 35 25 [some (.inr k), some (.inl x1), some (.inl x2), some (.inl x3), some (.inl x5), some (.inl (x5 + 1))] [] Z15 (zri Q))
        exact v
theorem w12_0 {d : Nat} {k k2 : Nat} {Z : zM} {Q : zM → Prop} (hk : k ∈ zFl) (hk2 : k2 ∈ zFl)
    (v : ∀ Z1, Z1 = zcpy Z (k2 + 1) (k + 1) 8 →
      ∀ Z2, Z2 = zcpy Z1 (k2 + 2) (k + 2) 8 →
      ∀ Z3, Z3 = zcpy Z2 (k2 + 5) (k + 5) 6 →
      ∀ Z4, Z4 = zup Z3 k 5 (Z3 k2 5) →
      ∀ Z5, Z5 = zup Z4 k 6 (Z4 k2 6) →
      TV d 13 [.inr k, .inr k2] Z5 (fun Z6 =>
      Q Z6)) :
    TZ (d + 1) 12 0 [some (.inr k), some (.inr k2)] [] Z (zrv Q) := by
  refine z0 (op := 5) (a := 1) (b := 0) (by rfl) (by rfl) (?_ : TZ (d + 1) 12 1 [some (.inr k), some (.inr k2)] [.inr k2] Z (zrv Q))
  refine z_fr (by rfl) (fr4_F0 _ hk2) (?_ : TZ (d + 1) 12 4 [some (.inr k), some (.inr k2)] [.inr (k2 + 1)] Z (zrv Q))
  refine z0 (op := 0) (a := 0) (b := 0) (by rfl) (by rfl) (?_ : TZ (d + 1) 12 5 [some (.inr k), some (.inr k2)] [.inl 0, .inr (k2 + 1)] Z (zrv Q))
  refine z0 (op := 5) (a := 0) (b := 0) (by rfl) (by rfl) (?_ : TZ (d + 1) 12 6 [some (.inr k), some (.inr k2)] [.inr k, .inl 0, .inr (k2 + 1)] Z (zrv Q))
  refine z_fr (by rfl) (fr4_F0 _ hk) (?_ : TZ (d + 1) 12 9 [some (.inr k), some (.inr k2)] [.inr (k + 1), .inl 0, .inr (k2 + 1)] Z (zrv Q))
  refine z0 (op := 0) (a := 0) (b := 0) (by rfl) (by rfl) (?_ : TZ (d + 1) 12 10 [some (.inr k), some (.inr k2)] [.inl 0, .inr (k + 1), .inl 0, .inr (k2 + 1)] Z (zrv Q))
  refine z0 (op := 1) (a := 0) (b := 8) (by rfl) (by rfl) (?_ : TZ (d + 1) 12 12 [some (.inr k), some (.inr k2)] [.inl 8, .inl 0, .inr (k + 1), .inl 0, .inr (k2 + 1)] Z (zrv Q))
  obtain ⟨Z1, eZ1⟩ : ∃ q, q = zcpy Z (k2 + 1) (k + 1) 8 := ⟨_, rfl⟩
  have v := v Z1 eZ1
  refine z_cpy (by rfl) (by rfl) (Nat.le_of_ble_eq_true rfl) (ln_F1 _ hk2) (ln_F1 _ hk) (by decide) ?_
  show TZ (d + 1) 12 15 [some (.inr k), some (.inr k2)] [] (zcpy Z (k2 + 1) (k + 1) 8) _
  rw [← eZ1]
  refine z0 (op := 5) (a := 1) (b := 0) (by rfl) (by rfl) (?_ : TZ (d + 1) 12 16 [some (.inr k), some (.inr k2)] [.inr k2] Z1 (zrv Q))
  refine z_fr (by rfl) (fr5_F0 _ hk2) (?_ : TZ (d + 1) 12 19 [some (.inr k), some (.inr k2)] [.inr (k2 + 2)] Z1 (zrv Q))
  refine z0 (op := 0) (a := 0) (b := 0) (by rfl) (by rfl) (?_ : TZ (d + 1) 12 20 [some (.inr k), some (.inr k2)] [.inl 0, .inr (k2 + 2)] Z1 (zrv Q))
  refine z0 (op := 5) (a := 0) (b := 0) (by rfl) (by rfl) (?_ : TZ (d + 1) 12 21 [some (.inr k), some (.inr k2)] [.inr k, .inl 0, .inr (k2 + 2)] Z1 (zrv Q))
  refine z_fr (by rfl) (fr5_F0 _ hk) (?_ : TZ (d + 1) 12 24 [some (.inr k), some (.inr k2)] [.inr (k + 2), .inl 0, .inr (k2 + 2)] Z1 (zrv Q))
  refine z0 (op := 0) (a := 0) (b := 0) (by rfl) (by rfl) (?_ : TZ (d + 1) 12 25 [some (.inr k), some (.inr k2)] [.inl 0, .inr (k + 2), .inl 0, .inr (k2 + 2)] Z1 (zrv Q))
  refine z0 (op := 1) (a := 0) (b := 8) (by rfl) (by rfl) (?_ : TZ (d + 1) 12 27 [some (.inr k), some (.inr k2)] [.inl 8, .inl 0, .inr (k + 2), .inl 0, .inr (k2 + 2)] Z1 (zrv Q))
  obtain ⟨Z2, eZ2⟩ : ∃ q, q = zcpy Z1 (k2 + 2) (k + 2) 8 := ⟨_, rfl⟩
  have v := v Z2 eZ2
  refine z_cpy (by rfl) (by rfl) (Nat.le_of_ble_eq_true rfl) (ln_F2 _ hk2) (ln_F2 _ hk) (by decide) ?_
  show TZ (d + 1) 12 30 [some (.inr k), some (.inr k2)] [] (zcpy Z1 (k2 + 2) (k + 2) 8) _
  rw [← eZ2]
  refine z0 (op := 5) (a := 1) (b := 0) (by rfl) (by rfl) (?_ : TZ (d + 1) 12 31 [some (.inr k), some (.inr k2)] [.inr k2] Z2 (zrv Q))
  refine z_fr (by rfl) (fr8_F0 _ hk2) (?_ : TZ (d + 1) 12 34 [some (.inr k), some (.inr k2)] [.inr (k2 + 5)] Z2 (zrv Q))
  refine z0 (op := 0) (a := 0) (b := 0) (by rfl) (by rfl) (?_ : TZ (d + 1) 12 35 [some (.inr k), some (.inr k2)] [.inl 0, .inr (k2 + 5)] Z2 (zrv Q))
  refine z0 (op := 5) (a := 0) (b := 0) (by rfl) (by rfl) (?_ : TZ (d + 1) 12 36 [some (.inr k), some (.inr k2)] [.inr k, .inl 0, .inr (k2 + 5)] Z2 (zrv Q))
  refine z_fr (by rfl) (fr8_F0 _ hk) (?_ : TZ (d + 1) 12 39 [some (.inr k), some (.inr k2)] [.inr (k + 5), .inl 0, .inr (k2 + 5)] Z2 (zrv Q))
  refine z0 (op := 0) (a := 0) (b := 0) (by rfl) (by rfl) (?_ : TZ (d + 1) 12 40 [some (.inr k), some (.inr k2)] [.inl 0, .inr (k + 5), .inl 0, .inr (k2 + 5)] Z2 (zrv Q))
  refine z0 (op := 1) (a := 0) (b := 6) (by rfl) (by rfl) (?_ : TZ (d + 1) 12 42 [some (.inr k), some (.inr k2)] [.inl 6, .inl 0, .inr (k + 5), .inl 0, .inr (k2 + 5)] Z2 (zrv Q))
  obtain ⟨Z3, eZ3⟩ : ∃ q, q = zcpy Z2 (k2 + 5) (k + 5) 6 := ⟨_, rfl⟩
  have v := v Z3 eZ3
  refine z_cpy (by rfl) (by rfl) (Nat.le_of_ble_eq_true rfl) (ln_F5 _ hk2) (ln_F5 _ hk) (by decide) ?_
  show TZ (d + 1) 12 45 [some (.inr k), some (.inr k2)] [] (zcpy Z2 (k2 + 5) (k + 5) 6) _
  rw [← eZ3]
  refine z0 (op := 5) (a := 0) (b := 0) (by rfl) (by rfl) (?_ : TZ (d + 1) 12 46 [some (.inr k), some (.inr k2)] [.inr k] Z3 (zrv Q))
  refine z0 (op := 5) (a := 1) (b := 0) (by rfl) (by rfl) (?_ : TZ (d + 1) 12 47 [some (.inr k), some (.inr k2)] [.inr k2, .inr k] Z3 (zrv Q))
  refine z_fi (by rfl) (fi10_F0 _ hk2) (?_ : TZ (d + 1) 12 50 [some (.inr k), some (.inr k2)] [.inl (Z3 k2 5), .inr k] Z3 (zrv Q))
  obtain ⟨Z4, eZ4⟩ : ∃ q, q = zup Z3 k 5 (Z3 k2 5) := ⟨_, rfl⟩
  have v := v Z4 eZ4
  refine z_pf (by rfl) (pf10_F0 _ hk) (fun h => nomatch h) ?_
  show TZ (d + 1) 12 53 [some (.inr k), some (.inr k2)] [] (zup Z3 k 5 (Z3 k2 5)) _
  rw [← eZ4]
  refine z0 (op := 5) (a := 0) (b := 0) (by rfl) (by rfl) (?_ : TZ (d + 1) 12 54 [some (.inr k), some (.inr k2)] [.inr k] Z4 (zrv Q))
  refine z0 (op := 5) (a := 1) (b := 0) (by rfl) (by rfl) (?_ : TZ (d + 1) 12 55 [some (.inr k), some (.inr k2)] [.inr k2, .inr k] Z4 (zrv Q))
  refine z_fi (by rfl) (fi9_F0 _ hk2) (?_ : TZ (d + 1) 12 58 [some (.inr k), some (.inr k2)] [.inl (Z4 k2 6), .inr k] Z4 (zrv Q))
  obtain ⟨Z5, eZ5⟩ : ∃ q, q = zup Z4 k 6 (Z4 k2 6) := ⟨_, rfl⟩
  have v := v Z5 eZ5
  refine z_pf (by rfl) (pf9_F0 _ hk) (fun h => nomatch h) ?_
  show TZ (d + 1) 12 61 [some (.inr k), some (.inr k2)] [] (zup Z4 k 6 (Z4 k2 6)) _
  rw [← eZ5]
  refine z0 (op := 5) (a := 0) (b := 0) (by rfl) (by rfl) (?_ : TZ (d + 1) 12 62 [some (.inr k), some (.inr k2)] [.inr k] Z5 (zrv Q))
  refine z0 (op := 5) (a := 1) (b := 0) (by rfl) (by rfl) (?_ : TZ (d + 1) 12 63 [some (.inr k), some (.inr k2)] [.inr k2, .inr k] Z5 (zrv Q))
  refine z_vv (by rfl) (by rfl) (cl_F0 _ hk) (TV.mono v fun Z6 v => ?_)
  show TZ (d + 1) 12 66 [some (.inr k), some (.inr k2)] [] Z6 (zrv Q)
  exact z_retv (by rfl) (by rfl) v
theorem w46_0 {d : Nat} {Z : zM} {Q : zM → Prop}
    (v : ∀ Z1, Z1 = zup Z 26 3 0 →
      Q Z1) :
    TZ d 46 0 [some (.inr 26)] [] Z (zrv Q) := by
  refine z0 (op := 5) (a := 0) (b := 0) (by rfl) (by rfl) (?_ : TZ d 46 1 [some (.inr 26)] [.inr 26] Z (zrv Q))
  refine z0 (op := 0) (a := 0) (b := 0) (by rfl) (by rfl) (?_ : TZ d 46 2 [some (.inr 26)] [.inl 0, .inr 26] Z (zrv Q))
  obtain ⟨Z1, eZ1⟩ : ∃ q, q = zup Z 26 3 0 := ⟨_, rfl⟩
  have v := v Z1 eZ1
  refine z_pf (by rfl) pf32_26 (fun h => nomatch h) ?_
  show TZ d 46 5 [some (.inr 26)] [] (zup Z 26 3 0) _
  rw [← eZ1]
  exact z_retv (by rfl) (by rfl) v
theorem w47_0 {d : Nat} {k : Nat} {Z : zM} {Q : zM → Prop} (hk : k ∈ zFl)
    (v : ∃ t1 : Nat, zat 27 (Z 26 2) = some t1 ∧
      zln t1 = some 8 ∧
      ∀ Z4, Z4 = zcpy Z (k + 3) t1 8 →
      (0 ≤ (Z4 26 2) ∧ (Z4 26 2) < 8) ∧
      ∀ Z6, Z6 = zup Z4 36 (Z4 26 2) (Z4 k 7) →
      zR ((Z6 26 2) + 1) ∧
      ∀ Z8, Z8 = zup Z6 26 2 (Int.tmod ((Z6 26 2) + 1) 8) →
      zR ((Z8 26 3) + 1) ∧
      ∀ Z10, Z10 = zup Z8 26 3 (min ((Z8 26 3) + 1) 8) →
      Q Z10) :
    TZ (d + 1) 47 0 [some (.inr 26), some (.inr k)] [] Z (zrv Q) := by
  refine z0 (op := 5) (a := 1) (b := 0) (by rfl) (by rfl) (?_ : TZ (d + 1) 47 1 [some (.inr 26), some (.inr k)] [.inr k] Z (zrv Q))
  refine z_fr (by rfl) (fr33_F0 _ hk) (?_ : TZ (d + 1) 47 4 [some (.inr 26), some (.inr k)] [.inr (k + 3)] Z (zrv Q))
  refine z0 (op := 0) (a := 0) (b := 0) (by rfl) (by rfl) (?_ : TZ (d + 1) 47 5 [some (.inr 26), some (.inr k)] [.inl 0, .inr (k + 3)] Z (zrv Q))
  refine z0 (op := 5) (a := 0) (b := 0) (by rfl) (by rfl) (?_ : TZ (d + 1) 47 6 [some (.inr 26), some (.inr k)] [.inr 26, .inl 0, .inr (k + 3)] Z (zrv Q))
  refine z_fr (by rfl) fr30_26 (?_ : TZ (d + 1) 47 9 [some (.inr 26), some (.inr k)] [.inr 27, .inl 0, .inr (k + 3)] Z (zrv Q))
  refine z0 (op := 5) (a := 0) (b := 0) (by rfl) (by rfl) (?_ : TZ (d + 1) 47 10 [some (.inr 26), some (.inr k)] [.inr 26, .inr 27, .inl 0, .inr (k + 3)] Z (zrv Q))
  refine z_fi (by rfl) fi34_26 (?_ : TZ (d + 1) 47 13 [some (.inr 26), some (.inr k)] [.inl (Z 26 2), .inr 27, .inl 0, .inr (k + 3)] Z (zrv Q))
  obtain ⟨t1, c2, v⟩ := v
  refine z_aal (by rfl) c2 (?_ : TZ (d + 1) 47 14 [some (.inr 26), some (.inr k)] [.inr t1, .inl 0, .inr (k + 3)] Z (zrv Q))
  refine z0 (op := 0) (a := 0) (b := 0) (by rfl) (by rfl) (?_ : TZ (d + 1) 47 15 [some (.inr 26), some (.inr k)] [.inl 0, .inr t1, .inl 0, .inr (k + 3)] Z (zrv Q))
  refine z0 (op := 1) (a := 0) (b := 8) (by rfl) (by rfl) (?_ : TZ (d + 1) 47 17 [some (.inr 26), some (.inr k)] [.inl 8, .inl 0, .inr t1, .inl 0, .inr (k + 3)] Z (zrv Q))
  obtain ⟨c3, v⟩ := v
  obtain ⟨Z4, eZ4⟩ : ∃ q, q = zcpy Z (k + 3) t1 8 := ⟨_, rfl⟩
  have v := v Z4 eZ4
  refine z_cpy (by rfl) (by rfl) (Nat.le_of_ble_eq_true rfl) (ln_F3 _ hk) c3 (by decide) ?_
  show TZ (d + 1) 47 20 [some (.inr 26), some (.inr k)] [] (zcpy Z (k + 3) t1 8) _
  rw [← eZ4]
  refine z0 (op := 5) (a := 0) (b := 0) (by rfl) (by rfl) (?_ : TZ (d + 1) 47 21 [some (.inr 26), some (.inr k)] [.inr 26] Z4 (zrv Q))
  refine z_fr (by rfl) fr31_26 (?_ : TZ (d + 1) 47 24 [some (.inr 26), some (.inr k)] [.inr 36] Z4 (zrv Q))
  refine z0 (op := 5) (a := 0) (b := 0) (by rfl) (by rfl) (?_ : TZ (d + 1) 47 25 [some (.inr 26), some (.inr k)] [.inr 26, .inr 36] Z4 (zrv Q))
  refine z_fi (by rfl) fi34_26 (?_ : TZ (d + 1) 47 28 [some (.inr 26), some (.inr k)] [.inl (Z4 26 2), .inr 36] Z4 (zrv Q))
  refine z0 (op := 5) (a := 1) (b := 0) (by rfl) (by rfl) (?_ : TZ (d + 1) 47 29 [some (.inr 26), some (.inr k)] [.inr k, .inl (Z4 26 2), .inr 36] Z4 (zrv Q))
  refine z_fi (by rfl) (fi35_F0 _ hk) (?_ : TZ (d + 1) 47 32 [some (.inr 26), some (.inr k)] [.inl (Z4 k 7), .inl (Z4 26 2), .inr 36] Z4 (zrv Q))
  obtain ⟨c5, v⟩ := v
  obtain ⟨Z6, eZ6⟩ : ∃ q, q = zup Z4 36 (Z4 26 2) (Z4 k 7) := ⟨_, rfl⟩
  have v := v Z6 eZ6
  refine z_as (by rfl) ln_36 c5 ?_
  show TZ (d + 1) 47 33 [some (.inr 26), some (.inr k)] [] (zup Z4 36 (Z4 26 2) (Z4 k 7)) _
  rw [← eZ6]
  refine z0 (op := 5) (a := 0) (b := 0) (by rfl) (by rfl) (?_ : TZ (d + 1) 47 34 [some (.inr 26), some (.inr k)] [.inr 26] Z6 (zrv Q))
  refine z0 (op := 5) (a := 0) (b := 0) (by rfl) (by rfl) (?_ : TZ (d + 1) 47 35 [some (.inr 26), some (.inr k)] [.inr 26, .inr 26] Z6 (zrv Q))
  refine z_fi (by rfl) fi34_26 (?_ : TZ (d + 1) 47 38 [some (.inr 26), some (.inr k)] [.inl (Z6 26 2), .inr 26] Z6 (zrv Q))
  refine z0 (op := 0) (a := 0) (b := 1) (by rfl) (by rfl) (?_ : TZ (d + 1) 47 39 [some (.inr 26), some (.inr k)] [.inl 1, .inl (Z6 26 2), .inr 26] Z6 (zrv Q))
  refine z0 (op := 12) (a := 0) (b := 0) (by rfl) (by rfl) (?_ : TZ (d + 1) 47 40 [some (.inr 26), some (.inr k)] [.inl ((Z6 26 2) + 1), .inr 26] Z6 (zrv Q))
  refine z0 (op := 1) (a := 0) (b := 8) (by rfl) (by rfl) (?_ : TZ (d + 1) 47 42 [some (.inr 26), some (.inr k)] [.inl 8, .inl ((Z6 26 2) + 1), .inr 26] Z6 (zrv Q))
  obtain ⟨c7, v⟩ := v
  refine z_rem (by rfl) c7 (by decide) (?_ : TZ (d + 1) 47 43 [some (.inr 26), some (.inr k)] [.inl (Int.tmod ((Z6 26 2) + 1) 8), .inr 26] Z6 (zrv Q))
  obtain ⟨Z8, eZ8⟩ : ∃ q, q = zup Z6 26 2 (Int.tmod ((Z6 26 2) + 1) 8) := ⟨_, rfl⟩
  have v := v Z8 eZ8
  refine z_pf (by rfl) pf34_26 (fun h => nomatch h) ?_
  show TZ (d + 1) 47 46 [some (.inr 26), some (.inr k)] [] (zup Z6 26 2 (Int.tmod ((Z6 26 2) + 1) 8)) _
  rw [← eZ8]
  refine z0 (op := 5) (a := 0) (b := 0) (by rfl) (by rfl) (?_ : TZ (d + 1) 47 47 [some (.inr 26), some (.inr k)] [.inr 26] Z8 (zrv Q))
  refine z0 (op := 5) (a := 0) (b := 0) (by rfl) (by rfl) (?_ : TZ (d + 1) 47 48 [some (.inr 26), some (.inr k)] [.inr 26, .inr 26] Z8 (zrv Q))
  refine z_fi (by rfl) fi32_26 (?_ : TZ (d + 1) 47 51 [some (.inr 26), some (.inr k)] [.inl (Z8 26 3), .inr 26] Z8 (zrv Q))
  refine z0 (op := 0) (a := 0) (b := 1) (by rfl) (by rfl) (?_ : TZ (d + 1) 47 52 [some (.inr 26), some (.inr k)] [.inl 1, .inl (Z8 26 3), .inr 26] Z8 (zrv Q))
  refine z0 (op := 12) (a := 0) (b := 0) (by rfl) (by rfl) (?_ : TZ (d + 1) 47 53 [some (.inr 26), some (.inr k)] [.inl ((Z8 26 3) + 1), .inr 26] Z8 (zrv Q))
  refine z0 (op := 1) (a := 0) (b := 8) (by rfl) (by rfl) (?_ : TZ (d + 1) 47 55 [some (.inr 26), some (.inr k)] [.inl 8, .inl ((Z8 26 3) + 1), .inr 26] Z8 (zrv Q))
  obtain ⟨c9, v⟩ := v
  refine z_min (by rfl) (by rfl) (Nat.le_of_ble_eq_true rfl) c9 (by decide) (?_ : TZ (d + 1) 47 58 [some (.inr 26), some (.inr k)] [.inl (min ((Z8 26 3) + 1) 8), .inr 26] Z8 (zrv Q))
  obtain ⟨Z10, eZ10⟩ : ∃ q, q = zup Z8 26 3 (min ((Z8 26 3) + 1) 8) := ⟨_, rfl⟩
  have v := v Z10 eZ10
  refine z_pf (by rfl) pf32_26 (fun h => nomatch h) ?_
  show TZ (d + 1) 47 61 [some (.inr 26), some (.inr k)] [] (zup Z8 26 3 (min ((Z8 26 3) + 1) 8)) _
  rw [← eZ10]
  exact z_retv (by rfl) (by rfl) v
theorem w48_0 {d : Nat} {k : Nat} {Z : zM} {Q : zM → Prop} (hk : k ∈ zFl)
    (v : zR (((Z 26 2) + 8) - 1) ∧
      ∀ Z2, Z2 = zup Z 26 2 (Int.tmod (((Z 26 2) + 8) - 1) 8) →
      zR ((Z2 26 3) - 1) ∧
      ∀ Z4, Z4 = zup Z2 26 3 (max 0 ((Z2 26 3) - 1)) →
      TZ (d + 1) 48 32 [some (.inr 26), some (.inr k), some (.inl 0)] [] Z4 (zrv Q)) :
    TZ (d + 1) 48 0 [some (.inr 26), some (.inr k), none] [] Z (zrv Q) := by
  refine z0 (op := 5) (a := 0) (b := 0) (by rfl) (by rfl) (?_ : TZ (d + 1) 48 1 [some (.inr 26), some (.inr k), none] [.inr 26] Z (zrv Q))
  refine z0 (op := 5) (a := 0) (b := 0) (by rfl) (by rfl) (?_ : TZ (d + 1) 48 2 [some (.inr 26), some (.inr k), none] [.inr 26, .inr 26] Z (zrv Q))
  refine z_fi (by rfl) fi34_26 (?_ : TZ (d + 1) 48 5 [some (.inr 26), some (.inr k), none] [.inl (Z 26 2), .inr 26] Z (zrv Q))
  refine z0 (op := 1) (a := 0) (b := 8) (by rfl) (by rfl) (?_ : TZ (d + 1) 48 7 [some (.inr 26), some (.inr k), none] [.inl 8, .inl (Z 26 2), .inr 26] Z (zrv Q))
  refine z0 (op := 12) (a := 0) (b := 0) (by rfl) (by rfl) (?_ : TZ (d + 1) 48 8 [some (.inr 26), some (.inr k), none] [.inl ((Z 26 2) + 8), .inr 26] Z (zrv Q))
  refine z0 (op := 0) (a := 0) (b := 1) (by rfl) (by rfl) (?_ : TZ (d + 1) 48 9 [some (.inr 26), some (.inr k), none] [.inl 1, .inl ((Z 26 2) + 8), .inr 26] Z (zrv Q))
  refine z0 (op := 12) (a := 1) (b := 0) (by rfl) (by rfl) (?_ : TZ (d + 1) 48 10 [some (.inr 26), some (.inr k), none] [.inl (((Z 26 2) + 8) - 1), .inr 26] Z (zrv Q))
  refine z0 (op := 1) (a := 0) (b := 8) (by rfl) (by rfl) (?_ : TZ (d + 1) 48 12 [some (.inr 26), some (.inr k), none] [.inl 8, .inl (((Z 26 2) + 8) - 1), .inr 26] Z (zrv Q))
  obtain ⟨c1, v⟩ := v
  refine z_rem (by rfl) c1 (by decide) (?_ : TZ (d + 1) 48 13 [some (.inr 26), some (.inr k), none] [.inl (Int.tmod (((Z 26 2) + 8) - 1) 8), .inr 26] Z (zrv Q))
  obtain ⟨Z2, eZ2⟩ : ∃ q, q = zup Z 26 2 (Int.tmod (((Z 26 2) + 8) - 1) 8) := ⟨_, rfl⟩
  have v := v Z2 eZ2
  refine z_pf (by rfl) pf34_26 (fun h => nomatch h) ?_
  show TZ (d + 1) 48 16 [some (.inr 26), some (.inr k), none] [] (zup Z 26 2 (Int.tmod (((Z 26 2) + 8) - 1) 8)) _
  rw [← eZ2]
  refine z0 (op := 5) (a := 0) (b := 0) (by rfl) (by rfl) (?_ : TZ (d + 1) 48 17 [some (.inr 26), some (.inr k), none] [.inr 26] Z2 (zrv Q))
  refine z0 (op := 0) (a := 0) (b := 0) (by rfl) (by rfl) (?_ : TZ (d + 1) 48 18 [some (.inr 26), some (.inr k), none] [.inl 0, .inr 26] Z2 (zrv Q))
  refine z0 (op := 5) (a := 0) (b := 0) (by rfl) (by rfl) (?_ : TZ (d + 1) 48 19 [some (.inr 26), some (.inr k), none] [.inr 26, .inl 0, .inr 26] Z2 (zrv Q))
  refine z_fi (by rfl) fi32_26 (?_ : TZ (d + 1) 48 22 [some (.inr 26), some (.inr k), none] [.inl (Z2 26 3), .inl 0, .inr 26] Z2 (zrv Q))
  refine z0 (op := 0) (a := 0) (b := 1) (by rfl) (by rfl) (?_ : TZ (d + 1) 48 23 [some (.inr 26), some (.inr k), none] [.inl 1, .inl (Z2 26 3), .inl 0, .inr 26] Z2 (zrv Q))
  refine z0 (op := 12) (a := 1) (b := 0) (by rfl) (by rfl) (?_ : TZ (d + 1) 48 24 [some (.inr 26), some (.inr k), none] [.inl ((Z2 26 3) - 1), .inl 0, .inr 26] Z2 (zrv Q))
  obtain ⟨c3, v⟩ := v
  refine z_max (by rfl) (by rfl) (Nat.le_of_ble_eq_true rfl) (by decide) c3 (?_ : TZ (d + 1) 48 27 [some (.inr 26), some (.inr k), none] [.inl (max 0 ((Z2 26 3) - 1)), .inr 26] Z2 (zrv Q))
  obtain ⟨Z4, eZ4⟩ : ∃ q, q = zup Z2 26 3 (max 0 ((Z2 26 3) - 1)) := ⟨_, rfl⟩
  have v := v Z4 eZ4
  refine z_pf (by rfl) pf32_26 (fun h => nomatch h) ?_
  show TZ (d + 1) 48 30 [some (.inr 26), some (.inr k), none] [] (zup Z2 26 3 (max 0 ((Z2 26 3) - 1))) _
  rw [← eZ4]
  refine z0 (op := 0) (a := 0) (b := 0) (by rfl) (by rfl) (?_ : TZ (d + 1) 48 31 [some (.inr 26), some (.inr k), none] [.inl 0] Z4 (zrv Q))
  refine z0 (op := 7) (a := 2) (b := 0) (by rfl) (by rfl) (?_ : TZ (d + 1) 48 32 [some (.inr 26), some (.inr k), some (.inl 0)] [] Z4 (zrv Q))
  exact v
theorem w48_32 {d : Nat} {k : Nat} {x2 : Int} {Z : zM} {Q : zM → Prop} (hk : k ∈ zFl)
    (v : zR x2 ∧
      zR (Z k 5) ∧
      ((Z k 5) ≤ x2 → ((0 ≤ (Z 26 2) ∧ (Z 26 2) < 8) ∧
          ∀ Z5, Z5 = zup Z k 7 (Z 36 (Z 26 2)) →
          Q Z5)) ∧
      (¬ (Z k 5) ≤ x2 → (∃ t6 : Nat, zat 27 (Z 26 2) = some t6 ∧
          zln t6 = some 8 ∧
          (0 ≤ x2 ∧ x2 < 8) ∧
          TV d 20 [.inr k, .inl x2, .inl (Z t6 x2)] Z (fun Z10 =>
          TZ (d + 1) 48 32 [some (.inr 26), some (.inr k), some (.inl (x2 + 1))] [] Z10 (zrv Q))))) :
    TZ (d + 1) 48 32 [some (.inr 26), some (.inr k), some (.inl x2)] [] Z (zrv Q) := by
  refine z0 (op := 3) (a := 2) (b := 0) (by rfl) (by rfl) (?_ : TZ (d + 1) 48 33 [some (.inr 26), some (.inr k), some (.inl x2)] [.inl x2] Z (zrv Q))
  refine z0 (op := 5) (a := 1) (b := 0) (by rfl) (by rfl) (?_ : TZ (d + 1) 48 34 [some (.inr 26), some (.inr k), some (.inl x2)] [.inr k, .inl x2] Z (zrv Q))
  refine z_fi (by rfl) (fi36_F0 _ hk) (?_ : TZ (d + 1) 48 37 [some (.inr 26), some (.inr k), some (.inl x2)] [.inl (Z k 5), .inl x2] Z (zrv Q))
  obtain ⟨c1, c2, v1, v2⟩ := v
  refine z_if2 (a := 3) (t := 62) (by rfl) (by rfl) c1 c2 (fun h3 => ?_) (fun h3 => ?_)
  · have v := v1 h3; clear v1 v2
    show TZ (d + 1) 48 62 [some (.inr 26), some (.inr k), some (.inl x2)] [] Z (zrv Q)
    refine z0 (op := 5) (a := 1) (b := 0) (by rfl) (by rfl) (?_ : TZ (d + 1) 48 63 [some (.inr 26), some (.inr k), some (.inl x2)] [.inr k] Z (zrv Q))
    refine z0 (op := 5) (a := 0) (b := 0) (by rfl) (by rfl) (?_ : TZ (d + 1) 48 64 [some (.inr 26), some (.inr k), some (.inl x2)] [.inr 26, .inr k] Z (zrv Q))
    refine z_fr (by rfl) fr31_26 (?_ : TZ (d + 1) 48 67 [some (.inr 26), some (.inr k), some (.inl x2)] [.inr 36, .inr k] Z (zrv Q))
    refine z0 (op := 5) (a := 0) (b := 0) (by rfl) (by rfl) (?_ : TZ (d + 1) 48 68 [some (.inr 26), some (.inr k), some (.inl x2)] [.inr 26, .inr 36, .inr k] Z (zrv Q))
    refine z_fi (by rfl) fi34_26 (?_ : TZ (d + 1) 48 71 [some (.inr 26), some (.inr k), some (.inl x2)] [.inl (Z 26 2), .inr 36, .inr k] Z (zrv Q))
    obtain ⟨c4, v⟩ := v
    refine z_al (by rfl) ln_36 c4 (?_ : TZ (d + 1) 48 72 [some (.inr 26), some (.inr k), some (.inl x2)] [.inl (Z 36 (Z 26 2)), .inr k] Z (zrv Q))
    obtain ⟨Z5, eZ5⟩ : ∃ q, q = zup Z k 7 (Z 36 (Z 26 2)) := ⟨_, rfl⟩
    have v := v Z5 eZ5
    refine z_pf (by rfl) (pf35_F0 _ hk) (fun h => nomatch h) ?_
    show TZ (d + 1) 48 75 [some (.inr 26), some (.inr k), some (.inl x2)] [] (zup Z k 7 (Z 36 (Z 26 2))) _
    rw [← eZ5]
    exact z_retv (by rfl) (by rfl) v
  · have v := v2 h3; clear v1 v2
    show TZ (d + 1) 48 40 [some (.inr 26), some (.inr k), some (.inl x2)] [] Z (zrv Q)
    refine z0 (op := 5) (a := 1) (b := 0) (by rfl) (by rfl) (?_ : TZ (d + 1) 48 41 [some (.inr 26), some (.inr k), some (.inl x2)] [.inr k] Z (zrv Q))
    refine z0 (op := 3) (a := 2) (b := 0) (by rfl) (by rfl) (?_ : TZ (d + 1) 48 42 [some (.inr 26), some (.inr k), some (.inl x2)] [.inl x2, .inr k] Z (zrv Q))
    refine z0 (op := 5) (a := 0) (b := 0) (by rfl) (by rfl) (?_ : TZ (d + 1) 48 43 [some (.inr 26), some (.inr k), some (.inl x2)] [.inr 26, .inl x2, .inr k] Z (zrv Q))
    refine z_fr (by rfl) fr30_26 (?_ : TZ (d + 1) 48 46 [some (.inr 26), some (.inr k), some (.inl x2)] [.inr 27, .inl x2, .inr k] Z (zrv Q))
    refine z0 (op := 5) (a := 0) (b := 0) (by rfl) (by rfl) (?_ : TZ (d + 1) 48 47 [some (.inr 26), some (.inr k), some (.inl x2)] [.inr 26, .inr 27, .inl x2, .inr k] Z (zrv Q))
    refine z_fi (by rfl) fi34_26 (?_ : TZ (d + 1) 48 50 [some (.inr 26), some (.inr k), some (.inl x2)] [.inl (Z 26 2), .inr 27, .inl x2, .inr k] Z (zrv Q))
    obtain ⟨t6, c7, v⟩ := v
    refine z_aal (by rfl) c7 (?_ : TZ (d + 1) 48 51 [some (.inr 26), some (.inr k), some (.inl x2)] [.inr t6, .inl x2, .inr k] Z (zrv Q))
    refine z0 (op := 3) (a := 2) (b := 0) (by rfl) (by rfl) (?_ : TZ (d + 1) 48 52 [some (.inr 26), some (.inr k), some (.inl x2)] [.inl x2, .inr t6, .inl x2, .inr k] Z (zrv Q))
    obtain ⟨c8, c9, v⟩ := v
    refine z_al (by rfl) c8 c9 (?_ : TZ (d + 1) 48 53 [some (.inr 26), some (.inr k), some (.inl x2)] [.inl (Z t6 x2), .inl x2, .inr k] Z (zrv Q))
    refine z_vv (by rfl) (by rfl) (cl_F0 _ hk) (TV.mono v fun Z10 v => ?_)
    show TZ (d + 1) 48 56 [some (.inr 26), some (.inr k), some (.inl x2)] [] Z10 (zrv Q)
    refine z0 (op := 11) (a := 2) (b := 1) (by rfl) (by rfl) (?_ : TZ (d + 1) 48 59 [some (.inr 26), some (.inr k), some (.inl (x2 + 1))] [] Z10 (zrv Q))
    refine z_goto (t := 32) (by rfl) (by rfl) (?_ : TZ (d + 1) 48 32 [some (.inr 26), some (.inr k), some (.inl (x2 + 1))] [] Z10 (zrv Q))
    exact v
theorem w65_0 {d : Nat} {x1 : Int} {Z : zM} {Q : Int → zM → Prop}
    (v : zR (Z 37 1) ∧
      (96 ≤ (Z 37 1) → Q (Z 37 1) Z) ∧
      (¬ 96 ≤ (Z 37 1) → ((0 ≤ (Z 37 1) ∧ (Z 37 1) < 96) ∧
          ∀ Z4, Z4 = zup Z 38 (Z 37 1) x1 →
          ∀ Z5, Z5 = zup Z4 37 1 ((Z4 37 1) + 1) →
          Q (Z5 37 1) Z5))) :
    TZ d 65 0 [some (.inr 37), some (.inl x1)] [] Z (zri Q) := by
  refine z0 (op := 5) (a := 0) (b := 0) (by rfl) (by rfl) (?_ : TZ d 65 1 [some (.inr 37), some (.inl x1)] [.inr 37] Z (zri Q))
  refine z_fi (by rfl) fi49_37 (?_ : TZ d 65 4 [some (.inr 37), some (.inl x1)] [.inl (Z 37 1)] Z (zri Q))
  refine z0 (op := 1) (a := 0) (b := 96) (by rfl) (by rfl) (?_ : TZ d 65 6 [some (.inr 37), some (.inl x1)] [.inl 96, .inl (Z 37 1)] Z (zri Q))
  obtain ⟨c1, v1, v2⟩ := v
  refine z_if2 (a := 3) (t := 29) (by rfl) (by rfl) c1 (by decide) (fun h2 => ?_) (fun h2 => ?_)
  · have v := v1 h2; clear v1 v2
    show TZ d 65 29 [some (.inr 37), some (.inl x1)] [] Z (zri Q)
    refine z0 (op := 5) (a := 0) (b := 0) (by rfl) (by rfl) (?_ : TZ d 65 30 [some (.inr 37), some (.inl x1)] [.inr 37] Z (zri Q))
    refine z_fi (by rfl) fi49_37 (?_ : TZ d 65 33 [some (.inr 37), some (.inl x1)] [.inl (Z 37 1)] Z (zri Q))
    exact z_reti (by rfl) (by rfl) v
  · have v := v2 h2; clear v1 v2
    show TZ d 65 9 [some (.inr 37), some (.inl x1)] [] Z (zri Q)
    refine z0 (op := 5) (a := 0) (b := 0) (by rfl) (by rfl) (?_ : TZ d 65 10 [some (.inr 37), some (.inl x1)] [.inr 37] Z (zri Q))
    refine z_fr (by rfl) fr48_37 (?_ : TZ d 65 13 [some (.inr 37), some (.inl x1)] [.inr 38] Z (zri Q))
    refine z0 (op := 5) (a := 0) (b := 0) (by rfl) (by rfl) (?_ : TZ d 65 14 [some (.inr 37), some (.inl x1)] [.inr 37, .inr 38] Z (zri Q))
    refine z_fi (by rfl) fi49_37 (?_ : TZ d 65 17 [some (.inr 37), some (.inl x1)] [.inl (Z 37 1), .inr 38] Z (zri Q))
    refine z0 (op := 3) (a := 1) (b := 0) (by rfl) (by rfl) (?_ : TZ d 65 18 [some (.inr 37), some (.inl x1)] [.inl x1, .inl (Z 37 1), .inr 38] Z (zri Q))
    obtain ⟨c3, v⟩ := v
    obtain ⟨Z4, eZ4⟩ : ∃ q, q = zup Z 38 (Z 37 1) x1 := ⟨_, rfl⟩
    have v := v Z4 eZ4
    refine z_as (by rfl) ln_38 c3 ?_
    show TZ d 65 19 [some (.inr 37), some (.inl x1)] [] (zup Z 38 (Z 37 1) x1) _
    rw [← eZ4]
    refine z0 (op := 5) (a := 0) (b := 0) (by rfl) (by rfl) (?_ : TZ d 65 20 [some (.inr 37), some (.inl x1)] [.inr 37] Z4 (zri Q))
    refine z0 (op := 15) (a := 0) (b := 0) (by rfl) (by rfl) (?_ : TZ d 65 21 [some (.inr 37), some (.inl x1)] [.inr 37, .inr 37] Z4 (zri Q))
    refine z_fi (by rfl) fi49_37 (?_ : TZ d 65 24 [some (.inr 37), some (.inl x1)] [.inl (Z4 37 1), .inr 37] Z4 (zri Q))
    refine z0 (op := 0) (a := 0) (b := 1) (by rfl) (by rfl) (?_ : TZ d 65 25 [some (.inr 37), some (.inl x1)] [.inl 1, .inl (Z4 37 1), .inr 37] Z4 (zri Q))
    refine z0 (op := 12) (a := 0) (b := 0) (by rfl) (by rfl) (?_ : TZ d 65 26 [some (.inr 37), some (.inl x1)] [.inl ((Z4 37 1) + 1), .inr 37] Z4 (zri Q))
    obtain ⟨Z5, eZ5⟩ : ∃ q, q = zup Z4 37 1 ((Z4 37 1) + 1) := ⟨_, rfl⟩
    have v := v Z5 eZ5
    refine z_pf (by rfl) pf49_37 (fun h => nomatch h) ?_
    show TZ d 65 29 [some (.inr 37), some (.inl x1)] [] (zup Z4 37 1 ((Z4 37 1) + 1)) _
    rw [← eZ5]
    refine z0 (op := 5) (a := 0) (b := 0) (by rfl) (by rfl) (?_ : TZ d 65 30 [some (.inr 37), some (.inl x1)] [.inr 37] Z5 (zri Q))
    refine z_fi (by rfl) fi49_37 (?_ : TZ d 65 33 [some (.inr 37), some (.inl x1)] [.inl (Z5 37 1)] Z5 (zri Q))
    exact z_reti (by rfl) (by rfl) v
theorem w66_0 {d : Nat} {x1 : Int} {Z : zM} {Q : Int → zM → Prop}
    (v : zR x1 ∧
      (x1 < 0 → Q (-1) Z) ∧
      (¬ x1 < 0 → (zR x1 ∧
          zR (Z 37 1) ∧
          ((Z 37 1) ≤ x1 → Q (-1) Z) ∧
          (¬ (Z 37 1) ≤ x1 → ((0 ≤ x1 ∧ x1 < 96) ∧ Q (Z 38 x1) Z))))) :
    TZ d 66 0 [some (.inr 37), some (.inl x1)] [] Z (zri Q) := by
  refine z0 (op := 3) (a := 1) (b := 0) (by rfl) (by rfl) (?_ : TZ d 66 1 [some (.inr 37), some (.inl x1)] [.inl x1] Z (zri Q))
  obtain ⟨c1, v1, v2⟩ := v
  refine z_if0 (a := 2) (t := 21) (by rfl) (by rfl) c1 (fun h2 => ?_) (fun h2 => ?_)
  · have v := v1 h2; clear v1 v2
    show TZ d 66 21 [some (.inr 37), some (.inl x1)] [] Z (zri Q)
    refine z0 (op := 0) (a := 0) (b := (-1)) (by rfl) (by rfl) (?_ : TZ d 66 22 [some (.inr 37), some (.inl x1)] [.inl (-1)] Z (zri Q))
    exact z_reti (by rfl) (by rfl) v
  · have v := v2 h2; clear v1 v2
    show TZ d 66 4 [some (.inr 37), some (.inl x1)] [] Z (zri Q)
    refine z0 (op := 3) (a := 1) (b := 0) (by rfl) (by rfl) (?_ : TZ d 66 5 [some (.inr 37), some (.inl x1)] [.inl x1] Z (zri Q))
    refine z0 (op := 5) (a := 0) (b := 0) (by rfl) (by rfl) (?_ : TZ d 66 6 [some (.inr 37), some (.inl x1)] [.inr 37, .inl x1] Z (zri Q))
    refine z_fi (by rfl) fi49_37 (?_ : TZ d 66 9 [some (.inr 37), some (.inl x1)] [.inl (Z 37 1), .inl x1] Z (zri Q))
    obtain ⟨c3, c4, v1, v2⟩ := v
    refine z_if2 (a := 3) (t := 21) (by rfl) (by rfl) c3 c4 (fun h5 => ?_) (fun h5 => ?_)
    · have v := v1 h5; clear v1 v2
      show TZ d 66 21 [some (.inr 37), some (.inl x1)] [] Z (zri Q)
      refine z0 (op := 0) (a := 0) (b := (-1)) (by rfl) (by rfl) (?_ : TZ d 66 22 [some (.inr 37), some (.inl x1)] [.inl (-1)] Z (zri Q))
      exact z_reti (by rfl) (by rfl) v
    · have v := v2 h5; clear v1 v2
      show TZ d 66 12 [some (.inr 37), some (.inl x1)] [] Z (zri Q)
      refine z0 (op := 5) (a := 0) (b := 0) (by rfl) (by rfl) (?_ : TZ d 66 13 [some (.inr 37), some (.inl x1)] [.inr 37] Z (zri Q))
      refine z_fr (by rfl) fr48_37 (?_ : TZ d 66 16 [some (.inr 37), some (.inl x1)] [.inr 38] Z (zri Q))
      refine z0 (op := 3) (a := 1) (b := 0) (by rfl) (by rfl) (?_ : TZ d 66 17 [some (.inr 37), some (.inl x1)] [.inl x1, .inr 38] Z (zri Q))
      obtain ⟨c6, v⟩ := v
      refine z_al (by rfl) ln_38 c6 (?_ : TZ d 66 18 [some (.inr 37), some (.inl x1)] [.inl (Z 38 x1)] Z (zri Q))
      refine z_goto (t := 22) (by rfl) (by rfl) (?_ : TZ d 66 22 [some (.inr 37), some (.inl x1)] [.inl (Z 38 x1)] Z (zri Q))
      exact z_reti (by rfl) (by rfl) v
theorem w67_0 {d : Nat} {x1 : Int} {Z : zM} {Q : Int → zM → Prop}
    (v : TI d 66 [.inr 37, .inl x1] Z (fun r2 Z1 =>
      zR r2 ∧
        (r2 < 48 → Q (-9) Z1) ∧
        (¬ r2 < 48 → (zR r2 ∧
            (57 < r2 → Q (-9) Z1) ∧
            (¬ 57 < r2 → Q (r2 - 48) Z1))))) :
    TZ (d + 1) 67 0 [some (.inr 37), some (.inl x1), none] [] Z (zri Q) := by
  refine z0 (op := 5) (a := 0) (b := 0) (by rfl) (by rfl) (?_ : TZ (d + 1) 67 1 [some (.inr 37), some (.inl x1), none] [.inr 37] Z (zri Q))
  refine z0 (op := 3) (a := 1) (b := 0) (by rfl) (by rfl) (?_ : TZ (d + 1) 67 2 [some (.inr 37), some (.inl x1), none] [.inl x1, .inr 37] Z (zri Q))
  refine z_vi (by rfl) (by rfl) cl_37 (TI.mono v fun r2 Z1 v => ?_)
  show TZ (d + 1) 67 5 [some (.inr 37), some (.inl x1), none] [.inl r2] Z1 (zri Q)
  refine z0 (op := 7) (a := 2) (b := 0) (by rfl) (by rfl) (?_ : TZ (d + 1) 67 6 [some (.inr 37), some (.inl x1), some (.inl r2)] [] Z1 (zri Q))
  refine z0 (op := 3) (a := 2) (b := 0) (by rfl) (by rfl) (?_ : TZ (d + 1) 67 7 [some (.inr 37), some (.inl x1), some (.inl r2)] [.inl r2] Z1 (zri Q))
  refine z0 (op := 1) (a := 0) (b := 48) (by rfl) (by rfl) (?_ : TZ (d + 1) 67 9 [some (.inr 37), some (.inl x1), some (.inl r2)] [.inl 48, .inl r2] Z1 (zri Q))
  obtain ⟨c3, v1, v2⟩ := v
  refine z_if2 (a := 2) (t := 25) (by rfl) (by rfl) c3 (by decide) (fun h4 => ?_) (fun h4 => ?_)
  · have v := v1 h4; clear v1 v2
    show TZ (d + 1) 67 25 [some (.inr 37), some (.inl x1), some (.inl r2)] [] Z1 (zri Q)
    refine z0 (op := 1) (a := 0) (b := (-9)) (by rfl) (by rfl) (?_ : TZ (d + 1) 67 27 [some (.inr 37), some (.inl x1), some (.inl r2)] [.inl (-9)] Z1 (zri Q))
    exact z_reti (by rfl) (by rfl) v
  · have v := v2 h4; clear v1 v2
    show TZ (d + 1) 67 12 [some (.inr 37), some (.inl x1), some (.inl r2)] [] Z1 (zri Q)
    refine z0 (op := 3) (a := 2) (b := 0) (by rfl) (by rfl) (?_ : TZ (d + 1) 67 13 [some (.inr 37), some (.inl x1), some (.inl r2)] [.inl r2] Z1 (zri Q))
    refine z0 (op := 1) (a := 0) (b := 57) (by rfl) (by rfl) (?_ : TZ (d + 1) 67 15 [some (.inr 37), some (.inl x1), some (.inl r2)] [.inl 57, .inl r2] Z1 (zri Q))
    obtain ⟨c5, v1, v2⟩ := v
    refine z_if2 (a := 4) (t := 25) (by rfl) (by rfl) c5 (by decide) (fun h6 => ?_) (fun h6 => ?_)
    · have v := v1 h6; clear v1 v2
      show TZ (d + 1) 67 25 [some (.inr 37), some (.inl x1), some (.inl r2)] [] Z1 (zri Q)
      refine z0 (op := 1) (a := 0) (b := (-9)) (by rfl) (by rfl) (?_ : TZ (d + 1) 67 27 [some (.inr 37), some (.inl x1), some (.inl r2)] [.inl (-9)] Z1 (zri Q))
      exact z_reti (by rfl) (by rfl) v
    · have v := v2 h6; clear v1 v2
      show TZ (d + 1) 67 18 [some (.inr 37), some (.inl x1), some (.inl r2)] [] Z1 (zri Q)
      refine z0 (op := 3) (a := 2) (b := 0) (by rfl) (by rfl) (?_ : TZ (d + 1) 67 19 [some (.inr 37), some (.inl x1), some (.inl r2)] [.inl r2] Z1 (zri Q))
      refine z0 (op := 1) (a := 0) (b := 48) (by rfl) (by rfl) (?_ : TZ (d + 1) 67 21 [some (.inr 37), some (.inl x1), some (.inl r2)] [.inl 48, .inl r2] Z1 (zri Q))
      refine z0 (op := 12) (a := 1) (b := 0) (by rfl) (by rfl) (?_ : TZ (d + 1) 67 22 [some (.inr 37), some (.inl x1), some (.inl r2)] [.inl (r2 - 48)] Z1 (zri Q))
      refine z_goto (t := 27) (by rfl) (by rfl) (?_ : TZ (d + 1) 67 27 [some (.inr 37), some (.inl x1), some (.inl r2)] [.inl (r2 - 48)] Z1 (zri Q))
      exact z_reti (by rfl) (by rfl) v
theorem w68_0 {d : Nat} {x0 : Int} {Z : zM} {Q : Int → zM → Prop}
    (v : zR x0 ∧
      ((x0 = 98 ∨ x0 = 119) → Q 3 Z) ∧
      ((x0 = 99 ∨ x0 = 102 ∨ x0 = 110) → Q 1 Z) ∧
      ((x0 = 104 ∨ x0 = 114 ∨ x0 = 115) → Q 0 Z) ∧
      ((x0 ≠ 98 ∧ x0 ≠ 119 ∧ x0 ≠ 99 ∧ x0 ≠ 102 ∧ x0 ≠ 110 ∧ x0 ≠ 104 ∧ x0 ≠ 114 ∧ x0 ≠ 115) → Q (-9) Z)) :
    TZ d 68 0 [some (.inl x0)] [] Z (zri Q) := by
  refine z0 (op := 3) (a := 0) (b := 0) (by rfl) (by rfl) (?_ : TZ d 68 1 [some (.inl x0)] [.inl x0] Z (zri Q))
  obtain ⟨c1, v⟩ := v
  obtain ⟨w0, w1, w2, w3⟩ := v
  have hd : x0 ≠ 98 ∧ x0 ≠ 119 ∧ x0 ≠ 99 ∧ x0 ≠ 102 ∧ x0 ≠ 110 ∧ x0 ≠ 104 ∧ x0 ≠ 114 ∧ x0 ≠ 115 → TZ d 68 110 [some (.inl x0)] [] Z (zri Q) := fun hh => by
    have v := w3 hh; clear w0 w1 w2 w3
    refine z0 (op := 1) (a := 0) (b := (-9)) (by rfl) (by rfl) (?_ : TZ d 68 112 [some (.inl x0)] [.inl (-9)] Z (zri Q))
    exact z_reti (by rfl) (by rfl) v
  have hc0 : x0 = 98 ∨ x0 = 119 → TZ d 68 104 [some (.inl x0)] [] Z (zri Q) := fun hh => by
    have v := w0 hh; clear w0 w1 w2 w3 hd
    refine z0 (op := 0) (a := 0) (b := 3) (by rfl) (by rfl) (?_ : TZ d 68 105 [some (.inl x0)] [.inl 3] Z (zri Q))
    exact z_reti (by rfl) (by rfl) v
  have hc1 : x0 = 99 ∨ x0 = 102 ∨ x0 = 110 → TZ d 68 106 [some (.inl x0)] [] Z (zri Q) := fun hh => by
    have v := w1 hh; clear w0 w1 w2 w3 hd hc0
    refine z0 (op := 0) (a := 0) (b := 1) (by rfl) (by rfl) (?_ : TZ d 68 107 [some (.inl x0)] [.inl 1] Z (zri Q))
    exact z_reti (by rfl) (by rfl) v
  have hc2 : x0 = 104 ∨ x0 = 114 ∨ x0 = 115 → TZ d 68 108 [some (.inl x0)] [] Z (zri Q) := fun hh => by
    have v := w2 hh; clear w0 w1 w2 w3 hd hc0 hc1
    refine z0 (op := 0) (a := 0) (b := 0) (by rfl) (by rfl) (?_ : TZ d 68 109 [some (.inl x0)] [.inl 0] Z (zri Q))
    exact z_reti (by rfl) (by rfl) v
  refine z_tsw (t := 110) (by rfl) (by rfl) (by decide) (by rfl) c1 (fun n o hn hx => ?_) (fun hx => hd (by omega))
  match n, hn with
  | 0, hn => have e := Option.some.inj hn; subst e; exact ⟨104, by rfl, hc0 (by omega)⟩
  | 1, hn => have e := Option.some.inj hn; subst e; exact ⟨106, by rfl, hc1 (by omega)⟩
  | 2, hn => have e := Option.some.inj hn; subst e; exact ⟨110, by rfl, hd (by omega)⟩
  | 3, hn => have e := Option.some.inj hn; subst e; exact ⟨110, by rfl, hd (by omega)⟩
  | 4, hn => have e := Option.some.inj hn; subst e; exact ⟨106, by rfl, hc1 (by omega)⟩
  | 5, hn => have e := Option.some.inj hn; subst e; exact ⟨110, by rfl, hd (by omega)⟩
  | 6, hn => have e := Option.some.inj hn; subst e; exact ⟨108, by rfl, hc2 (by omega)⟩
  | 7, hn => have e := Option.some.inj hn; subst e; exact ⟨110, by rfl, hd (by omega)⟩
  | 8, hn => have e := Option.some.inj hn; subst e; exact ⟨110, by rfl, hd (by omega)⟩
  | 9, hn => have e := Option.some.inj hn; subst e; exact ⟨110, by rfl, hd (by omega)⟩
  | 10, hn => have e := Option.some.inj hn; subst e; exact ⟨110, by rfl, hd (by omega)⟩
  | 11, hn => have e := Option.some.inj hn; subst e; exact ⟨110, by rfl, hd (by omega)⟩
  | 12, hn => have e := Option.some.inj hn; subst e; exact ⟨106, by rfl, hc1 (by omega)⟩
  | 13, hn => have e := Option.some.inj hn; subst e; exact ⟨110, by rfl, hd (by omega)⟩
  | 14, hn => have e := Option.some.inj hn; subst e; exact ⟨110, by rfl, hd (by omega)⟩
  | 15, hn => have e := Option.some.inj hn; subst e; exact ⟨110, by rfl, hd (by omega)⟩
  | 16, hn => have e := Option.some.inj hn; subst e; exact ⟨108, by rfl, hc2 (by omega)⟩
  | 17, hn => have e := Option.some.inj hn; subst e; exact ⟨108, by rfl, hc2 (by omega)⟩
  | 18, hn => have e := Option.some.inj hn; subst e; exact ⟨110, by rfl, hd (by omega)⟩
  | 19, hn => have e := Option.some.inj hn; subst e; exact ⟨110, by rfl, hd (by omega)⟩
  | 20, hn => have e := Option.some.inj hn; subst e; exact ⟨110, by rfl, hd (by omega)⟩
  | 21, hn => have e := Option.some.inj hn; subst e; exact ⟨104, by rfl, hc0 (by omega)⟩
  | n + 22, hn => exact absurd hn (by simp)
theorem w69_0 {d : Nat} {Z : zM} {Q : Int → zM → Prop}
    (v : TZ d 69 2 [some (.inr 37), some (.inl 0), none, none] [] Z (zri Q)) :
    TZ d 69 0 [some (.inr 37), none, none, none] [] Z (zri Q) := by
  refine z0 (op := 0) (a := 0) (b := 0) (by rfl) (by rfl) (?_ : TZ d 69 1 [some (.inr 37), none, none, none] [.inl 0] Z (zri Q))
  refine z0 (op := 7) (a := 1) (b := 0) (by rfl) (by rfl) (?_ : TZ d 69 2 [some (.inr 37), some (.inl 0), none, none] [] Z (zri Q))
  exact v
theorem w69_2 {d : Nat} {x1 : Int} {o2 o3 : Option zV} {Z : zM} {Q : Int → zM → Prop}
    (v : TI d 66 [.inr 37, .inl x1] Z (fun r2 Z1 =>
      TI d 68 [.inl r2] Z1 (fun r4 Z3 =>
        zR r4 ∧
          (0 ≤ r4 → TZ (d + 1) 69 19 [some (.inr 37), some (.inl x1), some (.inl r4), some (.inl 1)] [] Z3 (zri Q)) ∧
          (¬ 0 ≤ r4 → Q x1 Z3)))) :
    TZ (d + 1) 69 2 [some (.inr 37), some (.inl x1), o2, o3] [] Z (zri Q) := by
  refine z0 (op := 5) (a := 0) (b := 0) (by rfl) (by rfl) (?_ : TZ (d + 1) 69 3 [some (.inr 37), some (.inl x1), o2, o3] [.inr 37] Z (zri Q))
  refine z0 (op := 3) (a := 1) (b := 0) (by rfl) (by rfl) (?_ : TZ (d + 1) 69 4 [some (.inr 37), some (.inl x1), o2, o3] [.inl x1, .inr 37] Z (zri Q))
  refine z_vi (by rfl) (by rfl) cl_37 (TI.mono v fun r2 Z1 v => ?_)
  show TZ (d + 1) 69 7 [some (.inr 37), some (.inl x1), o2, o3] [.inl r2] Z1 (zri Q)
  refine z_si (by rfl) (by rfl) (TI.mono v fun r4 Z3 v => ?_)
  show TZ (d + 1) 69 10 [some (.inr 37), some (.inl x1), o2, o3] [.inl r4] Z3 (zri Q)
  refine z0 (op := 7) (a := 2) (b := 0) (by rfl) (by rfl) (?_ : TZ (d + 1) 69 11 [some (.inr 37), some (.inl x1), some (.inl r4), o3] [] Z3 (zri Q))
  refine z0 (op := 3) (a := 2) (b := 0) (by rfl) (by rfl) (?_ : TZ (d + 1) 69 12 [some (.inr 37), some (.inl x1), some (.inl r4), o3] [.inl r4] Z3 (zri Q))
  obtain ⟨c5, v1, v2⟩ := v
  refine z_if0 (a := 3) (t := 17) (by rfl) (by rfl) c5 (fun h6 => ?_) (fun h6 => ?_)
  · have v := v1 h6; clear v1 v2
    show TZ (d + 1) 69 17 [some (.inr 37), some (.inl x1), some (.inl r4), o3] [] Z3 (zri Q)
    refine z0 (op := 0) (a := 0) (b := 1) (by rfl) (by rfl) (?_ : TZ (d + 1) 69 18 [some (.inr 37), some (.inl x1), some (.inl r4), o3] [.inl 1] Z3 (zri Q))
    refine z0 (op := 7) (a := 3) (b := 0) (by rfl) (by rfl) (?_ : TZ (d + 1) 69 19 [some (.inr 37), some (.inl x1), some (.inl r4), some (.inl 1)] [] Z3 (zri Q))
    exact v
  · have v := v2 h6; clear v1 v2
    show TZ (d + 1) 69 15 [some (.inr 37), some (.inl x1), some (.inl r4), o3] [] Z3 (zri Q)
    refine z0 (op := 3) (a := 1) (b := 0) (by rfl) (by rfl) (?_ : TZ (d + 1) 69 16 [some (.inr 37), some (.inl x1), some (.inl r4), o3] [.inl x1] Z3 (zri Q))
    exact z_reti (by rfl) (by rfl) v
theorem w69_19 {d : Nat} {x1 x2 x3 : Int} {Z : zM} {Q : Int → zM → Prop}
    (v : zR x3 ∧
      zR x2 ∧
      (x2 < x3 → TI d 66 [.inr 37, .inl ((x1 + x2) + 1)] Z (fun r5 Z4 =>
          zR r5 ∧
            (r5 = 59 → (zR (x1 + (x2 + 2)) ∧
                zR (Z4 37 1) ∧
                ((x1 + (x2 + 2)) < (Z4 37 1) → TZ (d + 1) 69 2 [some (.inr 37), some (.inl (x1 + (x2 + 2))), some (.inl x2), some (.inl x3)] [] Z4 (zri Q)) ∧
                (¬ (x1 + (x2 + 2)) < (Z4 37 1) → Q (-9) Z4))) ∧
            (¬ r5 = 59 → Q ((x1 + x2) + 1) Z4))) ∧
      (¬ x2 < x3 → TI d 67 [.inr 37, .inl (x1 + x3)] Z (fun r12 Z11 =>
          zR r12 ∧
            (0 ≤ r12 → TZ (d + 1) 69 19 [some (.inr 37), some (.inl x1), some (.inl x2), some (.inl (x3 + 1))] [] Z11 (zri Q)) ∧
            (¬ 0 ≤ r12 → Q (x1 + x3) Z11)))) :
    TZ (d + 1) 69 19 [some (.inr 37), some (.inl x1), some (.inl x2), some (.inl x3)] [] Z (zri Q) := by
  refine z0 (op := 3) (a := 3) (b := 0) (by rfl) (by rfl) (?_ : TZ (d + 1) 69 20 [some (.inr 37), some (.inl x1), some (.inl x2), some (.inl x3)] [.inl x3] Z (zri Q))
  refine z0 (op := 3) (a := 2) (b := 0) (by rfl) (by rfl) (?_ : TZ (d + 1) 69 21 [some (.inr 37), some (.inl x1), some (.inl x2), some (.inl x3)] [.inl x2, .inl x3] Z (zri Q))
  obtain ⟨c1, c2, v1, v2⟩ := v
  refine z_if2 (a := 4) (t := 44) (by rfl) (by rfl) c1 c2 (fun h3 => ?_) (fun h3 => ?_)
  · have v := v1 h3; clear v1 v2
    show TZ (d + 1) 69 44 [some (.inr 37), some (.inl x1), some (.inl x2), some (.inl x3)] [] Z (zri Q)
    refine z0 (op := 5) (a := 0) (b := 0) (by rfl) (by rfl) (?_ : TZ (d + 1) 69 45 [some (.inr 37), some (.inl x1), some (.inl x2), some (.inl x3)] [.inr 37] Z (zri Q))
    refine z0 (op := 3) (a := 1) (b := 0) (by rfl) (by rfl) (?_ : TZ (d + 1) 69 46 [some (.inr 37), some (.inl x1), some (.inl x2), some (.inl x3)] [.inl x1, .inr 37] Z (zri Q))
    refine z0 (op := 3) (a := 2) (b := 0) (by rfl) (by rfl) (?_ : TZ (d + 1) 69 47 [some (.inr 37), some (.inl x1), some (.inl x2), some (.inl x3)] [.inl x2, .inl x1, .inr 37] Z (zri Q))
    refine z0 (op := 12) (a := 0) (b := 0) (by rfl) (by rfl) (?_ : TZ (d + 1) 69 48 [some (.inr 37), some (.inl x1), some (.inl x2), some (.inl x3)] [.inl (x1 + x2), .inr 37] Z (zri Q))
    refine z0 (op := 0) (a := 0) (b := 1) (by rfl) (by rfl) (?_ : TZ (d + 1) 69 49 [some (.inr 37), some (.inl x1), some (.inl x2), some (.inl x3)] [.inl 1, .inl (x1 + x2), .inr 37] Z (zri Q))
    refine z0 (op := 12) (a := 0) (b := 0) (by rfl) (by rfl) (?_ : TZ (d + 1) 69 50 [some (.inr 37), some (.inl x1), some (.inl x2), some (.inl x3)] [.inl ((x1 + x2) + 1), .inr 37] Z (zri Q))
    refine z_vi (by rfl) (by rfl) cl_37 (TI.mono v fun r5 Z4 v => ?_)
    show TZ (d + 1) 69 53 [some (.inr 37), some (.inl x1), some (.inl x2), some (.inl x3)] [.inl r5] Z4 (zri Q)
    refine z0 (op := 1) (a := 0) (b := 59) (by rfl) (by rfl) (?_ : TZ (d + 1) 69 55 [some (.inr 37), some (.inl x1), some (.inl x2), some (.inl x3)] [.inl 59, .inl r5] Z4 (zri Q))
    obtain ⟨c6, v1, v2⟩ := v
    refine z_if2 (a := 0) (t := 64) (by rfl) (by rfl) c6 (by decide) (fun h7 => ?_) (fun h7 => ?_)
    · have v := v1 h7; clear v1 v2
      show TZ (d + 1) 69 64 [some (.inr 37), some (.inl x1), some (.inl x2), some (.inl x3)] [] Z4 (zri Q)
      refine z0 (op := 3) (a := 1) (b := 0) (by rfl) (by rfl) (?_ : TZ (d + 1) 69 65 [some (.inr 37), some (.inl x1), some (.inl x2), some (.inl x3)] [.inl x1] Z4 (zri Q))
      refine z0 (op := 3) (a := 2) (b := 0) (by rfl) (by rfl) (?_ : TZ (d + 1) 69 66 [some (.inr 37), some (.inl x1), some (.inl x2), some (.inl x3)] [.inl x2, .inl x1] Z4 (zri Q))
      refine z0 (op := 0) (a := 0) (b := 2) (by rfl) (by rfl) (?_ : TZ (d + 1) 69 67 [some (.inr 37), some (.inl x1), some (.inl x2), some (.inl x3)] [.inl 2, .inl x2, .inl x1] Z4 (zri Q))
      refine z0 (op := 12) (a := 0) (b := 0) (by rfl) (by rfl) (?_ : TZ (d + 1) 69 68 [some (.inr 37), some (.inl x1), some (.inl x2), some (.inl x3)] [.inl (x2 + 2), .inl x1] Z4 (zri Q))
      refine z0 (op := 12) (a := 0) (b := 0) (by rfl) (by rfl) (?_ : TZ (d + 1) 69 69 [some (.inr 37), some (.inl x1), some (.inl x2), some (.inl x3)] [.inl (x1 + (x2 + 2))] Z4 (zri Q))
      refine z0 (op := 7) (a := 1) (b := 0) (by rfl) (by rfl) (?_ : TZ (d + 1) 69 70 [some (.inr 37), some (.inl (x1 + (x2 + 2))), some (.inl x2), some (.inl x3)] [] Z4 (zri Q))
      refine z0 (op := 3) (a := 1) (b := 0) (by rfl) (by rfl) (?_ : TZ (d + 1) 69 71 [some (.inr 37), some (.inl (x1 + (x2 + 2))), some (.inl x2), some (.inl x3)] [.inl (x1 + (x2 + 2))] Z4 (zri Q))
      refine z0 (op := 5) (a := 0) (b := 0) (by rfl) (by rfl) (?_ : TZ (d + 1) 69 72 [some (.inr 37), some (.inl (x1 + (x2 + 2))), some (.inl x2), some (.inl x3)] [.inr 37, .inl (x1 + (x2 + 2))] Z4 (zri Q))
      refine z_fi (by rfl) fi49_37 (?_ : TZ (d + 1) 69 75 [some (.inr 37), some (.inl (x1 + (x2 + 2))), some (.inl x2), some (.inl x3)] [.inl (Z4 37 1), .inl (x1 + (x2 + 2))] Z4 (zri Q))
      obtain ⟨c8, c9, v1, v2⟩ := v
      refine z_if2 (a := 2) (t := 2) (by rfl) (by rfl) c8 c9 (fun h10 => ?_) (fun h10 => ?_)
      · have v := v1 h10; clear v1 v2
        show TZ (d + 1) 69 2 [some (.inr 37), some (.inl (x1 + (x2 + 2))), some (.inl x2), some (.inl x3)] [] Z4 (zri Q)
        exact v
      · have v := v2 h10; clear v1 v2
        show TZ (d + 1) 69 78 [some (.inr 37), some (.inl (x1 + (x2 + 2))), some (.inl x2), some (.inl x3)] [] Z4 (zri Q)
        refine z0 (op := 1) (a := 0) (b := (-9)) (by rfl) (by rfl) (?_ : TZ (d + 1) 69 80 [some (.inr 37), some (.inl (x1 + (x2 + 2))), some (.inl x2), some (.inl x3)] [.inl (-9)] Z4 (zri Q))
        exact z_reti (by rfl) (by rfl) v
    · have v := v2 h7; clear v1 v2
      show TZ (d + 1) 69 58 [some (.inr 37), some (.inl x1), some (.inl x2), some (.inl x3)] [] Z4 (zri Q)
      refine z0 (op := 3) (a := 1) (b := 0) (by rfl) (by rfl) (?_ : TZ (d + 1) 69 59 [some (.inr 37), some (.inl x1), some (.inl x2), some (.inl x3)] [.inl x1] Z4 (zri Q))
      refine z0 (op := 3) (a := 2) (b := 0) (by rfl) (by rfl) (?_ : TZ (d + 1) 69 60 [some (.inr 37), some (.inl x1), some (.inl x2), some (.inl x3)] [.inl x2, .inl x1] Z4 (zri Q))
      refine z0 (op := 12) (a := 0) (b := 0) (by rfl) (by rfl) (?_ : TZ (d + 1) 69 61 [some (.inr 37), some (.inl x1), some (.inl x2), some (.inl x3)] [.inl (x1 + x2)] Z4 (zri Q))
      refine z0 (op := 0) (a := 0) (b := 1) (by rfl) (by rfl) (?_ : TZ (d + 1) 69 62 [some (.inr 37), some (.inl x1), some (.inl x2), some (.inl x3)] [.inl 1, .inl (x1 + x2)] Z4 (zri Q))
      refine z0 (op := 12) (a := 0) (b := 0) (by rfl) (by rfl) (?_ : TZ (d + 1) 69 63 [some (.inr 37), some (.inl x1), some (.inl x2), some (.inl x3)] [.inl ((x1 + x2) + 1)] Z4 (zri Q))
      exact z_reti (by rfl) (by rfl) v
  · have v := v2 h3; clear v1 v2
    show TZ (d + 1) 69 24 [some (.inr 37), some (.inl x1), some (.inl x2), some (.inl x3)] [] Z (zri Q)
    refine z0 (op := 5) (a := 0) (b := 0) (by rfl) (by rfl) (?_ : TZ (d + 1) 69 25 [some (.inr 37), some (.inl x1), some (.inl x2), some (.inl x3)] [.inr 37] Z (zri Q))
    refine z0 (op := 3) (a := 1) (b := 0) (by rfl) (by rfl) (?_ : TZ (d + 1) 69 26 [some (.inr 37), some (.inl x1), some (.inl x2), some (.inl x3)] [.inl x1, .inr 37] Z (zri Q))
    refine z0 (op := 3) (a := 3) (b := 0) (by rfl) (by rfl) (?_ : TZ (d + 1) 69 27 [some (.inr 37), some (.inl x1), some (.inl x2), some (.inl x3)] [.inl x3, .inl x1, .inr 37] Z (zri Q))
    refine z0 (op := 12) (a := 0) (b := 0) (by rfl) (by rfl) (?_ : TZ (d + 1) 69 28 [some (.inr 37), some (.inl x1), some (.inl x2), some (.inl x3)] [.inl (x1 + x3), .inr 37] Z (zri Q))
    refine z_vi (by rfl) (by rfl) cl_37 (TI.mono v fun r12 Z11 v => ?_)
    show TZ (d + 1) 69 31 [some (.inr 37), some (.inl x1), some (.inl x2), some (.inl x3)] [.inl r12] Z11 (zri Q)
    obtain ⟨c13, v1, v2⟩ := v
    refine z_if0 (a := 3) (t := 38) (by rfl) (by rfl) c13 (fun h14 => ?_) (fun h14 => ?_)
    · have v := v1 h14; clear v1 v2
      show TZ (d + 1) 69 38 [some (.inr 37), some (.inl x1), some (.inl x2), some (.inl x3)] [] Z11 (zri Q)
      refine z0 (op := 11) (a := 3) (b := 1) (by rfl) (by rfl) (?_ : TZ (d + 1) 69 41 [some (.inr 37), some (.inl x1), some (.inl x2), some (.inl (x3 + 1))] [] Z11 (zri Q))
      refine z_goto (t := 19) (by rfl) (by rfl) (?_ : TZ (d + 1) 69 19 [some (.inr 37), some (.inl x1), some (.inl x2), some (.inl (x3 + 1))] [] Z11 (zri Q))
      exact v
    · have v := v2 h14; clear v1 v2
      show TZ (d + 1) 69 34 [some (.inr 37), some (.inl x1), some (.inl x2), some (.inl x3)] [] Z11 (zri Q)
      refine z0 (op := 3) (a := 1) (b := 0) (by rfl) (by rfl) (?_ : TZ (d + 1) 69 35 [some (.inr 37), some (.inl x1), some (.inl x2), some (.inl x3)] [.inl x1] Z11 (zri Q))
      refine z0 (op := 3) (a := 3) (b := 0) (by rfl) (by rfl) (?_ : TZ (d + 1) 69 36 [some (.inr 37), some (.inl x1), some (.inl x2), some (.inl x3)] [.inl x3, .inl x1] Z11 (zri Q))
      refine z0 (op := 12) (a := 0) (b := 0) (by rfl) (by rfl) (?_ : TZ (d + 1) 69 37 [some (.inr 37), some (.inl x1), some (.inl x2), some (.inl x3)] [.inl (x1 + x3)] Z11 (zri Q))
      exact z_reti (by rfl) (by rfl) v
theorem w71_0 {d : Nat} {x1 : Int} {Z : zM} {Q : Int → zM → Prop}
    (v : zR (-x1) ∧
      ((-x1) < 1 → Q x1 Z) ∧
      (¬ (-x1) < 1 → (zR (-x1) ∧
          (6 < (-x1) → Q x1 Z) ∧
          (¬ 6 < (-x1) → ((0 ≤ (-x1) ∧ (-x1) < 7) ∧
              (0 ≤ (-x1) ∧ (-x1) < 7) ∧
              ∀ Z7, Z7 = zup Z 43 (-x1) ((Z 43 (-x1)) + 1) →
              Q x1 Z7))))) :
    TZ d 71 0 [some (.inr 0), some (.inl x1), none] [] Z (zri Q) := by
  refine z0 (op := 3) (a := 1) (b := 0) (by rfl) (by rfl) (?_ : TZ d 71 1 [some (.inr 0), some (.inl x1), none] [.inl x1] Z (zri Q))
  refine z0 (op := 13) (a := 0) (b := 0) (by rfl) (by rfl) (?_ : TZ d 71 2 [some (.inr 0), some (.inl x1), none] [.inl (-x1)] Z (zri Q))
  refine z0 (op := 7) (a := 2) (b := 0) (by rfl) (by rfl) (?_ : TZ d 71 3 [some (.inr 0), some (.inl x1), some (.inl (-x1))] [] Z (zri Q))
  refine z0 (op := 3) (a := 2) (b := 0) (by rfl) (by rfl) (?_ : TZ d 71 4 [some (.inr 0), some (.inl x1), some (.inl (-x1))] [.inl (-x1)] Z (zri Q))
  refine z0 (op := 0) (a := 0) (b := 1) (by rfl) (by rfl) (?_ : TZ d 71 5 [some (.inr 0), some (.inl x1), some (.inl (-x1))] [.inl 1, .inl (-x1)] Z (zri Q))
  obtain ⟨c1, v1, v2⟩ := v
  refine z_if2 (a := 2) (t := 24) (by rfl) (by rfl) c1 (by decide) (fun h2 => ?_) (fun h2 => ?_)
  · have v := v1 h2; clear v1 v2
    show TZ d 71 24 [some (.inr 0), some (.inl x1), some (.inl (-x1))] [] Z (zri Q)
    refine z0 (op := 3) (a := 1) (b := 0) (by rfl) (by rfl) (?_ : TZ d 71 25 [some (.inr 0), some (.inl x1), some (.inl (-x1))] [.inl x1] Z (zri Q))
    exact z_reti (by rfl) (by rfl) v
  · have v := v2 h2; clear v1 v2
    show TZ d 71 8 [some (.inr 0), some (.inl x1), some (.inl (-x1))] [] Z (zri Q)
    refine z0 (op := 3) (a := 2) (b := 0) (by rfl) (by rfl) (?_ : TZ d 71 9 [some (.inr 0), some (.inl x1), some (.inl (-x1))] [.inl (-x1)] Z (zri Q))
    refine z0 (op := 1) (a := 0) (b := 6) (by rfl) (by rfl) (?_ : TZ d 71 11 [some (.inr 0), some (.inl x1), some (.inl (-x1))] [.inl 6, .inl (-x1)] Z (zri Q))
    obtain ⟨c3, v1, v2⟩ := v
    refine z_if2 (a := 4) (t := 24) (by rfl) (by rfl) c3 (by decide) (fun h4 => ?_) (fun h4 => ?_)
    · have v := v1 h4; clear v1 v2
      show TZ d 71 24 [some (.inr 0), some (.inl x1), some (.inl (-x1))] [] Z (zri Q)
      refine z0 (op := 3) (a := 1) (b := 0) (by rfl) (by rfl) (?_ : TZ d 71 25 [some (.inr 0), some (.inl x1), some (.inl (-x1))] [.inl x1] Z (zri Q))
      exact z_reti (by rfl) (by rfl) v
    · have v := v2 h4; clear v1 v2
      show TZ d 71 14 [some (.inr 0), some (.inl x1), some (.inl (-x1))] [] Z (zri Q)
      refine z0 (op := 5) (a := 0) (b := 0) (by rfl) (by rfl) (?_ : TZ d 71 15 [some (.inr 0), some (.inl x1), some (.inl (-x1))] [.inr 0] Z (zri Q))
      refine z_fr (by rfl) fr58_0 (?_ : TZ d 71 18 [some (.inr 0), some (.inl x1), some (.inl (-x1))] [.inr 43] Z (zri Q))
      refine z0 (op := 3) (a := 2) (b := 0) (by rfl) (by rfl) (?_ : TZ d 71 19 [some (.inr 0), some (.inl x1), some (.inl (-x1))] [.inl (-x1), .inr 43] Z (zri Q))
      refine z0 (op := 16) (a := 0) (b := 0) (by rfl) (by rfl) (?_ : TZ d 71 20 [some (.inr 0), some (.inl x1), some (.inl (-x1))] [.inl (-x1), .inr 43, .inl (-x1), .inr 43] Z (zri Q))
      obtain ⟨c5, v⟩ := v
      refine z_al (by rfl) ln_43 c5 (?_ : TZ d 71 21 [some (.inr 0), some (.inl x1), some (.inl (-x1))] [.inl (Z 43 (-x1)), .inl (-x1), .inr 43] Z (zri Q))
      refine z0 (op := 0) (a := 0) (b := 1) (by rfl) (by rfl) (?_ : TZ d 71 22 [some (.inr 0), some (.inl x1), some (.inl (-x1))] [.inl 1, .inl (Z 43 (-x1)), .inl (-x1), .inr 43] Z (zri Q))
      refine z0 (op := 12) (a := 0) (b := 0) (by rfl) (by rfl) (?_ : TZ d 71 23 [some (.inr 0), some (.inl x1), some (.inl (-x1))] [.inl ((Z 43 (-x1)) + 1), .inl (-x1), .inr 43] Z (zri Q))
      obtain ⟨c6, v⟩ := v
      obtain ⟨Z7, eZ7⟩ : ∃ q, q = zup Z 43 (-x1) ((Z 43 (-x1)) + 1) := ⟨_, rfl⟩
      have v := v Z7 eZ7
      refine z_as (by rfl) ln_43 c6 ?_
      show TZ d 71 24 [some (.inr 0), some (.inl x1), some (.inl (-x1))] [] (zup Z 43 (-x1) ((Z 43 (-x1)) + 1)) _
      rw [← eZ7]
      refine z0 (op := 3) (a := 1) (b := 0) (by rfl) (by rfl) (?_ : TZ d 71 25 [some (.inr 0), some (.inl x1), some (.inl (-x1))] [.inl x1] Z7 (zri Q))
      exact z_reti (by rfl) (by rfl) v
theorem w72_0 {d : Nat} {x0 x1 : Int} {Z : zM} {Q : Int → zM → Prop}
    (v : zR x0 ∧
      (x0 = 0 → Q x1 Z) ∧
      (¬ x0 = 0 → Q x0 Z)) :
    TZ d 72 0 [some (.inl x0), some (.inl x1)] [] Z (zri Q) := by
  refine z0 (op := 3) (a := 0) (b := 0) (by rfl) (by rfl) (?_ : TZ d 72 1 [some (.inl x0), some (.inl x1)] [.inl x0] Z (zri Q))
  obtain ⟨c1, v1, v2⟩ := v
  refine z_if0 (a := 0) (t := 8) (by rfl) (by rfl) c1 (fun h2 => ?_) (fun h2 => ?_)
  · have v := v1 h2; clear v1 v2
    show TZ d 72 8 [some (.inl x0), some (.inl x1)] [] Z (zri Q)
    refine z0 (op := 3) (a := 1) (b := 0) (by rfl) (by rfl) (?_ : TZ d 72 9 [some (.inl x0), some (.inl x1)] [.inl x1] Z (zri Q))
    exact z_reti (by rfl) (by rfl) v
  · have v := v2 h2; clear v1 v2
    show TZ d 72 4 [some (.inl x0), some (.inl x1)] [] Z (zri Q)
    refine z0 (op := 3) (a := 0) (b := 0) (by rfl) (by rfl) (?_ : TZ d 72 5 [some (.inl x0), some (.inl x1)] [.inl x0] Z (zri Q))
    refine z_goto (t := 9) (by rfl) (by rfl) (?_ : TZ d 72 9 [some (.inl x0), some (.inl x1)] [.inl x0] Z (zri Q))
    exact z_reti (by rfl) (by rfl) v
theorem w73_0 {d : Nat} {x0 x1 x2 : Int} {Z : zM} {Q : Int → zM → Prop}
    (v : zR x0 ∧
      zR x1 ∧
      (x1 ≤ x0 → (zR x0 ∧
          zR x2 ∧
          (x0 ≤ x2 → Q 0 Z) ∧
          (¬ x0 ≤ x2 → Q (-6) Z))) ∧
      (¬ x1 ≤ x0 → Q (-4) Z)) :
    TZ d 73 0 [some (.inl x0), some (.inl x1), some (.inl x2)] [] Z (zri Q) := by
  refine z0 (op := 3) (a := 0) (b := 0) (by rfl) (by rfl) (?_ : TZ d 73 1 [some (.inl x0), some (.inl x1), some (.inl x2)] [.inl x0] Z (zri Q))
  refine z0 (op := 3) (a := 1) (b := 0) (by rfl) (by rfl) (?_ : TZ d 73 2 [some (.inl x0), some (.inl x1), some (.inl x2)] [.inl x1, .inl x0] Z (zri Q))
  obtain ⟨c1, c2, v1, v2⟩ := v
  refine z_if2 (a := 3) (t := 8) (by rfl) (by rfl) c1 c2 (fun h3 => ?_) (fun h3 => ?_)
  · have v := v1 h3; clear v1 v2
    show TZ d 73 8 [some (.inl x0), some (.inl x1), some (.inl x2)] [] Z (zri Q)
    refine z0 (op := 3) (a := 0) (b := 0) (by rfl) (by rfl) (?_ : TZ d 73 9 [some (.inl x0), some (.inl x1), some (.inl x2)] [.inl x0] Z (zri Q))
    refine z0 (op := 3) (a := 2) (b := 0) (by rfl) (by rfl) (?_ : TZ d 73 10 [some (.inl x0), some (.inl x1), some (.inl x2)] [.inl x2, .inl x0] Z (zri Q))
    obtain ⟨c4, c5, v1, v2⟩ := v
    refine z_if2 (a := 5) (t := 18) (by rfl) (by rfl) c4 c5 (fun h6 => ?_) (fun h6 => ?_)
    · have v := v1 h6; clear v1 v2
      show TZ d 73 18 [some (.inl x0), some (.inl x1), some (.inl x2)] [] Z (zri Q)
      refine z0 (op := 0) (a := 0) (b := 0) (by rfl) (by rfl) (?_ : TZ d 73 19 [some (.inl x0), some (.inl x1), some (.inl x2)] [.inl 0] Z (zri Q))
      exact z_reti (by rfl) (by rfl) v
    · have v := v2 h6; clear v1 v2
      show TZ d 73 13 [some (.inl x0), some (.inl x1), some (.inl x2)] [] Z (zri Q)
      refine z0 (op := 1) (a := 0) (b := (-6)) (by rfl) (by rfl) (?_ : TZ d 73 15 [some (.inl x0), some (.inl x1), some (.inl x2)] [.inl (-6)] Z (zri Q))
      refine z_goto (t := 19) (by rfl) (by rfl) (?_ : TZ d 73 19 [some (.inl x0), some (.inl x1), some (.inl x2)] [.inl (-6)] Z (zri Q))
      exact z_reti (by rfl) (by rfl) v
  · have v := v2 h3; clear v1 v2
    show TZ d 73 5 [some (.inl x0), some (.inl x1), some (.inl x2)] [] Z (zri Q)
    refine z0 (op := 1) (a := 0) (b := (-4)) (by rfl) (by rfl) (?_ : TZ d 73 7 [some (.inl x0), some (.inl x1), some (.inl x2)] [.inl (-4)] Z (zri Q))
    exact z_reti (by rfl) (by rfl) v
theorem w74_0 {d : Nat} {x0 x1 : Int} {Z : zM} {Q : Int → zM → Prop}
    (v : zR x0 ∧
      zR x1 ∧
      (x1 ≤ x0 → Q 0 Z) ∧
      (¬ x1 ≤ x0 → Q (-4) Z)) :
    TZ d 74 0 [some (.inl x0), some (.inl x1)] [] Z (zri Q) := by
  refine z0 (op := 3) (a := 0) (b := 0) (by rfl) (by rfl) (?_ : TZ d 74 1 [some (.inl x0), some (.inl x1)] [.inl x0] Z (zri Q))
  refine z0 (op := 3) (a := 1) (b := 0) (by rfl) (by rfl) (?_ : TZ d 74 2 [some (.inl x0), some (.inl x1)] [.inl x1, .inl x0] Z (zri Q))
  obtain ⟨c1, c2, v1, v2⟩ := v
  refine z_if2 (a := 3) (t := 10) (by rfl) (by rfl) c1 c2 (fun h3 => ?_) (fun h3 => ?_)
  · have v := v1 h3; clear v1 v2
    show TZ d 74 10 [some (.inl x0), some (.inl x1)] [] Z (zri Q)
    refine z0 (op := 0) (a := 0) (b := 0) (by rfl) (by rfl) (?_ : TZ d 74 11 [some (.inl x0), some (.inl x1)] [.inl 0] Z (zri Q))
    exact z_reti (by rfl) (by rfl) v
  · have v := v2 h3; clear v1 v2
    show TZ d 74 5 [some (.inl x0), some (.inl x1)] [] Z (zri Q)
    refine z0 (op := 1) (a := 0) (b := (-4)) (by rfl) (by rfl) (?_ : TZ d 74 7 [some (.inl x0), some (.inl x1)] [.inl (-4)] Z (zri Q))
    refine z_goto (t := 11) (by rfl) (by rfl) (?_ : TZ d 74 11 [some (.inl x0), some (.inl x1)] [.inl (-4)] Z (zri Q))
    exact z_reti (by rfl) (by rfl) v
