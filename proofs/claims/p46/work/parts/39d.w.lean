/-! what stretches of code need of integers -/
theorem w273_0 {d : Nat} {x1 : Int} {Z : zM} {Q : Int → zM → Prop}
    (v : TI d 155 [.inl x1, .inl 11, .inl 16] Z (fun r2 Z1 =>
      zR r2 ∧
        (r2 = 0 → (zR x1 ∧
            (x1 = 0 → Q (Z1 100 5) Z1) ∧
            (x1 = 1 → Q (Z1 100 6) Z1) ∧
            (x1 = 2 → Q (Z1 100 7) Z1) ∧
            (x1 = 3 → TI d 161 [.inr 100] Z1 (fun r7 Z6 =>
                Q r7 Z6)) ∧
            (x1 = 4 → TI d 162 [.inr 100] Z1 (fun r9 Z8 =>
                Q r9 Z8)) ∧
            (x1 = 5 → Q (Z1 100 12) Z1) ∧
            (x1 = 6 → Q (Z1 100 26) Z1) ∧
            (x1 = 7 → Q (Z1 100 19) Z1) ∧
            ((x1 ≠ 0 ∧ x1 ≠ 1 ∧ x1 ≠ 2 ∧ x1 ≠ 3 ∧ x1 ≠ 4 ∧ x1 ≠ 5 ∧ x1 ≠ 6 ∧ x1 ≠ 7) → Q (-9) Z1))) ∧
        (¬ r2 = 0 → ((0 ≤ (x1 - 10) ∧ (x1 - 10) < 7) ∧ Q (Z1 101 (x1 - 10)) Z1)))) :
    TZ (d + 1) 273 0 [some (.inr 100), some (.inl x1)] [] Z (zri Q) := by
  refine z0 (op := 3) (a := 1) (b := 0) (by rfl) (by rfl) (?_ : TZ (d + 1) 273 1 [some (.inr 100), some (.inl x1)] [.inl x1] Z (zri Q))
  refine z0 (op := 1) (a := 0) (b := 11) (by rfl) (by rfl) (?_ : TZ (d + 1) 273 3 [some (.inr 100), some (.inl x1)] [.inl 11, .inl x1] Z (zri Q))
  refine z0 (op := 1) (a := 0) (b := 16) (by rfl) (by rfl) (?_ : TZ (d + 1) 273 5 [some (.inr 100), some (.inl x1)] [.inl 16, .inl 11, .inl x1] Z (zri Q))
  refine z_si (by rfl) (by rfl) (TI.mono v fun r2 Z1 v => ?_)
  show TZ (d + 1) 273 8 [some (.inr 100), some (.inl x1)] [.inl r2] Z1 (zri Q)
  obtain ⟨c3, v1, v2⟩ := v
  refine z_if0 (a := 0) (t := 21) (by rfl) (by rfl) c3 (fun h4 => ?_) (fun h4 => ?_)
  · have v := v1 h4; clear v1 v2
    show TZ (d + 1) 273 21 [some (.inr 100), some (.inl x1)] [] Z1 (zri Q)
    refine z0 (op := 3) (a := 1) (b := 0) (by rfl) (by rfl) (?_ : TZ (d + 1) 273 22 [some (.inr 100), some (.inl x1)] [.inl x1] Z1 (zri Q))
    obtain ⟨c5, v⟩ := v
    obtain ⟨w0, w1, w2, w3, w4, w5, w6, w7, w8⟩ := v
    have hd : x1 ≠ 0 ∧ x1 ≠ 1 ∧ x1 ≠ 2 ∧ x1 ≠ 3 ∧ x1 ≠ 4 ∧ x1 ≠ 5 ∧ x1 ≠ 6 ∧ x1 ≠ 7 → TZ (d + 1) 273 108 [some (.inr 100), some (.inl x1)] [] Z1 (zri Q) := fun hh => by
      have v := w8 hh; clear w0 w1 w2 w3 w4 w5 w6 w7 w8
      refine z0 (op := 1) (a := 0) (b := (-9)) (by rfl) (by rfl) (?_ : TZ (d + 1) 273 110 [some (.inr 100), some (.inl x1)] [.inl (-9)] Z1 (zri Q))
      exact z_reti (by rfl) (by rfl) v
    have hc0 : x1 = 0 → TZ (d + 1) 273 68 [some (.inr 100), some (.inl x1)] [] Z1 (zri Q) := fun hh => by
      have v := w0 hh; clear w0 w1 w2 w3 w4 w5 w6 w7 w8 hd
      refine z0 (op := 5) (a := 0) (b := 0) (by rfl) (by rfl) (?_ : TZ (d + 1) 273 69 [some (.inr 100), some (.inl x1)] [.inr 100] Z1 (zri Q))
      refine z_fi (by rfl) fi111_100 (?_ : TZ (d + 1) 273 72 [some (.inr 100), some (.inl x1)] [.inl (Z1 100 5)] Z1 (zri Q))
      exact z_reti (by rfl) (by rfl) v
    have hc1 : x1 = 1 → TZ (d + 1) 273 73 [some (.inr 100), some (.inl x1)] [] Z1 (zri Q) := fun hh => by
      have v := w1 hh; clear w0 w1 w2 w3 w4 w5 w6 w7 w8 hd hc0
      refine z0 (op := 5) (a := 0) (b := 0) (by rfl) (by rfl) (?_ : TZ (d + 1) 273 74 [some (.inr 100), some (.inl x1)] [.inr 100] Z1 (zri Q))
      refine z_fi (by rfl) fi110_100 (?_ : TZ (d + 1) 273 77 [some (.inr 100), some (.inl x1)] [.inl (Z1 100 6)] Z1 (zri Q))
      exact z_reti (by rfl) (by rfl) v
    have hc2 : x1 = 2 → TZ (d + 1) 273 78 [some (.inr 100), some (.inl x1)] [] Z1 (zri Q) := fun hh => by
      have v := w2 hh; clear w0 w1 w2 w3 w4 w5 w6 w7 w8 hd hc0 hc1
      refine z0 (op := 5) (a := 0) (b := 0) (by rfl) (by rfl) (?_ : TZ (d + 1) 273 79 [some (.inr 100), some (.inl x1)] [.inr 100] Z1 (zri Q))
      refine z_fi (by rfl) fi112_100 (?_ : TZ (d + 1) 273 82 [some (.inr 100), some (.inl x1)] [.inl (Z1 100 7)] Z1 (zri Q))
      exact z_reti (by rfl) (by rfl) v
    have hc3 : x1 = 3 → TZ (d + 1) 273 83 [some (.inr 100), some (.inl x1)] [] Z1 (zri Q) := fun hh => by
      have v := w3 hh; clear w0 w1 w2 w3 w4 w5 w6 w7 w8 hd hc0 hc1 hc2
      refine z0 (op := 5) (a := 0) (b := 0) (by rfl) (by rfl) (?_ : TZ (d + 1) 273 84 [some (.inr 100), some (.inl x1)] [.inr 100] Z1 (zri Q))
      refine z_vi (by rfl) (by rfl) cl_100 (TI.mono v fun r7 Z6 v => ?_)
      show TZ (d + 1) 273 87 [some (.inr 100), some (.inl x1)] [.inl r7] Z6 (zri Q)
      exact z_reti (by rfl) (by rfl) v
    have hc4 : x1 = 4 → TZ (d + 1) 273 88 [some (.inr 100), some (.inl x1)] [] Z1 (zri Q) := fun hh => by
      have v := w4 hh; clear w0 w1 w2 w3 w4 w5 w6 w7 w8 hd hc0 hc1 hc2 hc3
      refine z0 (op := 5) (a := 0) (b := 0) (by rfl) (by rfl) (?_ : TZ (d + 1) 273 89 [some (.inr 100), some (.inl x1)] [.inr 100] Z1 (zri Q))
      refine z_vi (by rfl) (by rfl) cl_100 (TI.mono v fun r9 Z8 v => ?_)
      show TZ (d + 1) 273 92 [some (.inr 100), some (.inl x1)] [.inl r9] Z8 (zri Q)
      exact z_reti (by rfl) (by rfl) v
    have hc5 : x1 = 5 → TZ (d + 1) 273 93 [some (.inr 100), some (.inl x1)] [] Z1 (zri Q) := fun hh => by
      have v := w5 hh; clear w0 w1 w2 w3 w4 w5 w6 w7 w8 hd hc0 hc1 hc2 hc3 hc4
      refine z0 (op := 5) (a := 0) (b := 0) (by rfl) (by rfl) (?_ : TZ (d + 1) 273 94 [some (.inr 100), some (.inl x1)] [.inr 100] Z1 (zri Q))
      refine z_fi (by rfl) fi113_100 (?_ : TZ (d + 1) 273 97 [some (.inr 100), some (.inl x1)] [.inl (Z1 100 12)] Z1 (zri Q))
      exact z_reti (by rfl) (by rfl) v
    have hc6 : x1 = 6 → TZ (d + 1) 273 98 [some (.inr 100), some (.inl x1)] [] Z1 (zri Q) := fun hh => by
      have v := w6 hh; clear w0 w1 w2 w3 w4 w5 w6 w7 w8 hd hc0 hc1 hc2 hc3 hc4 hc5
      refine z0 (op := 5) (a := 0) (b := 0) (by rfl) (by rfl) (?_ : TZ (d + 1) 273 99 [some (.inr 100), some (.inl x1)] [.inr 100] Z1 (zri Q))
      refine z_fi (by rfl) fi120_100 (?_ : TZ (d + 1) 273 102 [some (.inr 100), some (.inl x1)] [.inl (Z1 100 26)] Z1 (zri Q))
      exact z_reti (by rfl) (by rfl) v
    have hc7 : x1 = 7 → TZ (d + 1) 273 103 [some (.inr 100), some (.inl x1)] [] Z1 (zri Q) := fun hh => by
      have v := w7 hh; clear w0 w1 w2 w3 w4 w5 w6 w7 w8 hd hc0 hc1 hc2 hc3 hc4 hc5 hc6
      refine z0 (op := 5) (a := 0) (b := 0) (by rfl) (by rfl) (?_ : TZ (d + 1) 273 104 [some (.inr 100), some (.inl x1)] [.inr 100] Z1 (zri Q))
      refine z_fi (by rfl) fi116_100 (?_ : TZ (d + 1) 273 107 [some (.inr 100), some (.inl x1)] [.inl (Z1 100 19)] Z1 (zri Q))
      exact z_reti (by rfl) (by rfl) v
    refine z_tsw (t := 108) (by rfl) (by rfl) (by decide) (by rfl) c5 (fun n o hn hx => ?_) (fun hx => hd (by omega))
    match n, hn with
    | 0, hn => have e := Option.some.inj hn; subst e; exact ⟨68, by rfl, hc0 (by omega)⟩
    | 1, hn => have e := Option.some.inj hn; subst e; exact ⟨73, by rfl, hc1 (by omega)⟩
    | 2, hn => have e := Option.some.inj hn; subst e; exact ⟨78, by rfl, hc2 (by omega)⟩
    | 3, hn => have e := Option.some.inj hn; subst e; exact ⟨83, by rfl, hc3 (by omega)⟩
    | 4, hn => have e := Option.some.inj hn; subst e; exact ⟨88, by rfl, hc4 (by omega)⟩
    | 5, hn => have e := Option.some.inj hn; subst e; exact ⟨93, by rfl, hc5 (by omega)⟩
    | 6, hn => have e := Option.some.inj hn; subst e; exact ⟨98, by rfl, hc6 (by omega)⟩
    | 7, hn => have e := Option.some.inj hn; subst e; exact ⟨103, by rfl, hc7 (by omega)⟩
    | n + 8, hn => exact absurd hn (by simp)
  · have v := v2 h4; clear v1 v2
    show TZ (d + 1) 273 11 [some (.inr 100), some (.inl x1)] [] Z1 (zri Q)
    refine z0 (op := 5) (a := 0) (b := 0) (by rfl) (by rfl) (?_ : TZ (d + 1) 273 12 [some (.inr 100), some (.inl x1)] [.inr 100] Z1 (zri Q))
    refine z_fr (by rfl) fr88_100 (?_ : TZ (d + 1) 273 15 [some (.inr 100), some (.inl x1)] [.inr 101] Z1 (zri Q))
    refine z0 (op := 3) (a := 1) (b := 0) (by rfl) (by rfl) (?_ : TZ (d + 1) 273 16 [some (.inr 100), some (.inl x1)] [.inl x1, .inr 101] Z1 (zri Q))
    refine z0 (op := 1) (a := 0) (b := 10) (by rfl) (by rfl) (?_ : TZ (d + 1) 273 18 [some (.inr 100), some (.inl x1)] [.inl 10, .inl x1, .inr 101] Z1 (zri Q))
    refine z0 (op := 12) (a := 1) (b := 0) (by rfl) (by rfl) (?_ : TZ (d + 1) 273 19 [some (.inr 100), some (.inl x1)] [.inl (x1 - 10), .inr 101] Z1 (zri Q))
    obtain ⟨c10, v⟩ := v
    refine z_al (by rfl) ln_101 c10 (?_ : TZ (d + 1) 273 20 [some (.inr 100), some (.inl x1)] [.inl (Z1 101 (x1 - 10))] Z1 (zri Q))
    exact z_reti (by rfl) (by rfl) v
