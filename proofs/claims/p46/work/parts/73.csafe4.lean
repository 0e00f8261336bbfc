/-! THE CLASS's looks, fourth part -/
def NV (Z1 : zM) (W : Int) : Prop := Z1 19 6 = W ∧ (5 ≤ W ∧ W ≤ 6) ∧ ∀ w, 0 ≤ w → w < 6 → (0 ≤ Z1 (19 + 5) w ∧ Z1 (19 + 5) w ≤ 11) ∧ (0 ≤ Z1 (19 + 4) w ∧ Z1 (19 + 4) w ≤ 8)
theorem shift_id {Z Z3 Z6 Z8 Z9 : zM} {k : Nat} {x y : Int} (h : x ≠ y) (z3 : Z3 = zup Z k x (Z k x - 1)) (z6 : Z6 = zup Z3 k y (Z3 k y + 1)) (z8 : Z8 = zup Z6 k y (Z6 k y - 1)) (z9 : Z9 = zup Z8 k x (Z8 k x + 1)) : Z9 = Z := by
  subst z3 z6 z8 z9
  funext q p
  by_cases e : q = k
  · subst e
    by_cases e1 : p = x
    · subst e1
      rw [zup_same, zup_place _ _ _ _ h, zup_place _ _ _ _ h, zup_same]; omega
    · rw [zup_place _ _ _ _ e1]
      by_cases e2 : p = y
      · subst e2
        rw [zup_same, zup_same, zup_place _ _ _ _ e1]; omega
      · rw [zup_place _ _ _ _ e2, zup_place _ _ _ _ e2, zup_place _ _ _ _ e1]
  · rw [zup_cell _ _ _ _ e, zup_cell _ _ _ _ e, zup_cell _ _ _ _ e, zup_cell _ _ _ _ e]
theorem mulb {x y a b : Int} (h1 : 0 ≤ x) (h2 : x ≤ a) (h3 : 0 ≤ y) (h4 : y ≤ b) : 0 ≤ x * y ∧ x * y ≤ a * b :=
  ⟨Int.mul_nonneg h1 h3, Int.mul_le_mul h2 h4 h3 (by omega)⟩
theorem zbit1 (x : Int) : 0 ≤ zbit 3 x 1 ∧ zbit 3 x 1 ≤ 1 := by
  have e : zbit 3 x 1 = (Int32.ofInt x &&& Int32.ofInt 1).toInt := rfl
  have o : (Int32.ofInt 1).toInt = 1 := by decide
  have := aand_nn (x := Int32.ofInt x) (show 0 ≤ (Int32.ofInt 1).toInt by decide)
  rw [e]; omega
section
variable {d : Nat} {Z Z1 : zM} {a : gX} {B : Int}
theorem NV_shows {W : Int} {Q : Int → zM → Prop} (v : NV Z1 W) (hQ : ∀ r, 0 ≤ r → r < 12 → Q r Z1) : TI d 22 [.inr 19] Z1 Q := by
  obtain ⟨e6, hW, b⟩ := v
  refine w22_0 zF19 ?_
  suffices H : ∀ (f : Nat) (x1 x2 : Int), W - x2 < f → 0 ≤ x2 → x2 ≤ 6 → 0 ≤ x1 → x1 ≤ 88 * x2 → TZ d 22 4 [some (.inr 19), some (.inl x1), some (.inl x2)] [] Z1 (zri Q) from H 7 0 0 (by omega) (by decide) (by decide) (by decide) (by decide)
  intro f
  induction f with
  | zero =>
    intro x1 x2 h1 h2 h3 h4 h5
    exact w22_4 zF19 ⟨by unfold zR; omega, by unfold zR; omega, fun _ => ⟨by unfold zR; omega, by
      have e := Int.tmod_eq_emod_of_nonneg (b := 12) h4
      exact hQ _ (by omega) (by omega)⟩, fun y => absurd (show Z1 19 6 ≤ x2 by omega) y⟩
  | succ f ih =>
    intro x1 x2 h1 h2 h3 h4 h5
    refine w22_4 zF19 ⟨by unfold zR; omega, by unfold zR; omega, fun _ => ⟨by unfold zR; omega, ?_⟩, fun y => ⟨by omega, by omega, ?_⟩⟩
    · have e := Int.tmod_eq_emod_of_nonneg (b := 12) h4
      exact hQ _ (by omega) (by omega)
    · have c := b x2 h2 (by omega)
      have m := mulb c.1.1 c.1.2 c.2.1 c.2.2
      exact ih _ _ (by omega) (by omega) (by omega) (by omega) (by omega)
theorem NV_room {W w : Int} {Q : Int → zM → Prop} (v : NV Z1 W) (hw : zR w) (h1 : 0 ≤ w → w < W → Z1 (19 + 4) w < 4 → Q 1 Z1) (h0 : Q 0 Z1) : TI d 17 [.inr 19, .inl w] Z1 Q := by
  obtain ⟨e6, hW, b⟩ := v
  refine w17_0 zF19 ⟨hw, fun _ => h0, fun p => ⟨hw, by unfold zR; omega, fun _ => h0, fun q => ⟨by omega, ?_, fun _ => h0, fun r => h1 (by omega) (by omega) (by omega)⟩⟩⟩
  have c := b w (by omega) (by omega)
  unfold zR; omega
theorem S_moves : ∀ (f : Nat) {Z1 : zM} {x1 x2 W : Int} {Q : Int → zM → Prop}, NV Z1 W → x2 ≤ f → zR x1 → zR x2 → (∀ r, 0 ≤ r → r ≤ 1000000 → Q r Z1) → TI (d + f + 1) 134 [.inr 19, .inl x1, .inl x2] Z1 Q
  | 0, Z1, x1, x2, W, Q, v, hf, h1, h2, hQ => by
    exact w134_0 zF19 (NV_shows v fun r r1 r2 => ⟨by unfold zR; omega, h1, fun _ => ⟨h2, fun y => absurd y (by omega), fun _ => hQ _ (by decide) (by decide)⟩, fun _ => hQ _ (by decide) (by decide)⟩)
  | f + 1, Z1, x1, x2, W, Q, v, hf, h1, h2, hQ => by
    refine w134_0 zF19 (NV_shows v fun r r1 r2 => ⟨by unfold zR; omega, h1, fun _ => ⟨h2, fun h0 => ?_, fun _ => hQ _ (by decide) (by decide)⟩, fun _ => hQ _ (by decide) (by decide)⟩)
    obtain ⟨e6, hW, b⟩ := id v
    suffices H : ∀ (g : Nat) (x3 x4 : Int) (o5 : Option zV), W - x4 < g → 0 ≤ x4 → x4 ≤ 6 → 0 ≤ x3 → x3 ≤ 1000000 → TZ (d + f + 1 + 1) 134 25 [some (.inr 19), some (.inl x1), some (.inl x2), some (.inl x3), some (.inl x4), o5] [] Z1 (zri Q) from H 7 1000000 0 none (by omega) (by decide) (by decide) (by decide) (by decide)
    intro g
    induction g with
    | zero => intro x3 x4 o5 y1 y2 y3 y4 y5; exact w134_25 zF19 ⟨by unfold zR; omega, by unfold zR; omega, fun _ => ⟨by unfold zR; omega, hQ _ (by omega) (by omega)⟩, fun y => absurd (show Z1 19 6 ≤ x4 by omega) y⟩
    | succ g ih =>
      intro x3 x4 o5 y1 y2 y3 y4 y5
      refine w134_25 zF19 ⟨by unfold zR; omega, by unfold zR; omega, fun _ => ⟨by unfold zR; omega, hQ _ (by omega) (by omega)⟩, fun y => ?_⟩
      have c4 := b x4 y2 (by omega)
      have step : ∀ (m : Nat) (x3 x5 : Int), m ≤ 2 → x5 = x4 + 3 - 2 * (m : Int) → 0 ≤ x3 → x3 ≤ 1000000 → TZ (d + f + 1 + 1) 134 40 [some (.inr 19), some (.inl x1), some (.inl x2), some (.inl x3), some (.inl x4), some (.inl x5)] [] Z1 (zri Q) := by
        intro m
        induction m with
        | zero => intro x3 x5 z1 z2 z3 z4; exact w134_40 zF19 ⟨by unfold zR; omega, by unfold zR; omega, fun _ => ih _ _ _ (by omega) (by omega) (by omega) z3 z4, fun z => absurd (show x4 + 1 < x5 by omega) z⟩
        | succ m ihm =>
          intro x3 x5 z1 z2 z3 z4
          refine w134_40 zF19 ⟨by unfold zR; omega, by unfold zR; omega, fun _ => ih _ _ _ (by omega) (by omega) (by omega) z3 z4, fun z => ⟨by omega, by unfold zR; omega, fun _ => ihm _ _ (by omega) (by omega) z3 z4, fun p => NV_room v (by unfold zR; omega) (fun q1 q2 q3 => ⟨by decide, fun t => absurd t (by decide), fun _ => ?_⟩) ⟨by decide, fun _ => ihm _ _ (by omega) (by omega) z3 z4, fun t => absurd rfl t⟩⟩⟩
          have ne : x4 ≠ x5 := by omega
          refine w19_0 zF19 ⟨by omega, by omega, fun Z3 e3 => ⟨by omega, by omega, fun Z6 e6' => ?_⟩⟩
          have v6 : NV Z6 W := by
            refine ⟨?_, hW, fun w w1 w2 => ?_⟩
            · rw [e6', e3, zup_cell _ _ _ _ (by decide), zup_cell _ _ _ _ (by decide)]; exact e6
            · have c := b w w1 w2
              have c5 := b x5 q1 (by omega)
              have k1 : Z6 (19 + 5) w = Z1 (19 + 5) w := by rw [e6', e3, zup_cell _ _ _ _ (by decide), zup_cell _ _ _ _ (by decide)]
              rw [k1]
              refine ⟨c.1, ?_⟩
              rw [e6', e3]
              by_cases w5 : w = x5
              · subst w5; rw [zup_same, zup_place _ _ _ _ (Ne.symm ne)]; omega
              · rw [zup_place _ _ _ _ w5]
                by_cases w4 : w = x4
                · subst w4; rw [zup_same]; omega
                · rw [zup_place _ _ _ _ w4]; exact c.2
          refine S_moves f v6 (by omega) h1 (by unfold zR at *; omega) fun r r1 r2 => ⟨by unfold zR; omega, by unfold zR; omega, w19_0 zF19 ⟨by omega, by omega, fun Z8 e8 => ⟨by omega, by omega, fun Z9 e9 => ?_⟩⟩⟩
          rw [shift_id ne e3 e6' e8 e9]
          exact ihm _ _ (by omega) (by omega) (by omega) (by omega)
      exact step 2 x3 (x4 - 1) (by omega) (by omega) y4 y5
theorem MS.NV (m : MS Z Z1 a B) : NV Z1 a.1.2.1 := by
  obtain ⟨f, ⟨n, W, h, K, F, P, T⟩, h1, h2, h3, h4, h5⟩ := m
  have h4 : W = a.1.2.1 := h4
  have hn : 0 ≤ n ∧ n ≤ 8 := h2.1
  have hW : 5 ≤ W ∧ W ≤ 6 := h2.2.1
  refine ⟨by rw [← h4]; exact h1.2.1, by omega, fun w w1 w2 => ?_⟩
  have e := h1.2.2.2.2 w w1 w2
  have e1 : Z1 (19 + 5) w = T w := e.1
  have e2 : Z1 (19 + 4) w = cnt P w n.toNat := e.2
  have b : 0 ≤ T w ∧ T w ≤ 11 := h2.2.2.2.2 w w1 w2
  have c := cnt_b P w n.toNat
  rw [e1, e2]; omega
theorem T_near {x1 : Int} (A : CX Z a) (wx : WX a) (h1 : zR x1) : TI (d + 6) 133 [.inr 0, .inl x1] Z (QC Z a (gout x1 0 11)) := by
  refine w133_0 (C_outside h1 (by decide) (by decide) ⟨zR9 gb3, fun c => ?_, fun c => C_refuse (by have := @gb3 x1 0 11; omega) (qno A c gb3)⟩)
  exact S_think A wx (frs.refl _ _) fun Z' m _ => ⟨rfl, S_moves (d := d + 1) 3 m.NV (by decide) h1 (by decide) fun r r1 r2 => ⟨by unfold zR; omega, fun _ => qok A c m.1, fun _ => qok A c m.1⟩⟩
theorem S_tally : ∀ (f : Nat) {Z1 : zM} {x1 x2 x3 : Int} {Q : zM → Prop}, CX Z a → WX a → frs SQ Z Z1 → a.1.2.1 - x1 ≤ f → 0 ≤ x1 → x1 ≤ 6 → 0 ≤ x2 → x2 ≤ 8 → 0 ≤ x3 → x3 ≤ 44 * x1 → (∀ Z', frs SQ Z Z' → Q Z') → TV (d + f + 1) 136 [.inr 1, .inl x1, .inl x2, .inl x3, .inr 44] Z1 Q := by
  intro f
  induction f with
  | zero =>
    intro Z1 x1 x2 x3 Q A wx f1 h1 h2 h3 h4 h5 h6 h7 hQ
    have hW : 5 ≤ a.1.2.1 ∧ a.1.2.1 ≤ 6 := wx.1.1.2.1
    have e6 := (now6 A f1).1
    exact w136_0 ⟨by unfold zR; omega, by unfold zR; omega, fun y => absurd y (by omega), fun _ => ⟨by unfold zR; omega, fun _ => hQ Z1 f1, fun _ => C_fmod (by unfold zR; omega) ⟨by omega, by omega, fun Z2 z2 => hQ Z2 fun q hq => by subst z2; funext p; rw [zup_cell _ _ _ _ (SQ44 hq), f1 q hq]⟩⟩⟩
  | succ f ih =>
    intro Z1 x1 x2 x3 Q A wx f1 h1 h2 h3 h4 h5 h6 h7 hQ
    have hW : 5 ≤ a.1.2.1 ∧ a.1.2.1 ≤ 6 := wx.1.1.2.1
    have e6 := (now6 A f1).1
    refine w136_0 ⟨by unfold zR; omega, by unfold zR; omega, fun y => ?_, fun _ => ⟨by unfold zR; omega, fun _ => hQ Z1 f1, fun _ => C_fmod (by unfold zR; omega) ⟨by omega, by omega, fun Z2 z2 => hQ Z2 fun q hq => by subst z2; funext p; rw [zup_cell _ _ _ _ (SQ44 hq), f1 q hq]⟩⟩⟩
    suffices H : ∀ (g : Nat) (x5 : Int) (Z1 : zM), 4 - x5 < g → 0 ≤ x5 → x5 ≤ 5 → frs SQ Z Z1 → TZ (d + f + 1 + 1) 136 29 [some (.inr 1), some (.inl x1), some (.inl x2), some (.inl x3), some (.inr 44), some (.inl x5)] [] Z1 (zrv Q) from H 5 0 Z1 (by decide) (by decide) (by decide) f1
    intro g
    induction g with
    | zero => intro x5 Z1 y1 y2 y3 f1; exact w136_29 ⟨by unfold zR; omega, by unfold zR; omega, by unfold zR; omega, fun _ => hQ Z1 f1, fun z => absurd (show min x2 4 < x5 by omega) z⟩
    | succ g ihg =>
      intro x5 Z1 y1 y2 y3 f1
      refine w136_29 ⟨by unfold zR; omega, by unfold zR; omega, by unfold zR; omega, fun _ => hQ Z1 f1, fun z => ⟨by omega, ?_⟩⟩
      have t := (nowT A wx f1 (w := x1) (by omega)).1
      have m := mulb (x := x5) (y := Z1 6 x1) (a := 4) (b := 11) y2 (by omega) t.1 t.2
      exact ih A wx f1 (by omega) (by omega) (by omega) (by omega) (by omega) (by omega) (by omega) fun Z' f' => ihg _ Z' (by omega) (by omega) (by omega) f'
theorem nq_frs {S : Nat → Bool} (f : frs SQ Z Z1) (h : ∀ q, S q = true → SQ q) : frs SQ Z (nq S Z1) := fun q hq => by
  rw [← f q hq]
  funext p
  unfold nq
  rw [if_neg fun e => hq (h q e)]
theorem nq_r {S : Nat → Bool} {q : Nat} (h : S q = true) (p : Int) : zR (nq S Z1 q p) := by
  unfold nq
  rw [if_pos h]
  exact znm_r _
def N44 (q : Nat) : Bool := q == 44
def N45 (q : Nat) : Bool := q == 45
theorem N44s {q : Nat} (h : N44 q = true) : SQ q := by
  have : q = 44 := by simpa [N44] using h
  unfold SQ; omega
theorem N45s {q : Nat} (h : N45 q = true) : SQ q := by
  have : q = 45 := by simpa [N45] using h
  unfold SQ; omega
theorem T_read {x1 : Int} (A : CX Z a) (wx : WX a) (h1 : zR x1) : TI (d + 8) 135 [.inr 0, .inl x1] Z (QC Z a (gunk x1 1)) := by
  have hW : 5 ≤ a.1.2.1 ∧ a.1.2.1 ≤ 6 := wx.1.1.2.1
  have hn : 0 ≤ a.1.1 ∧ a.1.1 ≤ 8 := wx.1.1.1
  refine w135_0 (C_unknown h1 (by decide) ⟨zR9 gb2, fun c => ?_, fun c => C_refuse (by have := @gb2 x1 1; omega) (qno A c gb2)⟩)
  refine S_fill44 fun Z2 f2 => ?_
  have g2 : frs SQ Z Z2 := fun q hq => f2 q (SQ44 hq)
  rw [(now6 A g2).2.1]
  refine S_tally (d := d) 6 A wx g2 (by omega) (by decide) (by decide) hn.1 hn.2 (by decide) (by decide) fun Z3 f3 => ⟨h1, fun _ => ?_, fun _ => S_shows1 A wx f3 fun r r1 r2 => ⟨by omega, qok A c f3⟩⟩
  refine TZ.nq N44 ?_
  have f4 := nq_frs f3 (S := N44) fun q => N44s
  have hz : ∀ j, zR (nq N44 Z3 44 j) := fun j => nq_r rfl j
  generalize nq N44 Z3 = Z4 at f4 hz
  suffices H : ∀ (f : Nat) (x3 x4 : Int), 12 - x4 < f → 0 ≤ x4 → x4 ≤ 12 → TZ (d + 7 + 1) 135 66 [some (.inr 0), some (.inl x1), some (.inl (gunk x1 1)), some (.inl x3), some (.inl x4)] [] Z4 (zri (QC Z a (gunk x1 1))) from H 13 0 0 (by decide) (by decide) (by decide)
  intro f
  induction f with
  | zero => intro x3 x4 y1 y2 y3; exact w135_66 ⟨by unfold zR; omega, fun _ => qok A c f4, fun y => absurd (show 12 ≤ x4 by omega) y⟩
  | succ f ih => intro x3 x4 y1 y2 y3; exact w135_66 ⟨by unfold zR; omega, fun _ => qok A c f4, fun y => ⟨by omega, hz _, fun _ => ih _ _ (by omega) (by omega) (by omega), fun _ => ih _ _ (by omega) (by omega) (by omega)⟩⟩
theorem S_138 {Q : zM → Prop} (m : MS Z Z1 a B) (hB : B ≤ 1000000) (hQ : ∀ Z', MS Z Z' a B → Q Z') : TV (d + 2) 138 [.inr 0, .inr 19] Z1 Q := by
  refine w138_0 zF19 (S_shows m fun r r1 r2 => ?_)
  have hW := m.NV.2.1
  suffices H : ∀ (f : Nat) (x3 : Int) (o4 o5 : Option zV) (Z1 : zM), 6 - x3 < f → 0 ≤ x3 → x3 ≤ 6 → MS Z Z1 a B → TZ (d + 2) 138 7 [some (.inr 0), some (.inr 19), some (.inl r), some (.inl x3), o4, o5] [] Z1 (zrv Q) from H 7 0 none none Z1 (by decide) (by decide) (by decide) m
  intro f
  induction f with
  | zero => intro x3 o4 o5 Z1 y1 y2 y3 m1; omega
  | succ f ih =>
    intro x3 o4 o5 Z1 y1 y2 y3 m1
    have e6 := m1.NV.1
    refine w138_7 zF19 ⟨by unfold zR; omega, by unfold zR; omega, fun _ => hQ Z1 m1, fun y => ?_⟩
    suffices H : ∀ (g : Nat) (x4 : Int) (o5 : Option zV) (Z1 : zM), 12 - x4 < g → 0 ≤ x4 → x4 ≤ 12 → MS Z Z1 a B → TZ (d + 2) 138 18 [some (.inr 0), some (.inr 19), some (.inl r), some (.inl x3), some (.inl x4), o5] [] Z1 (zrv Q) from H 13 0 o5 Z1 (by decide) (by decide) (by decide) m1
    intro g
    induction g with
    | zero => intro x4 o5 Z1 z1 z2 z3 m1; exact w138_18 zF19 ⟨by unfold zR; omega, fun _ => ih _ _ _ Z1 (by omega) (by omega) (by omega) m1, fun z => absurd (show 12 ≤ x4 by omega) z⟩
    | succ g ihg =>
      intro x4 o5 Z1 z1 z2 z3 m1
      refine w138_18 zF19 ⟨by unfold zR; omega, fun _ => ih _ _ _ Z1 (by omega) (by omega) (by omega) m1, fun z => ⟨by omega, by omega, by omega, ?_⟩⟩
      have c := m1.NV.2.2 x3 y2 (by omega)
      have hh : 0 ≤ Z1 19 7 ∧ Z1 19 7 ≤ 1000000 := by
        obtain ⟨f, s, q1, q2, _, _, q5⟩ := m1
        have e : Z1 19 7 = s.2.2.1 := q1.2.2.1
        have := q2.2.2.1
        rw [e]; omega
      have p := mulb (x := x4 + 11 - Z1 (19 + 5) x3) (y := Z1 (19 + 4) x3) (a := 22) (b := 8) (by omega) (by omega) c.2.1 c.2.2
      have e : (x4 - Z1 (19 + 5) x3) * Z1 (19 + 4) x3 = (x4 + 11 - Z1 (19 + 5) x3) * Z1 (19 + 4) x3 - 11 * Z1 (19 + 4) x3 := by
        rw [← Int.sub_mul]; congr 1; omega
      exact C_apart (by rw [e]; unfold zR; omega) ⟨by omega, fun Z2 z2 => ihg _ _ Z2 (by omega) (by omega) (by omega) (m1.scr fun q hq => by subst z2; funext p; exact zup_cell _ _ _ _ (by rcases hq with h | h; omega; exact SQ45 h))⟩
theorem T_bestWeight {x1 : Int} (A : CX Z a) (wx : WX a) (h1 : zR x1) : TI (d + 5) 137 [.inr 0, .inl x1] Z (QC Z a (gout x1 1 20)) := by
  have hW : 5 ≤ a.1.2.1 ∧ a.1.2.1 ≤ 6 := wx.1.1.2.1
  refine w137_0 (C_outside h1 (by decide) (by decide) ⟨zR9 gb3, fun c => ?_, fun c => C_refuse (by have := @gb3 x1 1 20; omega) (qno A c gb3)⟩)
  have c1 := gout_0.mp c
  refine S_fill45 fun Z2 f2 => S_think A wx (fun q hq => f2 q (SQ45 hq)) fun Z' m _ => ⟨rfl, ?_⟩
  have tail : ∀ (x3 : Int) (Z1 : zM), zR x3 → MS Z Z1 a 2000 → TZ (d + 5) 137 77 [some (.inr 0), some (.inl x1), some (.inl (gout x1 1 20)), some (.inl x3), some (.inr 19), some (.inl (-9)), some (.inl 0)] [] Z1 (zri (QC Z a (gout x1 1 20))) := by
    intro x3 Z1 hx m1
    refine TZ.nq N45 ?_
    have m4 : MS Z (nq N45 Z1) a 2000 := m1.scr fun q hq => by
      funext p; unfold nq
      rw [if_neg]
      intro e
      have : q = 45 := by simpa [N45] using e
      rcases hq with h | h
      · omega
      · exact SQ45 h this
    have hz : ∀ j, zR (nq N45 Z1 45 j) := fun j => nq_r rfl j
    generalize nq N45 Z1 = Z4 at m4 hz
    have e6 := m4.NV.1
    suffices H : ∀ (f : Nat) (x3 x5 x6 : Int), 72 - x6 < f → 0 ≤ x6 → x6 ≤ 72 → zR x3 → TZ (d + 5) 137 77 [some (.inr 0), some (.inl x1), some (.inl (gout x1 1 20)), some (.inl x3), some (.inr 19), some (.inl x5), some (.inl x6)] [] Z4 (zri (QC Z a (gout x1 1 20))) from H 73 x3 (-9) 0 (by decide) (by decide) (by decide) hx
    intro f
    induction f with
    | zero => intro x3 x5 x6 y1 y2 y3 y4; omega
    | succ f ih => intro x3 x5 x6 y1 y2 y3 y4; exact w137_77 ⟨by unfold zR; omega, by unfold zR; omega, fun _ => qok A c m4.1, fun y => ⟨by omega, hz _, y4, fun _ => ih _ _ _ (by omega) (by omega) (by omega) y4, fun _ => ⟨by omega, by unfold zR; omega, by unfold zR; omega, ih _ _ _ (by omega) (by omega) (by omega) (hz _)⟩⟩⟩
  refine upto (n := x1) (by omega) (P := fun i Z1 => ∀ x3, (0 ≤ x3 ∧ x3 ≤ 6 * i) → TZ (d + 5) 137 37 [some (.inr 0), some (.inl x1), some (.inl (gout x1 1 20)), some (.inl x3), some (.inr 19), some (.inl i), none] [] Z1 (zri (QC Z a (gout x1 1 20)))) (fun Z1 m1 x3 b => ?_) (fun i Z1 i1 i2 m1 ih x3 b => ?_) Z' m 0 (by decide)
  · exact w137_37 ⟨by unfold zR; omega, h1, fun _ => tail _ Z1 (by unfold zR; omega) (m1.le (by omega)), fun y => absurd (Int.le_refl _) y⟩
  · exact w137_37 ⟨by unfold zR; omega, h1, fun y => absurd y (by omega), fun _ => S_pass m1 (by omega) (by omega) fun r Z2 _ m2 _ => S_errs m2 fun r2 r3 r4 => S_138 m2 (by omega) fun Z3 m3 => ih Z3 m3 _ (by omega)⟩
theorem S_144 {x1 x2 : Int} {Q : Int → zM → Prop} (A : CX Z a) (wx : WX a) (f1 : frs SQ Z Z1) (h1 : 0 ≤ x1 ∧ x1 ≤ 8) (hQ : ∀ r, zR r → Q r Z1) : TI (d + 1) 144 [.inr 0, .inl x1, .inl x2] Z1 Q := by
  have hW : 5 ≤ a.1.2.1 ∧ a.1.2.1 ≤ 6 := wx.1.1.2.1
  have e6 := (now6 A f1).1
  refine w144_0 ?_
  suffices H : ∀ (f : Nat) (x3 x4 x5 : Int), a.1.2.1 - x5 < f → 0 ≤ x5 → x5 ≤ 6 → -20 * x5 ≤ x4 → x4 ≤ 20 * x5 → 0 ≤ x3 → x3 ≤ 1000 * x5 → TZ (d + 1) 144 8 [some (.inr 0), some (.inl x1), some (.inl x2), some (.inl x3), some (.inl x4), some (.inl x5)] [] Z1 (zri Q) from H 7 0 0 0 (by omega) (by decide) (by decide) (by decide) (by decide) (by decide) (by decide)
  intro f
  induction f with
  | zero => intro x3 x4 x5 y1 y2 y3 y4 y5 y6 y7; exact w144_8 ⟨by unfold zR; omega, by unfold zR; omega, fun _ => hQ x3 (by unfold zR; omega), fun y => absurd (show Z1 1 6 ≤ x5 by omega) y⟩
  | succ f ih =>
    intro x3 x4 x5 y1 y2 y3 y4 y5 y6 y7
    refine w144_8 ⟨by unfold zR; omega, by unfold zR; omega, fun _ => hQ x3 (by unfold zR; omega), fun y => ?_⟩
    have t := (nowT A wx f1 (w := x5) (by omega)).2
    have g := zbit1 (zbit 7 x2 x5)
    exact ⟨by omega, by unfold zR; omega, ih _ _ _ (by omega) (by omega) (by omega) (by omega) (by omega) (by split <;> omega) (by split <;> omega)⟩
theorem T_spread {x1 : Int} (A : CX Z a) (wx : WX a) (h1 : zR x1) : TI (d + 5) 142 [.inr 0, .inl x1] Z (QC Z a (gunk x1 2)) := by
  have hW : 5 ≤ a.1.2.1 ∧ a.1.2.1 ≤ 6 := wx.1.1.2.1
  have hn : 0 ≤ a.1.1 ∧ a.1.1 ≤ 8 := wx.1.1.1
  have e6 : Z 1 6 = a.1.2.1 := A.1.2.1
  have e5 : Z 1 5 = a.1.1 := A.1.1
  refine w142_0 (C_unknown h1 (by decide) ⟨zR9 gb2, fun c => ⟨h1, fun _ => ⟨h1, fun _ => ?_, fun _ => ?_⟩, fun _ => ?_⟩, fun c => C_refuse (by have := @gb2 x1 2; omega) (qno A c gb2)⟩)
  · suffices H : ∀ (f : Nat) (x3 x4 : Int), a.1.2.1 - x4 < f → 0 ≤ x4 → x4 ≤ 6 → zR x3 → TZ (d + 5) 142 46 [some (.inr 0), some (.inl x1), some (.inl (gunk x1 2)), some (.inl x3), some (.inl x4)] [] Z (zri (QC Z a (gunk x1 2))) from H 7 0 0 (by omega) (by decide) (by decide) (by decide)
    intro f
    induction f with
    | zero => intro x3 x4 y1 y2 y3 y4; exact w142_46 ⟨by unfold zR; omega, by unfold zR; omega, fun _ => qok A c (frs.refl _ _), fun y => absurd (show Z 1 6 ≤ x4 by omega) y⟩
    | succ f ih =>
      intro x3 x4 y1 y2 y3 y4
      refine w142_46 ⟨by unfold zR; omega, by unfold zR; omega, fun _ => qok A c (frs.refl _ _), fun y => ?_⟩
      have t := (nowT A wx (frs.refl SQ Z) (w := x4) (by omega)).2
      exact ⟨by omega, y4, by unfold zR; omega, ih _ _ (by omega) (by omega) (by omega) (by unfold zR at *; omega)⟩
  · refine w143_0 ?_
    rw [e6, show max 1 a.1.2.1 = a.1.2.1 by omega]
    refine ⟨by unfold zR; omega, ?_⟩
    have zb : 0 ≤ zbit 6 1 a.1.2.1 ∧ zbit 6 1 a.1.2.1 ≤ 64 := by
      rcases (show a.1.2.1 = 5 ∨ a.1.2.1 = 6 by omega) with e | e <;> rw [e] <;> decide
    have dv : 0 ≤ Int.tdiv (Z 1 5) a.1.2.1 ∧ Int.tdiv (Z 1 5) a.1.2.1 ≤ 8 := by
      rw [e5, Int.tdiv_eq_ediv_of_nonneg hn.1]
      rcases (show a.1.2.1 = 5 ∨ a.1.2.1 = 6 by omega) with e | e <;> rw [e] <;> omega
    have mv : zR (Int.tmod (Z 1 5) a.1.2.1) := by
      rw [e5, Int.tmod_eq_emod_of_nonneg hn.1]
      rcases (show a.1.2.1 = 5 ∨ a.1.2.1 = 6 by omega) with e | e <;> rw [e] <;> unfold zR <;> omega
    have hZ5 : zR (Z 1 5) := by rw [e5]; unfold zR; omega
    suffices H : ∀ (f : Nat) (x2 x3 : Int), 64 - x3 < f → 0 ≤ x3 → x3 ≤ 64 → zR x2 → TZ (d + 4) 143 18 [some (.inr 0), some (.inl a.1.2.1), some (.inl x2), some (.inl x3)] [] Z (zri (QC Z a (gunk x1 2))) from H 65 1000000 0 (by decide) (by decide) (by decide) (by decide)
    intro f
    induction f with
    | zero => intro x2 x3 y1 y2 y3 y4; omega
    | succ f ih =>
      intro x2 x3 y1 y2 y3 y4
      exact w143_18 ⟨by unfold zR; omega, by unfold zR; omega, fun _ => qok A c (frs.refl _ _), fun y => S_bits fun r hr => ⟨hZ5, by omega, hr, mv, fun _ => ih _ _ (by omega) (by omega) (by omega) y4, fun _ => ⟨hZ5, by omega, S_144 A wx (frs.refl _ _) dv fun r2 hr2 => ⟨y4, hr2, ih _ _ (by omega) (by omega) (by omega) (by unfold zR at *; omega)⟩⟩⟩⟩
  · exact C_satOn (n := a.1.1) (W := a.1.2.1) (h := a.1.2.2.1) (K := a.1.2.2.2.1) (F := a.1.2.2.2.2.1) (P := a.1.2.2.2.2.2.1) (T := a.1.2.2.2.2.2.2) zF1 A.1 wx.1.1 (S_bits fun r hr => qok A c (frs.refl _ _))
end
