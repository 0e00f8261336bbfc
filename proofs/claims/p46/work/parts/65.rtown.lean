/-! THE REFERENCE's TOWN -/
def gs1 (L : Int) (t : Int → Int) (p : Int) : Int := if tn (tl L t p) < 0 then p else if 0 ≤ gdg L t p (tn (tl L t p)) 5 1 then gdg L t p (tn (tl L t p)) 5 1 else if tl L t (p + tn (tl L t p) + 1) ≠ 59 then p + tn (tl L t p) + 1 else -9
theorem gOdd_s {L : Int} {t : Int → Int} {f : Nat} {p : Int} (hp : 0 ≤ p) : gOdd L t (f + 1) p = if 0 ≤ gs1 L t p then gs1 L t p else if p + (tn (tl L t p) + 2) < L then gOdd L t f (p + (tn (tl L t p) + 2)) else -9 := by
  have hn := tn_b (c := tl L t p)
  have e0 : gOdd L t (f + 1) p = if tn (tl L t p) < 0 then p else if 0 ≤ gdg L t p (tn (tl L t p)) 5 1 then gdg L t p (tn (tl L t p)) 5 1 else if tl L t (p + tn (tl L t p) + 1) ≠ 59 then p + tn (tl L t p) + 1 else if p + (tn (tl L t p) + 2) < L then gOdd L t f (p + (tn (tl L t p) + 2)) else -9 := rfl
  rw [e0]
  unfold gs1
  by_cases c1 : tn (tl L t p) < 0
  · simp only [if_pos c1, if_pos hp]
  · simp only [if_neg c1]
    by_cases c2 : 0 ≤ gdg L t p (tn (tl L t p)) 5 1
    · simp only [if_pos c2]
    · simp only [if_neg c2]
      by_cases c3 : tl L t (p + tn (tl L t p) + 1) ≠ 59
      · rw [if_pos c3, if_pos c3, if_pos (by omega)]
      · rw [if_neg c3, if_neg c3, if_neg (show ¬ (0 : Int) ≤ -9 by decide)]
theorem gs1_b {L : Int} {t : Int → Int} {p : Int} (hp : 0 ≤ p) : gs1 L t p = -9 ∨ (0 ≤ gs1 L t p ∧ gs1 L t p ≤ p + 4) := by
  have hn := tn_b (c := tl L t p)
  have g := gdg_b (L := L) (t := t) (dg := tn (tl L t p)) hp 5 1 (by decide)
  unfold gs1
  repeat' split
  all_goals omega
theorem gs1_ok {L : Int} {t : Int → Int} {p : Int} (hp : 0 ≤ p) (h : gs1 L t p < 0) : okst L t p := by
  have hn := tn_b (c := tl L t p)
  unfold gs1 at h
  split at h
  · omega
  · next c1 =>
    split at h
    · omega
    · next c2 =>
      split at h
      · omega
      · next c3 => exact ⟨by omega, fun i h1 h2 => gdg_ok hp 5 1 (by omega) (by decide) (by omega) i h1 h2, by omega⟩
section
variable {d : Nat} {Z : zM} {L : Int} {t : Int → Int}
theorem tlR (B : RT Z L t) {p : Int} : -1 ≤ tl L t p ∧ tl L t p ≤ 255 := by
  unfold tl
  split
  · next h => have := B.2.2 p h.1 h.2; omega
  · omega
theorem R_next {at_ : Int} {Q : Int → zM → Prop} (B : RT Z L t) (e : Z 100 13 = at_) (ha : 0 ≤ at_ ∧ at_ ≤ 1000) (hQ : Q (tl L t at_) Z) : TI d 164 [.inr 100] Z Q := by
  obtain ⟨b1, b2, b3⟩ := B
  refine w164_0 ?_
  rw [e, b1]
  unfold tl at hQ
  refine ⟨by unfold zR; omega, by unfold zR; omega, fun c => ?_, fun c => ⟨by omega, ?_⟩⟩
  · rwa [if_neg (by omega)] at hQ
  · rw [if_pos (by omega)] at hQ
    rw [(b3 at_ ha.1 (by omega)).1]
    exact hQ
theorem R_dstep {x1 x2 x3 x4 at_ : Int} {Q : Int → zM → Prop} (B : RT Z L t) (e : Z 100 13 = at_) (ha : 0 ≤ at_ ∧ at_ ≤ 1000) (hx : 0 ≤ x4 ∧ x4 < x2 ∧ x2 ≤ 2) (h1 : 0 ≤ td L t at_ → TZ (d + 1) 165 5 [some (.inr 100), some (.inl x1), some (.inl x2), some (.inl (10 * x3 + td L t at_)), some (.inl (x4 + 1))] [] (zup Z 100 13 (at_ + 1)) (zri Q)) (h0 : td L t at_ < 0 → Q 0 Z) : TZ (d + 1) 165 5 [some (.inr 100), some (.inl x1), some (.inl x2), some (.inl x3), some (.inl x4)] [] Z (zri Q) := by
  have hb := tlR B (p := at_)
  refine w165_5 ⟨by unfold zR; omega, by unfold zR; omega, fun c => absurd c (by omega), fun _ => R_next B e ha (R_isIn (by unfold zR; omega) (by decide) (by decide) (fun c => ?_) (fun c => ?_))⟩
  · have et : td L t at_ = tl L t at_ - 48 := by unfold td; rw [if_pos c]
    refine ⟨by decide, fun _ => R_next B e ha fun Z1 z1 => ?_, fun y => absurd (show (1 : Int) ≠ 0 by decide) y⟩
    rw [e] at z1
    have := h1 (by omega)
    rw [show 10 * x3 + tl L t at_ - 48 = 10 * x3 + td L t at_ by omega, z1]
    exact this
  · have et : td L t at_ = -9 := by unfold td; rw [if_neg c]
    exact ⟨by decide, fun y => absurd rfl y, fun _ => h0 (by omega)⟩
theorem R_dend {x1 x2 x3 x4 : Int} {Q : Int → zM → Prop} (hx : x2 ≤ x4 ∧ x4 ≤ 2 ∧ 0 ≤ x2) (hp : 0 ≤ x1 ∧ x1 < 144) (hQ : Q 1 (zup Z 109 x1 x3)) : TZ (d + 1) 165 5 [some (.inr 100), some (.inl x1), some (.inl x2), some (.inl x3), some (.inl x4)] [] Z (zri Q) :=
  w165_5 ⟨by unfold zR; omega, by unfold zR; omega, fun _ => ⟨hp, fun Z1 z1 => by subst z1; exact hQ⟩, fun c => absurd hx.1 c⟩
theorem RT.at13 {x : Int} (B : RT Z L t) : RT (zup Z 100 13 x) L t := RT.keep B (zup_place _ _ _ _ (by decide)) (funext fun p => zup_cell _ _ _ _ (by decide))
theorem RT.at109 {p x : Int} (B : RT Z L t) : RT (zup Z 109 p x) L t := RT.keep B (by rw [zup_cell _ _ _ _ (by decide)]) (funext fun p => zup_cell _ _ _ _ (by decide))
theorem R_dig1 {p' at_ : Int} {Q : Int → zM → Prop} (B : RT Z L t) (e : Z 100 13 = at_) (ha : 0 ≤ at_ ∧ at_ ≤ 1000) (hp : 0 ≤ p' ∧ p' < 144) (h1 : 0 ≤ td L t at_ → Q 1 (zup (zup Z 100 13 (at_ + 1)) 109 p' (td L t at_))) (h0 : td L t at_ < 0 → Q 0 Z) : TI (d + 1) 165 [.inr 100, .inl p', .inl 1] Z Q := by
  refine w165_0 (R_dstep B e ha (by decide) (fun c => R_dend (by decide) hp ?_) h0)
  rw [show 10 * 0 + td L t at_ = td L t at_ by omega]
  exact h1 c
theorem R_dig2 {p' at_ : Int} {Q : Int → zM → Prop} (B : RT Z L t) (e : Z 100 13 = at_) (ha : 0 ≤ at_ ∧ at_ ≤ 900) (hp : 0 ≤ p' ∧ p' < 144) (h1 : 0 ≤ td L t at_ → 0 ≤ td L t (at_ + 1) → Q 1 (zup (zup (zup Z 100 13 (at_ + 1)) 100 13 (at_ + 1 + 1)) 109 p' (10 * td L t at_ + td L t (at_ + 1)))) (h2 : 0 ≤ td L t at_ → td L t (at_ + 1) < 0 → Q 0 (zup Z 100 13 (at_ + 1))) (h0 : td L t at_ < 0 → Q 0 Z) : TI (d + 1) 165 [.inr 100, .inl p', .inl 2] Z Q := by
  refine w165_0 (R_dstep B e (by omega) (by decide) (fun c => R_dstep B.at13 (zup_same _ _ _ _) (by omega) (by decide) (fun c2 => R_dend (by decide) hp ?_) (h2 c)) h0)
  rw [show 10 * (10 * 0 + td L t at_) + td L t (at_ + 1) = 10 * td L t at_ + td L t (at_ + 1) by omega]
  exact h1 c c2
/-- what is told of the STATEMENT k, that begins at p -/
def PD (L : Int) (t : Int → Int) (Z : zM) (k p : Int) : Prop := (tl L t p = 98 → Z 109 (3 * k) = td L t (p + 1) ∧ Z 109 (3 * k + 1) = td L t (p + 2) ∧ Z 109 (3 * k + 2) = td L t (p + 3)) ∧ (tl L t p = 99 ∨ tl L t p = 102 ∨ tl L t p = 110 → Z 109 (3 * k) = td L t (p + 1)) ∧ (tl L t p = 119 → Z 109 (3 * k) = td L t (p + 1) ∧ Z 109 (3 * k + 1) = 10 * td L t (p + 2) + td L t (p + 3))
def SD (k : Int) (q : Nat) (p : Int) : Prop := (q = 109 ∧ 3 * k ≤ p ∧ p < 3 * k + 3) ∨ (q = 100 ∧ p = 13)
theorem R_readsAll {p k : Int} {Q : Int → zM → Prop} (B : RT Z L t) (e : Z 100 13 = p + 1) (hp : 0 ≤ p ∧ p ≤ 200) (hk : 0 ≤ k ∧ k < 48) (ht : 0 ≤ tn (tl L t p)) (hok : gdg L t p (tn (tl L t p)) 5 1 < 0 → ∀ Z', Z' 100 13 = p + tn (tl L t p) + 1 → PD L t Z' k p → fR (SD k) Z Z' → Q 1 Z') (hbad : 0 ≤ gdg L t p (tn (tl L t p)) 5 1 → ∀ Z', Z' 100 13 = gdg L t p (tn (tl L t p)) 5 1 → fR (SD k) Z Z' → Q 0 Z') : TI (d + 2) 166 [.inr 100, .inl (tl L t p), .inl (3 * k)] Z Q := by
  have hb := tlR B (p := p)
  have g : ∀ (dg : Int) (f : Nat) (i : Int), gdg L t p dg (f + 1) i = if dg < i then -9 else if td L t (p + i) < 0 then p + i else gdg L t p dg f (i + 1) := fun _ _ _ => rfl
  have G3 : gdg L t p 3 5 1 = if td L t (p + 1) < 0 then p + 1 else if td L t (p + 2) < 0 then p + 2 else if td L t (p + 3) < 0 then p + 3 else -9 := by
    rw [g 3 4 1, if_neg (show ¬ (3 : Int) < 1 by decide), g 3 3 (1 + 1), if_neg (show ¬ (3 : Int) < 1 + 1 by decide), g 3 2 (1 + 1 + 1), if_neg (show ¬ (3 : Int) < 1 + 1 + 1 by decide), g 3 1 (1 + 1 + 1 + 1), if_pos (show (3 : Int) < 1 + 1 + 1 + 1 by decide)]
    rfl
  have G1 : gdg L t p 1 5 1 = if td L t (p + 1) < 0 then p + 1 else -9 := by
    rw [g 1 4 1, if_neg (show ¬ (1 : Int) < 1 by decide), g 1 3 (1 + 1), if_pos (show (1 : Int) < 1 + 1 by decide)]
  have s1 : ∀ (Z0 : zM) (x : Int), fR (SD k) Z0 (zup Z0 100 13 x) := fun Z0 x => fR_up (Or.inr ⟨rfl, rfl⟩)
  have s2 : ∀ (Z0 : zM) (j x : Int), 3 * k ≤ j → j < 3 * k + 3 → fR (SD k) Z0 (zup Z0 109 j x) := fun Z0 j x h1 h2 => fR_up (Or.inl ⟨rfl, h1, h2⟩)
  refine w166_0 ⟨by unfold zR; omega, fun c => ?_, fun c => ?_, fun c => ?_, fun c => ?_⟩
  · have et : tn (tl L t p) = 3 := by rw [c]; rfl
    rw [et] at hok hbad
    rw [G3] at hok hbad
    refine R_dig1 B e (by omega) (by omega) (fun h1 => ⟨by decide, fun y => absurd y (by decide), fun _ => ?_⟩) (fun h1 => ⟨by decide, fun _ => ?_, fun y => absurd rfl y⟩)
    · rw [if_neg (by omega)] at hok hbad
      refine R_dig1 (at_ := p + 2) B.at13.at109 (by rw [zup_cell _ _ _ _ (by decide), zup_same]; omega) (by omega) (by omega) (fun h2 => ⟨by decide, fun y => absurd y (by decide), fun _ => ?_⟩) (fun h2 => ⟨by decide, fun _ => ?_, fun y => absurd rfl y⟩)
      · rw [if_neg (by omega)] at hok hbad
        refine R_dig1 (at_ := p + 3) B.at13.at109.at13.at109 (by rw [zup_cell _ _ _ _ (by decide), zup_same]; omega) (by omega) (by omega) (fun h3 => ⟨by decide, fun y => absurd y (by decide), fun _ => ?_⟩) (fun h3 => ⟨by decide, fun _ => ?_, fun y => absurd rfl y⟩)
        · rw [if_neg (by omega)] at hok
          refine hok (by decide) _ (by rw [zup_cell _ _ _ _ (by decide), zup_same]) ⟨fun _ => ⟨?_, ?_, ?_⟩, fun y => by omega, fun y => by omega⟩ ?_
          · rw [zup_place _ _ _ _ (by omega), zup_cell _ _ _ _ (by decide), zup_place _ _ _ _ (by omega), zup_cell _ _ _ _ (by decide), zup_same]
          · rw [zup_place _ _ _ _ (by omega), zup_cell _ _ _ _ (by decide), zup_same]
          · rw [zup_same]
          · exact ((((((s1 _ _).trans (s2 _ _ _ (by omega) (by omega))).trans (s1 _ _)).trans (s2 _ _ _ (by omega) (by omega))).trans (s1 _ _)).trans (s2 _ _ _ (by omega) (by omega)))
        · rw [if_pos h3] at hbad
          exact hbad (by omega) _ (by rw [zup_cell _ _ _ _ (by decide), zup_same]; omega) ((((s1 _ _).trans (s2 _ _ _ (by omega) (by omega))).trans (s1 _ _)).trans (s2 _ _ _ (by omega) (by omega)))
      · rw [if_pos h2] at hbad
        exact hbad (by omega) _ (by rw [zup_cell _ _ _ _ (by decide), zup_same]; omega) ((s1 _ _).trans (s2 _ _ _ (by omega) (by omega)))
    · rw [if_pos h1] at hbad
      exact hbad (by omega) _ e (fR.refl _ _)
  · have et : tn (tl L t p) = 1 := by rcases c with c | c | c <;> (rw [c]; rfl)
    rw [et] at hok hbad
    rw [G1] at hok hbad
    refine R_dig1 B e (by omega) (by omega) (fun h1 => ⟨Or.inr rfl, ?_⟩) (fun h1 => ⟨Or.inl rfl, ?_⟩)
    · rw [if_neg (by omega)] at hok
      exact hok (by decide) _ (by rw [zup_cell _ _ _ _ (by decide), zup_same]) ⟨fun y => by omega, fun _ => zup_same _ _ _ _, fun y => by omega⟩ ((s1 _ _).trans (s2 _ _ _ (by omega) (by omega)))
    · rw [if_pos h1] at hbad
      exact hbad (by omega) _ e (fR.refl _ _)
  · have et : tn (tl L t p) = 3 := by rw [c]; rfl
    rw [et] at hok hbad
    rw [G3] at hok hbad
    refine R_dig1 B e (by omega) (by omega) (fun h1 => ⟨by decide, fun y => absurd y (by decide), fun _ => ?_⟩) (fun h1 => ⟨by decide, fun _ => ?_, fun y => absurd rfl y⟩)
    · rw [if_neg (by omega)] at hok hbad
      refine R_dig2 (at_ := p + 2) B.at13.at109 (by rw [zup_cell _ _ _ _ (by decide), zup_same]; omega) (by omega) (by omega) (fun h2 h3 => ⟨by decide, fun y => absurd y (by decide), fun _ => ?_⟩) (fun h2 h3 => ⟨by decide, fun _ => ?_, fun y => absurd rfl y⟩) (fun h2 => ⟨by decide, fun _ => ?_, fun y => absurd rfl y⟩)
      · rw [show p + 2 + 1 = p + 3 by omega] at h3
        rw [if_neg (by omega), if_neg (by omega)] at hok
        refine hok (by decide) _ (by rw [zup_cell _ _ _ _ (by decide), zup_same]; omega) ⟨fun y => by omega, fun y => by omega, fun _ => ⟨?_, ?_⟩⟩ ?_
        · rw [zup_place _ _ _ _ (by omega), zup_cell _ _ _ _ (by decide), zup_cell _ _ _ _ (by decide), zup_same]
        · rw [zup_same, show p + 2 + 1 = p + 3 by omega]
        · exact (((((s1 _ _).trans (s2 _ _ _ (by omega) (by omega))).trans (s1 _ _)).trans (s1 _ _)).trans (s2 _ _ _ (by omega) (by omega)))
      · rw [show p + 2 + 1 = p + 3 by omega] at h3
        rw [if_neg (by omega), if_pos h3] at hbad
        exact hbad (by omega) _ (by rw [zup_same]; omega) (((s1 _ _).trans (s2 _ _ _ (by omega) (by omega))).trans (s1 _ _))
      · rw [if_pos h2] at hbad
        exact hbad (by omega) _ (by rw [zup_cell _ _ _ _ (by decide), zup_same]; omega) ((s1 _ _).trans (s2 _ _ _ (by omega) (by omega)))
    · rw [if_pos h1] at hbad
      exact hbad (by omega) _ e (fR.refl _ _)
  · have et : tn (tl L t p) = 0 := by
      have : tn (tl L t p) = (if tl L t p = 98 ∨ tl L t p = 119 then 3 else if tl L t p = 99 ∨ tl L t p = 102 ∨ tl L t p = 110 then 1 else if tl L t p = 104 ∨ tl L t p = 114 ∨ tl L t p = 115 then 0 else -9) := rfl
      rw [if_neg (by omega), if_neg (by omega)] at this
      split at this <;> omega
    rw [et] at hok
    rw [g 0 4 1, if_pos (show (0 : Int) < 1 by decide)] at hok
    exact hok (by decide) _ (by rw [e]; omega) ⟨fun y => by omega, fun y => by omega, fun y => by omega⟩ (fR.refl _ _)
def SDk (k : Int) (q : Nat) (p : Int) : Prop := ((q = 107 ∨ q = 108) ∧ p = k) ∨ SD k q p
theorem R_statement {p k : Int} {Q : Int → zM → Prop} (B : RT Z L t) (e : Z 100 13 = p) (e2 : Z 100 14 = k) (hp : 0 ≤ p ∧ p ≤ 100) (hk : 0 ≤ k ∧ k < 48) (hok : gs1 L t p < 0 → ∀ Z', Z' 100 13 = p + (tn (tl L t p) + 2) → Z' 107 k = tl L t p → Z' 108 k = p → PD L t Z' k p → fR (SDk k) Z Z' → Q 1 Z') (hbad : 0 ≤ gs1 L t p → ∀ Z', Z' 100 13 = gs1 L t p → fR (SDk k) Z Z' → Q 0 Z') : TI (d + 3) 167 [.inr 100] Z Q := by
  have hb := tlR B (p := p)
  have hn := tn_b (c := tl L t p)
  refine w167_0 (R_next B e (by omega) ?_)
  rw [e2]
  have H : 0 ≤ tn (tl L t p) → (0 ≤ k ∧ k < 48) ∧ ∀ Z6, Z6 = zup Z 107 k (tl L t p) → (0 ≤ Z6 100 14 ∧ Z6 100 14 < 48) ∧ ∀ Z8, Z8 = zup Z6 108 (Z6 100 14) (Z6 100 13) → ∀ Z9, Z9 = zup Z8 100 13 (Z8 100 13 + 1) → TI (d + 2) 166 [.inr 100, .inl (tl L t p), .inl (3 * (Z9 100 14))] Z9 (fun r11 Z10 => zR r11 ∧ (r11 = 0 → Q 0 Z10) ∧ (¬ r11 = 0 → TI (d + 2) 164 [.inr 100] Z10 (fun r15 Z14 => zR r15 ∧ (r15 = 59 → ∀ Z18, Z18 = zup Z14 100 13 (Z14 100 13 + 1) → Q 1 Z18) ∧ (¬ r15 = 59 → Q 0 Z14)))) := by
    intro ht
    refine ⟨hk, fun Z6 z6 => ?_⟩
    have e14 : Z6 100 14 = k := by subst z6; rw [zup_cell _ _ _ _ (by decide)]; exact e2
    have e13 : Z6 100 13 = p := by subst z6; rw [zup_cell _ _ _ _ (by decide)]; exact e
    rw [e14, e13]
    refine ⟨hk, fun Z8 z8 Z9 z9 => ?_⟩
    have f13 : Z8 100 13 = p := by subst z8; rw [zup_cell _ _ _ _ (by decide)]; exact e13
    rw [f13] at z9
    have g14 : Z9 100 14 = k := by subst z9; rw [zup_place _ _ _ _ (by decide)]; subst z8; rw [zup_cell _ _ _ _ (by decide)]; exact e14
    have g13 : Z9 100 13 = p + 1 := by subst z9; rw [zup_same]
    have g107 : Z9 107 k = tl L t p := by subst z9; rw [zup_cell _ _ _ _ (by decide)]; subst z8; rw [zup_cell _ _ _ _ (by decide)]; subst z6; rw [zup_same]
    have g108 : Z9 108 k = p := by subst z9; rw [zup_cell _ _ _ _ (by decide)]; subst z8; rw [zup_same]
    have f9 : fR (SDk k) Z Z9 := by
      subst z9; subst z8; subst z6
      exact ((fR_up (Or.inl ⟨Or.inl rfl, rfl⟩)).trans (fR_up (Or.inl ⟨Or.inr rfl, rfl⟩))).trans (fR_up (Or.inr (Or.inr ⟨rfl, rfl⟩)))
    have B9 : RT Z9 L t := RT.keep B (f9 _ _ (by unfold SDk SD; omega)) (funext fun x => f9 _ _ (by unfold SDk SD; omega))
    rw [g14]
    refine R_readsAll B9 g13 (by omega) hk ht (fun g Z' h1 h2 h3 => ⟨by decide, fun y => absurd y (by decide), fun _ => ?_⟩) (fun g Z' h1 h2 => ⟨by decide, fun _ => ?_, fun y => absurd rfl y⟩)
    · have B' : RT Z' L t := RT.keep B9 (h3 _ _ (by unfold SD; omega)) (funext fun x => h3 _ _ (by unfold SD; omega))
      have hb' := tlR B' (p := p + tn (tl L t p) + 1)
      refine R_next B' h1 (by omega) ⟨by unfold zR; omega, fun c Z18 z18 => ?_, fun c => ?_⟩
      · rw [h1] at z18
        refine hok ?_ Z18 (by subst z18; rw [zup_same]; omega) ?_ ?_ ?_ ?_
        · unfold gs1
          rw [if_neg (by omega), if_neg (by omega), if_neg (by omega)]; decide
        · subst z18; rw [zup_cell _ _ _ _ (by decide), h3 _ _ (by unfold SD; omega)]; exact g107
        · subst z18; rw [zup_cell _ _ _ _ (by decide), h3 _ _ (by unfold SD; omega)]; exact g108
        · subst z18
          unfold PD at h2 ⊢
          simp only [zup_cell _ _ _ _ (show (109 : Nat) ≠ 100 by decide)]
          exact h2
        · subst z18
          exact (f9.trans (h3.mono fun q x h => Or.inr h)).trans (fR_up (Or.inr (Or.inr ⟨rfl, rfl⟩)))
      · refine hbad ?_ Z' ?_ (f9.trans (h3.mono fun q x h => Or.inr h))
        · unfold gs1
          rw [if_neg (by omega), if_neg (by omega), if_pos c]; omega
        · unfold gs1
          rw [if_neg (by omega), if_neg (by omega), if_pos c]; exact h1
    · refine hbad ?_ Z' ?_ (f9.trans (h2.mono fun q x h => Or.inr h))
      · unfold gs1
        rw [if_neg (by omega), if_pos g]; exact g
      · unfold gs1
        rw [if_neg (by omega), if_pos g]; exact h1
  have hz : zR (tl L t p) := ⟨by omega, by omega⟩
  refine ⟨hz, fun c => H (by rw [c]; decide), fun c1 => ⟨hz, fun c => H (by rw [c]; decide), fun c2 => ⟨hz, fun c => H (by rw [c]; decide), fun c3 => ⟨hz, fun c => H (by rw [c]; decide), fun c4 => ⟨hz, fun c => H (by rw [c]; decide), fun c5 => ⟨hz, fun c => H (by rw [c]; decide), fun c6 => ⟨hz, fun c => H (by rw [c]; decide), fun c7 => ⟨hz, fun c => H (by rw [c]; decide), fun c8 => ?_⟩⟩⟩⟩⟩⟩⟩⟩
  have et : tn (tl L t p) = -9 := by
    unfold tn
    rw [if_neg (by omega), if_neg (by omega), if_neg (by omega)]
  have eg : gs1 L t p = p := by unfold gs1; rw [if_pos (by omega)]
  exact hbad (by omega) Z (by rw [eg]; exact e) (fR.refl _ _)
end
