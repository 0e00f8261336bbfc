/-! THE REFERENCE's looks, fourth part -/
theorem gmx_mono {r : Int → Int} {m : Nat} : ∀ k : Nat, gmx r m ≤ gmx r (m + k)
  | 0 => Int.le_refl _
  | k + 1 => by
    have := gmx_mono (r := r) (m := m) k
    show gmx r m ≤ max (gmx r (m + k)) (r ((m + k : Nat) : Int))
    omega
section
variable {d : Nat} {Z Z1 Z2 : zM} {a : gX} {B : Int}
theorem D_240 {x1 : Int} {Q : Int → zM → Prop} (m : QS Z Z1 a) (h1 : 0 ≤ x1 ∧ x1 ≤ 99) (hQ : Q (if gunfit a x1 = 0 then 1 else 0) Z1) : TI d 240 [.inr 100, .inl x1] Z1 Q := by
  have e26 := m.now.2.2.2
  obtain ⟨rb, rv⟩ := m.row
  refine w240_0 ?_
  suffices H : ∀ (f : Nat) (i : Nat) (x2 : Int), x2 = i → 12 - x2 < f → x2 ≤ a.2.2.2.2.1.1 → gmx a.2.2.2.2.1.2 i ≤ x1 → TZ d 240 2 [some (.inr 100), some (.inl x1), some (.inl x2)] [] Z1 (zri Q) from H 13 0 0 rfl (by decide) (by omega) (by unfold gmx; omega)
  intro f
  induction f with
  | zero => intro i x2 e y1 y2 y3; omega
  | succ f ih =>
    intro i x2 e y1 y2 y3
    refine w240_2 ⟨by unfold zR; omega, by unfold zR; omega, fun y => ⟨by unfold zR; omega, fun c => ?_, fun c => ?_⟩, fun y => ⟨by omega, ?_, by unfold zR; omega, fun c => ?_, fun c => ?_⟩⟩
    · rw [if_neg (by unfold gunfit; rw [if_pos (by omega)]; decide)] at hQ; exact hQ
    · have e2 : i = a.2.2.2.2.1.1.toNat := by omega
      rw [if_pos (by unfold gunfit; rw [if_neg (by omega), if_neg (by rw [← e2]; omega)])] at hQ; exact hQ
    · have := (rv x2 (by omega) (by omega)).2; unfold zR; omega
    · refine ih (i + 1) _ (by omega) (by omega) (by omega) ?_
      have q := (rv x2 (by omega) (by omega)).1
      rw [e] at q c
      show max (gmx a.2.2.2.2.1.2 i) (a.2.2.2.2.1.2 i) ≤ x1
      omega
    · have q := (rv x2 (by omega) (by omega)).1
      rw [e] at q c
      have mo := gmx_mono (r := a.2.2.2.2.1.2) (m := i + 1) (a.2.2.2.2.1.1.toNat - (i + 1))
      rw [show i + 1 + (a.2.2.2.2.1.1.toNat - (i + 1)) = a.2.2.2.2.1.1.toNat by omega] at mo
      have st : gmx a.2.2.2.2.1.2 (i + 1) = max (gmx a.2.2.2.2.1.2 i) (a.2.2.2.2.1.2 i) := rfl
      rw [if_neg] at hQ
      · exact hQ
      · unfold gunfit
        split
        · decide
        · rw [if_pos (by omega)]; decide
theorem gunfit_v {a : gX} {x : Int} (h : ¬ gunfit a x = 0) : gunfit a x = -3 := by
  unfold gunfit at *
  repeat' split at h
  all_goals repeat' split
  all_goals omega
theorem gu4 {x lo : Int} (h : ¬ lo ≤ x) : gund x lo = -4 := by unfold gund; rw [if_pos (by omega)]
theorem gu0 {x lo : Int} (h : lo ≤ x) : gund x lo = 0 := by unfold gund; rw [if_neg (by omega)]
theorem U_plays {x1 : Int} (A : RX Z a) (wx : WX a) (vx : VX a) (h1 : zR x1) : TI (d + 5) 241 [.inr 100, .inl x1] Z (QD Z a (geith (gund x1 (-1)) (gunfit a 63))) := by
  have m := QS.refl A
  have hW : 5 ≤ a.1.2.1 ∧ a.1.2.1 ≤ 6 := wx.1.1.2.1
  refine w241_0 ⟨h1, fun c => D_240 m (by decide) ?_, fun c => D_no m wx (by rw [gu4 c]; rfl) (by decide)⟩
  by_cases u : gunfit a 63 = 0
  · rw [if_pos u]
    refine ⟨by decide, fun _ => ?_, fun e => absurd (show (1 : Int) ≠ 0 by decide) e⟩
    have hc : geith (gund x1 (-1)) (gunfit a 63) = 0 := geith_0.mpr ⟨gu0 c, u⟩
    have rl : a.2.2.2.2.1.1 ≤ 4 := by
      unfold gunfit at u
      split at u
      · exact absurd u (by decide)
      · omega
    suffices H : ∀ (f : Nat) (x2 x3 : Int) (Z1 : zM), 2401 - x3 < f → 0 ≤ x3 → x3 ≤ 2401 → QS Z Z1 a → TZ (d + 5) 241 38 [some (.inr 100), some (.inl x1), some (.inl x2), some (.inl x3)] [] Z1 (zri (QD Z a (geith (gund x1 (-1)) (gunfit a 63)))) from H 2402 0 0 Z (by decide) (by decide) (by decide) m
    intro f
    induction f with
    | zero => intro x2 x3 Z1 y1 y2 y3 l; omega
    | succ f ih =>
      intro x2 x3 Z1 y1 y2 y3 l
      have e26 := l.now.2.2.2
      have rb := l.row.1
      refine w241_38 (D_212 l.now.2.1 hW (by omega) fun r r1 r2 => ⟨by unfold zR; omega, by unfold zR; omega, fun _ => ⟨h1, fun _ => D_ok l hc, fun _ => D_ok l hc⟩, fun c4 => D_213 l.now.2.1 hW (by omega) (by omega) fun Z8 g8 wd => ?_⟩)
      have l8 : QS Z Z8 a := l.one wx (c := 114) (by unfold scq; omega) g8
      have e8 := l8.now.2.2.2
      refine D_217 l8 wx vx (by decide) (by omega) (fun _ => by omega) (by rw [e26] at wd; rw [e8]; exact wd) fun r3 Z3 hr3 l3 s3 => ?_
      have e3 := l3.now.2.2.2
      exact ⟨by unfold zR; omega, fun _ => ih _ _ Z3 (by omega) (by omega) (by omega) l3, fun _ => ⟨h1, fun _ => ⟨h1, by unfold zR; omega, fun _ => D_ok l3 hc, fun _ => ⟨by omega, D_ok l3 hc⟩⟩, fun _ => D_ok l3 hc⟩⟩
  · rw [if_neg u]
    exact ⟨by decide, fun e => absurd rfl e, fun _ => D_no m wx (by rw [ge0 (gu0 c)]; exact gunfit_v u) (by decide)⟩
theorem U_whoMoved {x1 : Int} (A : RX Z a) (wx : WX a) (vx : VX a) (h1 : zR x1) : TI (d + 5) 244 [.inr 100, .inl x1] Z (QD Z a (geith (gunk x1 2) (gunfit a 6))) := by
  have m := QS.refl A
  have hW : 5 ≤ a.1.2.1 ∧ a.1.2.1 ≤ 6 := wx.1.1.2.1
  refine w244_0 (R_isIn h1 (by decide) (by decide) (fun i => ⟨by decide, fun _ => D_240 m (by decide) ?_, fun e => absurd (show (1 : Int) ≠ 0 by decide) e⟩) (fun i => ⟨by decide, fun e => absurd rfl e, fun _ => D_no m wx (by rw [gu2 i]; rfl) (by decide)⟩))
  by_cases u : gunfit a 6 = 0
  · rw [if_pos u]
    refine ⟨by decide, fun _ => ?_, fun e => absurd (show (1 : Int) ≠ 0 by decide) e⟩
    have hc : geith (gunk x1 2) (gunfit a 6) = 0 := geith_0.mpr ⟨gunk_0.mpr i, u⟩
    have rl : a.2.2.2.2.1.1 ≤ 4 := by
      unfold gunfit at u
      split at u
      · exact absurd u (by decide)
      · omega
    suffices H : ∀ (f : Nat) (x2 x3 x4 x5 x6 : Int) (o7 : Option zV) (Z1 : zM), 2401 - x6 < f → 0 ≤ x6 → x6 ≤ 2401 → zR x5 → QS Z Z1 a → TZ (d + 5) 244 52 [some (.inr 100), some (.inl x1), some (.inl x2), some (.inl x3), some (.inl x4), some (.inl x5), some (.inl x6), o7] [] Z1 (zri (QD Z a (geith (gunk x1 2) (gunfit a 6)))) from H 2402 0 0 0 (-9) 0 none Z (by decide) (by decide) (by decide) (by decide) m
    intro f
    induction f with
    | zero => intro x2 x3 x4 x5 x6 o7 Z1 y1 y2 y3 y4 l; omega
    | succ f ih =>
      intro x2 x3 x4 x5 x6 o7 Z1 y1 y2 y3 y4 l
      have e26 := l.now.2.2.2
      have rb := l.row.1
      refine w244_52 (D_212 l.now.2.1 hW (by omega) fun r r1 r2 => ⟨by unfold zR; omega, by unfold zR; omega, fun _ => ⟨h1, fun _ => ⟨h1, fun _ => D_ok l hc, fun _ => D_ok l hc⟩, fun _ => D_ok l hc⟩, fun c4 => D_213 l.now.2.1 hW (by omega) (by omega) fun Z8 g8 wd => ?_⟩)
      have l8 : QS Z Z8 a := l.one wx (c := 114) (by unfold scq; omega) g8
      have e8 := l8.now.2.2.2
      have wd8 : WD Z8 a.1.2.1 (Z8 100 26) := by rw [e26] at wd; rw [e8]; exact wd
      refine D_217 l8 wx vx (by decide) (by omega) (fun _ => by omega) wd8 fun r3 Z3 hr3 l3 s3 => ⟨by unfold zR; omega, fun _ => ?_, fun _ => ih _ _ _ _ _ _ Z3 (by omega) (by omega) (by omega) y4 l3⟩
      have e3 := l3.now.2.2.2
      have wd3 : WD Z3 a.1.2.1 a.2.2.2.2.1.1 := by have := wd8.same s3; rw [e8] at this; exact this
      suffices H : ∀ (g : Nat) (x4 x7 : Int), 12 - x7 < g → 0 ≤ x7 → x7 ≤ 12 → TZ (d + 5) 244 96 [some (.inr 100), some (.inl x1), some (.inl x2), some (.inl (x3 + 1)), some (.inl x4), some (.inl x5), some (.inl x6), some (.inl x7)] [] Z3 (zri (QD Z a (geith (gunk x1 2) (gunfit a 6)))) from H 13 x4 0 (by decide) (by decide) (by decide)
      intro g
      induction g with
      | zero => intro x4 x7 z1 z2 z3; omega
      | succ g ihg =>
        intro x4 x7 z1 z2 z3
        refine w244_96 ?_
        rw [e3]
        have nx : ∀ v x4, zR v → TZ (d + 5) 244 52 [some (.inr 100), some (.inl x1), some (.inl x2), some (.inl (x3 + 1)), some (.inl x4), some (.inl v), some (.inl (x6 + 1)), some (.inl x7)] [] Z3 (zri (QD Z a (geith (gunk x1 2) (gunfit a 6)))) := fun v x4 hv => ih _ _ _ _ _ _ Z3 (by omega) (by omega) (by omega) hv l3
        refine ⟨by unfold zR; omega, by unfold zR; omega, fun _ => ⟨y4, fun _ => D_214 hW wd3 (by omega) fun r4 b1 b2 => nx _ _ (by unfold zR; omega), fun _ => D_214 hW wd3 (by omega) fun r4 b1 b2 => ⟨by unfold zR; omega, y4, fun _ => nx _ _ y4, fun _ => ?_⟩⟩, fun c => ⟨by omega, ?_, fun _ => ihg _ _ (by omega) (by omega) (by omega), fun _ => ⟨by omega, ihg _ _ (by omega) (by omega) (by omega)⟩⟩⟩
        · exact D_214 hW (by rw [e3]; exact wd3) (by omega) fun r4 b1 b2 => nx _ _ (by unfold zR; omega)
        · have := wd3 x7 z2 (by omega); unfold zR; omega
  · rw [if_neg u]
    exact ⟨by decide, fun e => absurd rfl e, fun _ => D_no m wx (by rw [ge0 (gunk_0.mpr i)]; exact gunfit_v u) (by decide)⟩
theorem D_242 {x0 x1 x2 : Int} {Q : Int → zM → Prop} (h0 : -20 ≤ x0 ∧ x0 ≤ 20) (h1 : 0 ≤ x1 ∧ x1 ≤ 20) (h2 : 1 ≤ x2 ∧ x2 ≤ 12) (hQ : ∀ r, (r = 0 ∨ r = 1) → Q r Z1) : TI d 242 [.inl x0, .inl x1, .inl x2] Z1 Q := by
  refine w242_0 ⟨by unfold zR; omega, by unfold zR; omega, fun _ => hQ 0 (Or.inl rfl), fun c => ⟨by unfold zR; omega, by omega, ?_, fun _ => hQ 0 (Or.inl rfl), fun _ => hQ 1 (Or.inr rfl)⟩⟩
  have e : Int.tmod (x0 - x1) x2 = (x0 - x1) % x2 := Int.tmod_eq_emod_of_nonneg (by omega)
  have b1 := Int.emod_nonneg (x0 - x1) (show x2 ≠ 0 by omega)
  have b2 := Int.emod_lt_of_pos (x0 - x1) (show 0 < x2 by omega)
  rw [e]; unfold zR; omega
theorem U_trains {x1 x2 x3 x4 : Int} (A : RX Z a) (wx : WX a) (vx : VX a) (h1 : zR x1) (h2 : zR x2) (h3 : zR x3) (h4 : zR x4) : TI (d + 5) 243 [.inr 100, .inl x1, .inl x2, .inl x3, .inl x4] Z (QD Z a (ctrains x1 x2 x3 x4)) := by
  have m := QS.refl A
  refine w243_0 ⟨h1, fun c => D_no m wx (by unfold ctrains; rw [if_pos (Or.inl c)]; rfl) (by decide), fun c1 => ⟨h2, fun c => D_no m wx (by unfold ctrains; rw [if_pos (by omega)]; rfl) (by decide), fun c2 => ⟨h3, fun c3 => ⟨h1, fun c => D_no m wx (by unfold ctrains; rw [if_neg (by omega), if_pos (by omega)]; rfl) (by decide), fun c4 => ⟨h2, fun c => D_no m wx (by unfold ctrains; rw [if_neg (by omega), if_pos (by omega)]; rfl) (by decide), fun c5 => ⟨h3, fun c6 => R_isIn h4 (by decide) (by decide) (fun i => ⟨by decide, fun _ => D_205 m wx vx (by omega) fun Z2 l hf => ?_, fun e => absurd (show (1 : Int) ≠ 0 by decide) e⟩) (fun i => ⟨by decide, fun e => absurd rfl e, fun _ => D_no m wx (by unfold ctrains; rw [if_neg (by omega), if_neg (by omega), ge0 rfl]; exact gu2 i) (by decide)⟩), fun c => D_no m wx (by unfold ctrains; rw [if_neg (by omega), if_pos (by omega)]; rfl) (by decide)⟩⟩⟩, fun c => D_no m wx (by unfold ctrains; rw [if_pos (by omega)]; rfl) (by decide)⟩⟩⟩
  have hc : ctrains x1 x2 x3 x4 = 0 := by unfold ctrains; rw [if_neg (by omega), if_neg (by omega), ge0 rfl]; exact gunk_0.mpr i
  have e7 := l.now.2.2.1
  have hh : 0 ≤ a.1.2.2.1 ∧ a.1.2.2.1 ≤ 999 := ⟨wx.1.1.2.2.1.1, wx.1.2⟩
  suffices H : ∀ (f : Nat) (x6 x7 : Int) (o8 o9 : Option zV), 21 - x7 < f → 0 ≤ x7 → x7 ≤ 21 → TZ (d + 5) 243 82 [some (.inr 100), some (.inl x1), some (.inl x2), some (.inl x3), some (.inl x4), some (.inl 0), some (.inl x6), some (.inl x7), o8, o9] [] Z2 (zri (QD Z a (ctrains x1 x2 x3 x4))) from H 22 0 0 none none (by decide) (by decide) (by decide)
  intro f
  induction f with
  | zero => intro x6 x7 o8 o9 y1 y2 y3; omega
  | succ f ih =>
    intro x6 x7 o8 o9 y1 y2 y3
    have t : Int.tmod (Z2 100 7 + x7) 12 = (Z2 100 7 + x7) % 12 := Int.tmod_eq_emod_of_nonneg (by omega)
    refine w243_82 ⟨by unfold zR; omega, by unfold zR; omega, fun _ => D_ok l hc, fun y => ⟨by unfold zR; omega, D_242 (by rw [t]; omega) (by omega) (by omega) fun r hr => ⟨by omega, D_242 (by have := (hf x7 y2 (by omega)).1; omega) (by omega) (by omega) fun r9 hr9 => ?_⟩⟩⟩
    have nx : ∀ v, TZ (d + 5) 243 82 [some (.inr 100), some (.inl x1), some (.inl x2), some (.inl x3), some (.inl x4), some (.inl 0), some (.inl v), some (.inl (x7 + 1)), some (.inl r), some (.inl r9)] [] Z2 (zri (QD Z a (ctrains x1 x2 x3 x4))) := fun v => ih _ _ _ _ (by omega) (by omega) (by omega)
    have zr : zR r := by unfold zR; omega
    exact ⟨zr, by unfold zR; omega, fun _ => nx _, fun _ => ⟨h4, fun _ => ⟨zr, fun _ => nx _, fun _ => nx _⟩, fun _ => ⟨zr, fun _ => nx _, fun _ => nx _⟩⟩⟩
theorem D_245 {x1 x2 : Int} {Q : Int → zM → Prop} (m : QS Z Z1 a) (wx : WX a) (vx : VX a) (h1 : zR x1) (h2 : 0 ≤ x2 ∧ x2 < 5) (hQ : ∀ r Z2, 0 ≤ r → r ≤ 6 → QS Z Z2 a → Q r Z2) : TI (d + 5) 245 [.inr 100, .inl x1, .inl x2] Z1 Q := by
  have hW : 5 ≤ a.1.2.1 ∧ a.1.2.1 ≤ 6 := wx.1.1.2.1
  exact w245_0 ⟨h1, by unfold zR; omega, fun _ => D_220 m wx vx (by omega) hQ, fun _ => D_220 m wx vx (by omega) hQ⟩
theorem D_246 {x1 : Int} {Q : Int → zM → Prop} (m : QS Z Z1 a) (wx : WX a) (vx : VX a) (h1 : zR x1) (hQ : ∀ r Z2, 0 ≤ r → r ≤ 6 → QS Z Z2 a → Q r Z2) : TI (d + 6) 246 [.inr 100, .inl x1] Z1 Q := by
  refine w246_0 ?_
  suffices H : ∀ (f : Nat) (x2 x3 : Int) (Z1 : zM), 5 - x3 < f → 0 ≤ x3 → x3 ≤ 5 → 0 ≤ x2 → x2 ≤ 6 → QS Z Z1 a → TZ (d + 6) 246 4 [some (.inr 100), some (.inl x1), some (.inl x2), some (.inl x3)] [] Z1 (zri Q) from H 6 0 0 Z1 (by decide) (by decide) (by decide) (by decide) (by decide) m
  intro f
  induction f with
  | zero => intro x2 x3 Z1 y1 y2 y3 y4 y5 l; omega
  | succ f ih => intro x2 x3 Z1 y1 y2 y3 y4 y5 l; exact w246_4 ⟨by unfold zR; omega, fun _ => hQ _ Z1 y4 y5 l, fun _ => D_245 l wx vx h1 (by omega) fun r Z2 r1 r2 l2 => ⟨by unfold zR; omega, by unfold zR; omega, fun _ => ih _ _ Z2 (by omega) (by omega) (by omega) y4 y5 l2, fun _ => D_245 l2 wx vx h1 (by omega) fun r3 Z3 r4 r5 l3 => ih _ _ Z3 (by omega) (by omega) (by omega) r4 r5 l3⟩⟩
theorem D_247 {x1 : Int} {Q : Int → zM → Prop} (m : QS Z Z1 a) (wx : WX a) (vx : VX a) (h1 : 0 ≤ x1 ∧ x1 < 5) (hQ : ∀ r Z2, zR r → QS Z Z2 a → Q r Z2) : TI (d + 6) 247 [.inr 100, .inl x1] Z1 Q := by
  refine w247_0 ?_
  suffices H : ∀ (f : Nat) (x2 x3 : Int) (Z1 : zM), 5 - x3 < f → 0 ≤ x3 → x3 ≤ 5 → 0 ≤ x2 → x2 ≤ 12 → QS Z Z1 a → TZ (d + 6) 247 5 [some (.inr 100), some (.inl x1), some (.inl x2), some (.inl x3)] [] Z1 (zri Q) from H 6 12 0 Z1 (by decide) (by decide) (by decide) (by decide) (by decide) m
  intro f
  induction f with
  | zero => intro x2 x3 Z1 y1 y2 y3 y4 y5 l; omega
  | succ f ih => intro x2 x3 Z1 y1 y2 y3 y4 y5 l; exact w247_5 ⟨by unfold zR; omega, fun _ => hQ _ Z1 (by unfold zR; omega) l, fun _ => D_245 l wx vx (by unfold zR; omega) h1 fun r Z2 r1 r2 l2 => R_lesser (by unfold zR; omega) (by unfold zR; omega) (ih _ _ Z2 (by omega) (by omega) (by omega) (by omega) (by omega) l2)⟩
theorem U_watch {x1 : Int} (A : RX Z a) (wx : WX a) (vx : VX a) (h1 : zR x1) : TI (d + 7) 248 [.inr 100, .inl x1] Z (QD Z a (gunk x1 2)) := by
  have m := QS.refl A
  refine w248_0 (R_isIn h1 (by decide) (by decide) (fun i => ⟨by decide, fun _ => ?_, fun e => absurd (show (1 : Int) ≠ 0 by decide) e⟩) (fun i => ⟨by decide, fun e => absurd rfl e, fun _ => D_no m wx (gu2 i) (by decide)⟩))
  have hc := gunk_0.mpr i
  suffices H : ∀ (f : Nat) (x2 x3 x4 : Int) (Z1 : zM), 5 - x4 < f → 0 ≤ x4 → x4 ≤ 5 → 0 ≤ x2 → x2 < 5 → zR x3 → QS Z Z1 a → TZ (d + 7) 248 23 [some (.inr 100), some (.inl x1), some (.inl x2), some (.inl x3), some (.inl x4)] [] Z1 (zri (QD Z a (gunk x1 2))) from H 6 0 0 0 Z (by decide) (by decide) (by decide) (by decide) (by decide) (by decide) m
  intro f
  induction f with
  | zero => intro x2 x3 x4 Z1 y1 y2 y3 y4 y5 y6 l; omega
  | succ f ih =>
    intro x2 x3 x4 Z1 y1 y2 y3 y4 y5 y6 l
    have nx : ∀ x2 x3 Z2, 0 ≤ x4 → x4 < 5 → 0 ≤ x2 → x2 < 5 → zR x3 → QS Z Z2 a → TZ (d + 7) 248 23 [some (.inr 100), some (.inl x1), some (.inl x2), some (.inl x3), some (.inl (x4 + 1))] [] Z2 (zri (QD Z a (gunk x1 2))) := fun x2 x3 Z2 q0 q1 q2 q3 q4 q5 => ih _ _ _ Z2 (by omega) (by omega) (by omega) q2 q3 q4 q5
    refine w248_23 ⟨by unfold zR; omega, fun _ => ⟨h1, fun _ => ⟨h1, fun _ => D_ok l hc, fun _ => D_ok l hc⟩, fun _ => D_246 l wx vx (by unfold zR; omega) fun r Z2 _ _ l2 => D_ok l2 hc⟩, fun _ => D_246 l wx vx (by unfold zR; omega) fun r Z2 r1 r2 l2 => D_246 l2 wx vx (by unfold zR; omega) fun r3 Z3 r4 r5 l3 => ⟨by unfold zR; omega, by unfold zR; omega, fun _ => D_247 l3 wx vx (by omega) fun r6 Z6 hr6 l6 => ⟨hr6, y6, fun _ => nx _ _ Z6 (by omega) (by omega) y4 y5 y6 l6, fun _ => D_247 l6 wx vx (by omega) fun r7 Z7 hr7 l7 => nx _ _ Z7 (by omega) (by omega) y4 y5 hr7 l7⟩, fun _ => D_247 l3 wx vx (by omega) fun r6 Z6 hr6 l6 => ⟨hr6, y6, fun _ => nx _ _ Z6 (by omega) (by omega) (by omega) (by omega) y6 l6, fun _ => D_247 l6 wx vx (by omega) fun r7 Z7 hr7 l7 => nx _ _ Z7 (by omega) (by omega) (by omega) (by omega) hr7 l7⟩⟩⟩
theorem U_settled (A : RX Z a) (wx : WX a) (vx : VX a) : TI (d + 5) 252 [.inr 100] Z (QD Z a 0) := by
  refine w252_0 (D_205 (QS.refl A) wx vx (by decide) fun Z2 l hf => ?_)
  suffices H : ∀ (f : Nat) (x1 : Int), 41 - x1 < f → 0 ≤ x1 → x1 ≤ 41 → TZ (d + 5) 252 8 [some (.inr 100), some (.inl x1)] [] Z2 (zri (QD Z a 0)) from H 42 0 (by decide) (by decide) (by decide)
  intro f
  induction f with
  | zero => intro x1 y1 y2 y3; omega
  | succ f ih => intro x1 y1 y2 y3; exact w252_8 ⟨by unfold zR; omega, fun _ => D_ok l rfl, fun _ => ⟨by omega, by omega, by omega, zbit_r _ _ _, fun _ => ih _ (by omega) (by omega) (by omega), fun _ => D_ok l rfl⟩⟩
theorem D_253 {Q : Int → zM → Prop} (m : QK Z Z1 a B) (wx : WX a) (h : ∀ j, 0 ≤ j → j < a.1.1 → zR (Z1 122 j)) (hQ : ∀ r, (r = 0 ∨ r = 1) → Q r Z1) : TI d 253 [.inr 100] Z1 Q := by
  have hn : 0 ≤ a.1.1 ∧ a.1.1 ≤ 8 := wx.1.1.1
  have hW : 5 ≤ a.1.2.1 ∧ a.1.2.1 ≤ 6 := wx.1.1.2.1
  have e5 := m.now.1
  refine w253_0 ?_
  suffices H : ∀ (f : Nat) (x1 : Int), 8 - x1 < f → 0 ≤ x1 → x1 ≤ 8 → TZ d 253 2 [some (.inr 100), some (.inl x1)] [] Z1 (zri Q) from H 9 0 (by decide) (by decide) (by decide)
  intro f
  induction f with
  | zero => intro x1 y1 y2 y3; omega
  | succ f ih =>
    intro x1 y1 y2 y3
    refine w253_2 ⟨by unfold zR; omega, by unfold zR; omega, fun _ => hQ 1 (Or.inr rfl), fun c => ⟨by omega, by omega, ?_, h x1 y2 (by omega), fun _ => ih _ (by omega) (by omega) (by omega), fun _ => hQ 0 (Or.inl rfl)⟩⟩
    have := m.sits (b := x1) (by omega); unfold zR; omega
theorem U_round (A : RX Z a) (wx : WX a) (vx : VX a) : TI (d + 5) 254 [.inr 100] Z (QD Z a 0) := by
  have hn : 0 ≤ a.1.1 ∧ a.1.1 ≤ 8 := wx.1.1.1
  have hW : 5 ≤ a.1.2.1 ∧ a.1.2.1 ≤ 6 := wx.1.1.2.1
  have main : ∀ (f : Nat) (x1 x2 : Int) (Z1 : zM), 61 - x2 < f → 1 ≤ x2 → x2 ≤ 61 → (x1 = -9 ∨ 0 ≤ x1 ∧ x1 ≤ 61) → QK Z Z1 a (999 + x2) → (∀ j, 0 ≤ j → j < a.1.1 → zR (Z1 122 j)) → TZ (d + 5) 254 37 [some (.inr 100), some (.inl x1), some (.inl x2)] [] Z1 (zri (QD Z a 0)) := by
    intro f
    induction f with
    | zero => intro x1 x2 Z1 y1 y2 y3 y4 k h; omega
    | succ f ih =>
      intro x1 x2 Z1 y1 y2 y3 y4 k h
      have t : Int.tmod x2 3 = x2 % 3 := Int.tmod_eq_emod_of_nonneg (by omega)
      refine w254_37 ⟨by unfold zR; omega, fun _ => D_forgets k wx fun Z3 l _ => D_ok l rfl, fun c => ⟨by unfold zR; omega, fun _ => D_forgets k wx fun Z3 l _ => D_ok l rfl, fun _ => D_pass k wx (by omega) (by omega) fun r Z3 _ k3 s3 => ?_⟩⟩
      have h3 : ∀ j, 0 ≤ j → j < a.1.1 → zR (Z3 122 j) := fun j j1 j2 => by rw [s3 122 (by decide)]; exact h j j1 j2
      have nx : ∀ x1, (x1 = -9 ∨ 0 ≤ x1 ∧ x1 ≤ 61) → TZ (d + 5) 254 37 [some (.inr 100), some (.inl x1), some (.inl (x2 + 1))] [] Z3 (zri (QD Z a 0)) := fun x1 hx => ih _ _ Z3 (by omega) (by omega) (by omega) hx (k3.le (by omega)) h3
      exact ⟨by unfold zR; omega, by rw [t]; unfold zR; omega, fun _ => nx _ (Or.inl rfl), fun _ => D_253 k3 wx h3 fun r2 hr2 => ⟨by unfold zR; omega, fun _ => nx _ (Or.inl rfl), fun _ => nx _ (by omega)⟩⟩
  refine w254_0 ?_
  suffices H : ∀ (f : Nat) (x1 : Int) (Z1 : zM), 8 - x1 < f → 0 ≤ x1 → x1 ≤ 8 → QS Z Z1 a → (∀ j, 0 ≤ j → j < x1 → zR (Z1 122 j)) → TZ (d + 5) 254 2 [some (.inr 100), some (.inl x1), none] [] Z1 (zri (QD Z a 0)) from H 9 0 Z (by decide) (by decide) (by decide) (QS.refl A) (fun j j1 j2 => by omega)
  intro f
  induction f with
  | zero => intro x1 Z1 y1 y2 y3 l h; omega
  | succ f ih =>
    intro x1 Z1 y1 y2 y3 l h
    have e5 := l.now.1
    refine w254_2 ⟨by unfold zR; omega, by unfold zR; omega, fun c => D_thinks l wx vx fun Z4 k s => main 61 _ _ Z4 (by decide) (by decide) (by decide) (Or.inl rfl) (k.le (by decide)) (fun j j1 j2 => by rw [s 122 (by decide)]; exact h j j1 (by omega)), fun c => ⟨by omega, by omega, fun Z7 e7 => ih _ Z7 (by omega) (by omega) (by omega) (by subst e7; exact l.up wx (by unfold scq; omega)) fun j j1 j2 => ?_⟩⟩
    rw [e7]
    by_cases e : j = x1
    · subst e; rw [zup_same]; have := l.sits wx (b := j) (by omega); unfold zR; omega
    · rw [zup_place _ _ _ _ e]; exact h j j1 (by omega)
theorem U_always {x1 x2 : Int} (A : RX Z a) (wx : WX a) (vx : VX a) (h1 : zR x1) (h2 : zR x2) : TI (d + 5) 255 [.inr 100, .inl x1, .inl x2] Z (QD Z a (geith (gin a.1.2.1 x1) (gunk x2 1))) := by
  have m := QS.refl A
  have hW : 5 ≤ a.1.2.1 ∧ a.1.2.1 ≤ 6 := wx.1.1.2.1
  refine w255_0 (R_isWire m.now.2.1 (by unfold zR; omega) h1 (fun i => ⟨by decide, fun _ => R_isIn h2 (by decide) (by decide) (fun j => ⟨by decide, fun _ => D_thinks m wx vx fun Z9 k s => ?_, fun e => absurd (show (1 : Int) ≠ 0 by decide) e⟩) (fun j => ⟨by decide, fun e => absurd rfl e, fun _ => D_no m wx (by rw [ge0 (gin_0.mpr i), gu2 j]) (by decide)⟩), fun e => absurd (show (1 : Int) ≠ 0 by decide) e⟩) (fun i => ⟨by decide, fun e => absurd rfl e, fun _ => D_no m wx (by rw [gi1 i]; rfl) (by decide)⟩))
  have hc : geith (gin a.1.2.1 x1) (gunk x2 1) = 0 := geith_0.mpr ⟨gin_0.mpr i, gunk_0.mpr j⟩
  suffices H : ∀ (f : Nat) (x3 x4 x5 x6 : Int) (Z1 : zM), 21 - x6 < f → 0 ≤ x6 → x6 ≤ 21 → zR x4 → QK Z Z1 a (999 + x6) → TZ (d + 5) 255 51 [some (.inr 100), some (.inl x1), some (.inl x2), some (.inl x3), some (.inl x4), some (.inl x5), some (.inl x6)] [] Z1 (zri (QD Z a (geith (gin a.1.2.1 x1) (gunk x2 1)))) from H 22 0 (-1) 0 0 Z9 (by decide) (by decide) (by decide) (by decide) (k.le (by decide))
  intro f
  induction f with
  | zero => intro x3 x4 x5 x6 Z1 y1 y2 y3 y4 k; omega
  | succ f ih =>
    intro x3 x4 x5 x6 Z1 y1 y2 y3 y4 k
    exact w255_51 ⟨by unfold zR; omega, fun _ => D_forgets k wx fun Z3 l _ => ⟨h2, fun _ => D_ok l hc, fun _ => D_ok l hc⟩, fun _ => D_manyK k h1 fun r b1 b2 => ⟨by unfold zR; omega, y4, fun _ => D_pass k wx (by omega) (by omega) fun r2 Z3 _ k3 _ => ih _ _ _ _ Z3 (by omega) (by omega) (by omega) y4 (k3.le (by omega)), fun _ => D_manyK k h1 fun r3 b3 b4 => D_pass k wx (by omega) (by omega) fun r2 Z3 _ k3 _ => ih _ _ _ _ Z3 (by omega) (by omega) (by omega) (by unfold zR; omega) (k3.le (by omega))⟩⟩
theorem U_catWorth (A : RX Z a) (wx : WX a) (vx : VX a) : TI (d + 5) 256 [.inr 100] Z (QD Z a 0) := by
  have m := QS.refl A
  have hW : 5 ≤ a.1.2.1 ∧ a.1.2.1 ≤ 6 := wx.1.1.2.1
  refine w256_0 (D_wrongS m wx fun r r1 r2 => ?_)
  suffices H : ∀ (f : Nat) (x1 x2 x3 : Int) (o4 : Option zV) (Z1 : zM), 6 - x3 < f → 0 ≤ x3 → x3 ≤ 6 → zR x1 → QS Z Z1 a → TZ (d + 5) 256 10 [some (.inr 100), some (.inl x1), some (.inl x2), some (.inl x3), o4] [] Z1 (zri (QD Z a 0)) from H 7 r (-9) 0 none Z (by decide) (by decide) (by decide) (by unfold zR; omega) m
  intro f
  induction f with
  | zero => intro x1 x2 x3 o4 Z1 y1 y2 y3 y4 l; omega
  | succ f ih =>
    intro x1 x2 x3 o4 Z1 y1 y2 y3 y4 l
    have e6 := l.now.2.1
    exact w256_10 ⟨by unfold zR; omega, by unfold zR; omega, fun _ => D_ok l rfl, fun _ => D_thinks l wx vx fun Z4 k _ => D_cats k wx (by omega) fun r5 Z5 k5 _ => D_wrongK k5 fun r6 b1 b2 => D_forgets k5 wx fun Z9 l9 _ => ⟨by unfold zR; omega, y4, fun _ => ih _ _ _ _ Z9 (by omega) (by omega) (by omega) (by unfold zR; omega) l9, fun _ => ih _ _ _ _ Z9 (by omega) (by omega) (by omega) y4 l9⟩⟩
end
