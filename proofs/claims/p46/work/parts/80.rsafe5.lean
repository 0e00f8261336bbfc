/-! THE REFERENCE's looks, fifth part -/
section
variable {d : Nat} {Z Z1 Z2 : zM} {a : gX} {B : Int}
theorem D_257 {x0 : Int} {Q : Int → zM → Prop} (hQ : ∀ r, 0 ≤ r → r ≤ 31 → Q r Z1) : TI d 257 [.inl x0] Z1 Q := by
  refine w257_0 ?_
  suffices H : ∀ (f : Nat) (x1 x2 : Int), 31 - x2 < f → 0 ≤ x2 → x2 ≤ 31 → 0 ≤ x1 → x1 ≤ x2 → TZ d 257 4 [some (.inl x0), some (.inl x1), some (.inl x2)] [] Z1 (zri Q) from H 32 0 0 (by decide) (by decide) (by decide) (by decide) (by decide)
  intro f
  induction f with
  | zero => intro x1 x2 y1 y2 y3 y4 y5; omega
  | succ f ih =>
    intro x1 x2 y1 y2 y3 y4 y5
    have b := zbit1 (zbit 7 x0 x2)
    exact w257_4 ⟨by unfold zR; omega, fun _ => hQ _ y4 (by omega), fun _ => ih _ _ (by omega) (by omega) (by omega) (by omega) (by omega)⟩
theorem D_258 {x1 : Int} {Q : Int → zM → Prop} (m : QS Z Z1 a) (wx : WX a) (hQ : ∀ r, zR r → Q r Z1) : TI (d + 1) 258 [.inr 100, .inl x1] Z1 Q := by
  have hn : 0 ≤ a.1.1 ∧ a.1.1 ≤ 8 := wx.1.1.1
  have hW : 5 ≤ a.1.2.1 ∧ a.1.2.1 ≤ 6 := wx.1.1.2.1
  have e5 := m.now.1
  have e6 := m.now.2.1
  have dv : 0 ≤ Int.tdiv (Z1 100 5) (Z1 100 6) ∧ Int.tdiv (Z1 100 5) (Z1 100 6) ≤ 8 := by
    rw [e5, e6, Int.tdiv_eq_ediv_of_nonneg hn.1]
    rcases (show a.1.2.1 = 5 ∨ a.1.2.1 = 6 by omega) with e | e <;> rw [e] <;> omega
  refine w258_0 ?_
  suffices H : ∀ (f : Nat) (x2 x3 x4 : Int), 6 - x4 < f → 0 ≤ x4 → x4 ≤ 6 → -20 * x4 ≤ x3 → x3 ≤ 20 * x4 → 0 ≤ x2 → x2 ≤ 1000 * x4 → TZ (d + 1) 258 7 [some (.inr 100), some (.inl x1), some (.inl x2), some (.inl x3), some (.inl x4)] [] Z1 (zri Q) from H 7 0 0 0 (by decide) (by decide) (by decide) (by decide) (by decide) (by decide) (by decide)
  intro f
  induction f with
  | zero => intro x2 x3 x4 y1 y2 y3 y4 y5 y6 y7; omega
  | succ f ih =>
    intro x2 x3 x4 y1 y2 y3 y4 y5 y6 y7
    have b := zbit1 (zbit 7 x1 x4)
    exact w258_7 ⟨by unfold zR; omega, by unfold zR; omega, fun _ => hQ x2 (by unfold zR; omega), fun _ => D_manyS m wx (by unfold zR; omega) fun r r1 r2 => ⟨by unfold zR; omega, by omega, by unfold zR; omega, fun _ => ih _ _ _ (by omega) (by omega) (by omega) (by omega) (by omega) (by omega) (by omega), fun _ => ih _ _ _ (by omega) (by omega) (by omega) (by omega) (by omega) (by omega) (by omega)⟩⟩
theorem U_spread {x1 : Int} (A : RX Z a) (wx : WX a) (h1 : zR x1) : TI (d + 3) 260 [.inr 100, .inl x1] Z (QD Z a (gunk x1 2)) := by
  have m := QS.refl A
  have hn : 0 ≤ a.1.1 ∧ a.1.1 ≤ 8 := wx.1.1.1
  have hW : 5 ≤ a.1.2.1 ∧ a.1.2.1 ≤ 6 := wx.1.1.2.1
  have e5 := m.now.1
  have e6 := m.now.2.1
  refine w260_0 (R_isIn h1 (by decide) (by decide) (fun i => ⟨by decide, fun _ => ⟨h1, fun _ => ⟨h1, fun _ => ?_, fun _ => ?_⟩, fun _ => D_216S m wx fun r _ => D_257 fun r2 _ _ => D_ok m (gunk_0.mpr i)⟩, fun e => absurd (show (1 : Int) ≠ 0 by decide) e⟩) (fun i => ⟨by decide, fun e => absurd rfl e, fun _ => D_no m wx (gu2 i) (by decide)⟩))
  · suffices H : ∀ (f : Nat) (x2 x3 : Int), 6 - x3 < f → 0 ≤ x3 → x3 ≤ 6 → zR x2 → TZ (d + 3) 260 42 [some (.inr 100), some (.inl x1), some (.inl x2), some (.inl x3)] [] Z (zri (QD Z a (gunk x1 2))) from H 7 0 0 (by decide) (by decide) (by decide) (by decide)
    intro f
    induction f with
    | zero => intro x2 x3 y1 y2 y3 y4; omega
    | succ f ih => intro x2 x3 y1 y2 y3 y4; exact w260_42 ⟨by unfold zR; omega, by unfold zR; omega, fun _ => D_ok m (gunk_0.mpr i), fun _ => D_manyS m wx (by unfold zR; omega) fun r r1 r2 => ⟨by unfold zR; omega, y4, fun _ => ih _ _ (by omega) (by omega) (by omega) y4, fun _ => D_manyS m wx (by unfold zR; omega) fun r3 r4 r5 => ih _ _ (by omega) (by omega) (by omega) (by unfold zR; omega)⟩⟩
  · refine w259_0 ?_
    have zb : 0 ≤ zbit 6 1 (Z 100 6) ∧ zbit 6 1 (Z 100 6) ≤ 64 := by
      rw [e6]
      rcases (show a.1.2.1 = 5 ∨ a.1.2.1 = 6 by omega) with e | e <;> rw [e] <;> decide
    have mv : zR (Int.tmod (Z 100 5) (Z 100 6)) := by
      rw [e5, e6, Int.tmod_eq_emod_of_nonneg hn.1]
      rcases (show a.1.2.1 = 5 ∨ a.1.2.1 = 6 by omega) with e | e <;> rw [e] <;> unfold zR <;> omega
    suffices H : ∀ (f : Nat) (x1' x2 : Int), 64 - x2 < f → 0 ≤ x2 → x2 ≤ 64 → zR x1' → TZ (d + 2) 259 5 [some (.inr 100), some (.inl x1'), some (.inl x2)] [] Z (zri (QD Z a (gunk x1 2))) from H 65 100 0 (by decide) (by decide) (by decide) (by decide)
    intro f
    induction f with
    | zero => intro x1' x2 y1 y2 y3 y4; omega
    | succ f ih => intro x1' x2 y1 y2 y3 y4; exact w259_5 ⟨by unfold zR; omega, by unfold zR; omega, fun _ => D_ok m (gunk_0.mpr i), fun _ => D_257 fun r r1 r2 => ⟨by unfold zR; omega, by omega, by unfold zR; omega, mv, fun _ => ih _ _ (by omega) (by omega) (by omega) y4, fun _ => D_258 m wx fun r3 hr3 => R_lesser y4 hr3 (ih _ _ (by omega) (by omega) (by omega) (by unfold zR at *; omega))⟩⟩
theorem U_later {x1 x2 : Int} (A : RX Z a) (wx : WX a) (vx : VX a) (h1 : zR x1) (h2 : zR x2) : TI (d + 5) 261 [.inr 100, .inl x1, .inl x2] Z (QD Z a (geith (gout x1 0 20) (gunk x2 1))) := by
  have m := QS.refl A
  have hh : 0 ≤ a.1.2.2.1 ∧ a.1.2.2.1 ≤ 999 := ⟨wx.1.1.2.2.1.1, wx.1.2⟩
  refine w261_0 (D_206 h1 ⟨zR9 gb3, fun c => ⟨zR9 gb3, fun e => absurd e c, fun _ => D_no m wx (ge1 c) (go_n c)⟩, fun c => ?_⟩)
  have c : gout x1 0 20 = 0 := by omega
  have c1 := gout_0.mp c
  refine R_isIn h2 (by decide) (by decide) (fun i => ⟨by decide, fun _ => ⟨zR9 gb3, fun _ => D_205 m wx vx (by omega) fun Z2 l hf => ?_, fun e => absurd c e⟩, fun e => absurd (show (1 : Int) ≠ 0 by decide) e⟩) (fun i => ⟨by decide, fun e => absurd rfl e, fun _ => D_no m wx (by rw [ge0 c, gu2 i]) (by decide)⟩)
  have ok : ∀ r, QD Z a (geith (gout x1 0 20) (gunk x2 1)) r Z2 := fun r => D_ok l (by rw [ge0 c]; exact gunk_0.mpr i)
  have e7 := l.now.2.2.1
  have v := (hf x1 c1.1 (by omega)).1
  have t : Int.tmod (Z2 100 7 + x1) 12 = (Z2 100 7 + x1) % 12 := Int.tmod_eq_emod_of_nonneg (by omega)
  rw [t]
  have t2 : Int.tmod ((Z2 100 7 + x1) % 12 - Z2 111 x1 + 12) 12 = ((Z2 100 7 + x1) % 12 - Z2 111 x1 + 12) % 12 := Int.tmod_eq_emod_of_nonneg (by omega)
  rw [t2]
  exact ⟨by unfold zR; omega, by omega, by unfold zR; omega, h2, fun _ => ⟨by unfold zR; omega, ok _⟩, fun _ => ok _⟩
theorem U_stayed {x1 : Int} (A : RX Z a) (wx : WX a) (vx : VX a) (h1 : zR x1) : TI (d + 5) 262 [.inr 100, .inl x1] Z (QD Z a (gout x1 0 20)) := by
  have m := QS.refl A
  refine w262_0 (D_206 h1 ⟨zR9 gb3, fun c => ?_, fun c => D_no m wx rfl (go_n c)⟩)
  have c1 := gout_0.mp c
  refine D_205 m wx vx (by omega) fun Z2 l hf => ?_
  suffices H : ∀ (f : Nat) (x3 x4 : Int), 20 - x4 < f → 0 ≤ x4 → x4 ≤ 20 → TZ (d + 5) 262 25 [some (.inr 100), some (.inl x1), some (.inl (gout x1 0 20)), some (.inl x3), some (.inl x4)] [] Z2 (zri (QD Z a (gout x1 0 20))) from H 21 0 0 (by decide) (by decide) (by decide)
  intro f
  induction f with
  | zero => intro x3 x4 y1 y2 y3; omega
  | succ f ih => intro x3 x4 y1 y2 y3; exact w262_25 ⟨by unfold zR; omega, by unfold zR; omega, fun _ => D_ok l c, fun _ => ⟨by omega, ih _ _ (by omega) (by omega) (by omega)⟩⟩
theorem D_263 {x1 x2 x3 : Int} {Q : Int → zM → Prop} (m : QS Z Z1 a) (wx : WX a) (vx : VX a) (h1 : 0 ≤ x1 ∧ x1 ≤ 4) (h2 : -1 ≤ x2 ∧ x2 < a.1.1) (h3 : zR x3) (wd : WD Z1 a.1.2.1 x1) (hQ : ∀ r Z2, (r = 0 ∨ r = 1) → QS Z Z2 a → Q r Z2) : TI (d + 4) 263 [.inr 100, .inl x1, .inl x2, .inl x3] Z1 Q := by
  have hn : 0 ≤ a.1.1 ∧ a.1.1 ≤ 8 := wx.1.1.1
  have hW : 5 ≤ a.1.2.1 ∧ a.1.2.1 ≤ 6 := wx.1.1.2.1
  refine w263_0 (D_thinks m wx vx fun Z2 k s => ?_)
  suffices H : ∀ (f : Nat) (x4 : Int) (Z1 : zM), 4 - x4 < f → 0 ≤ x4 → x4 ≤ 4 → QK Z Z1 a (999 + x4) → WD Z1 a.1.2.1 x1 → TZ (d + 4) 263 7 [some (.inr 100), some (.inl x1), some (.inl x2), some (.inl x3), some (.inl x4)] [] Z1 (zri Q) from H 5 0 Z2 (by decide) (by decide) (by decide) (k.le (by decide)) (wd.same s)
  intro f
  induction f with
  | zero => intro x4 Z1 y1 y2 y3 k w; omega
  | succ f ih =>
    intro x4 Z1 y1 y2 y3 k w
    refine w263_7 ⟨by unfold zR; omega, by unfold zR; omega, fun _ => ⟨by unfold zR; omega, fun _ => D_216K k wx fun r _ => D_257 fun r2 b1 b2 => ⟨by unfold zR; omega, h3, fun _ => D_forgets k wx fun Z3 l _ => hQ _ Z3 (Or.inl rfl) l, fun _ => D_forgets k wx fun Z3 l _ => hQ _ Z3 (Or.inr rfl) l⟩, fun _ => ⟨by omega, ?_, h3, fun _ => D_forgets k wx fun Z3 l _ => hQ _ Z3 (Or.inl rfl) l, fun _ => D_forgets k wx fun Z3 l _ => hQ _ Z3 (Or.inr rfl) l⟩⟩, fun _ => ⟨by omega, ?_⟩⟩
    · have := k.sits (b := x2) (by omega); unfold zR; omega
    · have wj := w x4 y2 (by omega)
      exact D_pass k wx (by omega) (by omega) fun r Z3 _ k3 s3 => ih _ Z3 (by omega) (by omega) (by omega) (k3.le (by omega)) (w.same s3)
theorem D_264 {x1 x2 : Int} {Q : Int → zM → Prop} (m : QS Z Z1 a) (wx : WX a) (vx : VX a) (h1 : -1 ≤ x1 ∧ x1 < a.1.1) (h2 : zR x2) (hQ : ∀ r Z2, -9 ≤ r → r ≤ 4 → QS Z Z2 a → Q r Z2) : TI (d + 5) 264 [.inr 100, .inl x1, .inl x2] Z1 Q := by
  have hW : 5 ≤ a.1.2.1 ∧ a.1.2.1 ≤ 6 := wx.1.1.2.1
  refine w264_0 ?_
  suffices H : ∀ (f : Nat) (x3 : Int) (o4 : Option zV) (Z1 : zM), 5 - x3 < f → 0 ≤ x3 → x3 ≤ 5 → QS Z Z1 a → TZ (d + 5) 264 2 [some (.inr 100), some (.inl x1), some (.inl x2), some (.inl x3), o4] [] Z1 (zri Q) from H 6 0 none Z1 (by decide) (by decide) (by decide) m
  intro f
  induction f with
  | zero => intro x3 o4 Z1 y1 y2 y3 l; omega
  | succ f ih =>
    intro x3 o4 Z1 y1 y2 y3 l
    refine w264_2 ⟨by unfold zR; omega, fun _ => hQ _ Z1 (by decide) (by decide) l, fun c => ?_⟩
    suffices H : ∀ (g : Nat) (x4 : Int) (Z1 : zM), 2401 - x4 < g → 0 ≤ x4 → x4 ≤ 2401 → QS Z Z1 a → TZ (d + 5) 264 10 [some (.inr 100), some (.inl x1), some (.inl x2), some (.inl x3), some (.inl x4)] [] Z1 (zri Q) from H 2402 0 Z1 (by decide) (by decide) (by decide) l
    intro g
    induction g with
    | zero => intro x4 Z1 z1 z2 z3 l; omega
    | succ g ihg =>
      intro x4 Z1 z1 z2 z3 l
      exact w264_10 (D_212 l.now.2.1 hW (by omega) fun r r1 r2 => ⟨by unfold zR; omega, by unfold zR; omega, fun _ => ih _ _ Z1 (by omega) (by omega) (by omega) l, fun c4 => D_213 l.now.2.1 hW (by omega) (by omega) fun Z8 g8 wd => D_263 (l.one wx (c := 114) (by unfold scq; omega) g8) wx vx (by omega) h1 h2 wd fun r3 Z3 hr3 l3 => ⟨by unfold zR; omega, fun _ => ihg _ Z3 (by omega) (by omega) (by omega) l3, fun _ => hQ _ Z3 (by omega) (by omega) l3⟩⟩)
theorem U_lured {x1 x2 x3 : Int} (A : RX Z a) (wx : WX a) (vx : VX a) (h1 : zR x1) (h2 : zR x2) (h3 : zR x3) : TI (d + 6) 265 [.inr 100, .inl x1, .inl x2, .inl x3] Z (QD Z a (clured a x1 x2 x3)) := by
  have m := QS.refl A
  have hn : 0 ≤ a.1.1 ∧ a.1.1 ≤ 8 := wx.1.1.1
  have hW : 5 ≤ a.1.2.1 ∧ a.1.2.1 ≤ 6 := wx.1.1.2.1
  refine w265_0 (R_isBird m.now.1 (by unfold zR; omega) h1 (fun i => ⟨by decide, fun e => absurd e (by decide), fun _ => R_isWire m.now.2.1 (by unfold zR; omega) h2 (fun j => ⟨by decide, fun _ => ⟨h3, fun c => D_264 m wx vx (by omega) h2 fun r Z2 r1 r2 l => ?_, fun c => D_no m wx (by unfold clured; rw [ge0 (gin_0.mpr i), ge0 (gin_0.mpr j)]; exact gu4 c) (by decide)⟩, fun e => absurd (show (1 : Int) ≠ 0 by decide) e⟩) (fun j => ⟨by decide, fun e => absurd rfl e, fun _ => D_no m wx (by unfold clured; rw [ge0 (gin_0.mpr i), gi1 j]; rfl) (by decide)⟩)⟩) (fun i => ⟨by decide, fun _ => D_no m wx (by unfold clured; rw [gi1 i]; rfl) (by decide), fun e => absurd rfl e⟩))
  have hc : clured a x1 x2 x3 = 0 := by unfold clured; rw [ge0 (gin_0.mpr i), ge0 (gin_0.mpr j)]; exact gu0 c
  exact ⟨h3, fun _ => ⟨h3, by unfold zR; omega, fun _ => D_ok l hc, fun _ => ⟨by omega, D_ok l hc⟩⟩, fun _ => D_ok l hc⟩
theorem U_gather {x1 : Int} (A : RX Z a) (wx : WX a) (vx : VX a) (h1 : zR x1) : TI (d + 6) 268 [.inr 100, .inl x1] Z (QD Z a (gout x1 1 6)) := by
  have m := QS.refl A
  have hn : 0 ≤ a.1.1 ∧ a.1.1 ≤ 8 := wx.1.1.1
  exact w268_0 (R_bound h1 (by decide) (by decide) ⟨zR9 gb3, fun c => D_264 m wx vx (by omega) h1 fun r Z2 _ _ l => D_ok l c, fun c => D_no m wx rfl (go_n c)⟩)
theorem U_right {x1 x2 : Int} (A : RX Z a) (wx : WX a) (vx : VX a) (h1 : zR x1) (h2 : zR x2) : TI (d + 5) 266 [.inr 100, .inl x1, .inl x2] Z (QD Z a (geith (gout x1 0 20) (gunk x2 1))) := by
  have m := QS.refl A
  refine w266_0 (D_206 h1 ⟨zR9 gb3, fun c => ⟨zR9 gb3, fun e => absurd e c, fun _ => D_no m wx (ge1 c) (go_n c)⟩, fun c => ?_⟩)
  have c : gout x1 0 20 = 0 := by omega
  have c1 := gout_0.mp c
  refine R_isIn h2 (by decide) (by decide) (fun i => ⟨by decide, fun _ => ⟨zR9 gb3, fun _ => D_205 m wx vx (by omega) fun Z2 l hf => ?_, fun e => absurd c e⟩, fun e => absurd (show (1 : Int) ≠ 0 by decide) e⟩) (fun i => ⟨by decide, fun e => absurd rfl e, fun _ => D_no m wx (by rw [ge0 c, gu2 i]) (by decide)⟩)
  have ok : ∀ r, QD Z a (geith (gout x1 0 20) (gunk x2 1)) r Z2 := fun r => D_ok l (by rw [ge0 c]; exact gunk_0.mpr i)
  suffices H : ∀ (f : Nat) (x4 x5 x6 x7 : Int), 21 - x7 < f → 1 ≤ x7 → x7 ≤ 21 → 0 ≤ x5 → x5 ≤ x7 → 0 ≤ x6 → x6 ≤ x7 → TZ (d + 5) 266 48 [some (.inr 100), some (.inl x1), some (.inl x2), some (.inl (gout x1 0 20)), some (.inl x4), some (.inl x5), some (.inl x6), some (.inl x7)] [] Z2 (zri (QD Z a (geith (gout x1 0 20) (gunk x2 1)))) from H 21 0 0 0 1 (by decide) (by decide) (by decide) (by decide) (by decide) (by decide) (by decide)
  intro f
  induction f with
  | zero => intro x4 x5 x6 x7 y1 y2 y3 y4 y5 y6 y7; exact w266_48 ⟨by unfold zR; omega, h1, fun _ => ⟨h2, fun _ => ok _, fun _ => ok _⟩, fun y => absurd (show x1 < x7 by omega) y⟩
  | succ f ih =>
    intro x4 x5 x6 x7 y1 y2 y3 y4 y5 y6 y7
    refine w266_48 ⟨by unfold zR; omega, h1, fun _ => ⟨h2, fun _ => ok _, fun _ => ok _⟩, fun y => ?_⟩
    have v := (hf x7 (by omega) (by omega)).2.1
    have zv : zR (Z2 112 x7) := by unfold zR; omega
    have nx : ∀ x4 x5 x6, 0 ≤ x5 → x5 ≤ x7 + 1 → 0 ≤ x6 → x6 ≤ x7 + 1 → TZ (d + 5) 266 48 [some (.inr 100), some (.inl x1), some (.inl x2), some (.inl (gout x1 0 20)), some (.inl x4), some (.inl x5), some (.inl x6), some (.inl (x7 + 1))] [] Z2 (zri (QD Z a (geith (gout x1 0 20) (gunk x2 1)))) := fun x4 x5 x6 q1 q2 q3 q4 => ih _ _ _ _ (by omega) (by omega) (by omega) q1 q2 q3 q4
    exact ⟨by omega, zv, fun _ => ⟨by omega, zv, fun _ => ⟨by unfold zR; omega, fun _ => nx _ _ _ (by omega) (by omega) (by omega) (by omega), fun _ => nx _ _ _ (by omega) (by omega) (by omega) (by omega)⟩, fun _ => ⟨by unfold zR; omega, fun _ => nx _ _ _ (by omega) (by omega) (by omega) (by omega), fun _ => nx _ _ _ (by omega) (by omega) (by omega) (by omega)⟩⟩, fun _ => ⟨by omega, zv, fun _ => ⟨by unfold zR; omega, by unfold zR; omega, fun _ => nx _ _ _ (by omega) (by omega) (by omega) (by omega), fun _ => nx _ _ _ (by omega) (by omega) (by omega) (by omega)⟩, fun _ => ⟨by unfold zR; omega, by unfold zR; omega, fun _ => nx _ _ _ (by omega) (by omega) (by omega) (by omega), fun _ => nx _ _ _ (by omega) (by omega) (by omega) (by omega)⟩⟩⟩
def oemp (a : gX) : gX := (a.1, a.2.1, a.2.2.1, a.2.2.2.1, (0, a.2.2.2.2.1.2), a.2.2.2.2.2)
theorem oemp_w (wx : WX a) : WX (oemp a) := wx
theorem oemp_v (vx : VX a) : VX (oemp a) := vx
theorem U_judge (A : RX Z a) (wx : WX a) (vx : VX a) : TI (d + 5) 270 [.inr 100] Z (fun r Z' => ∃ v, PostR Z (v, oemp a) r Z') := by
  obtain ⟨rb, rv⟩ := (QS.refl A).row
  have e26 := (QS.refl A).now.2.2.2
  refine w270_0 fun Z1 z1 => ?_
  have l1 : QS Z Z1 (oemp a) := by
    subst z1
    exact ⟨RY26 A wx, fun q hq => funext fun p => zup_cell _ _ _ _ (by omega)⟩
  rw [e26]
  refine D_205s l1 (oemp_w wx) (oemp_v vx) (by omega) fun Z2 l hf hs => ?_
  have ok : ∀ r, (∃ v, PostR Z (v, oemp a) r Z2) := fun r => ⟨r, rfl, l.1, l.2⟩
  suffices H : ∀ (f : Nat) (x2 : Int), 12 - x2 < f → 0 ≤ x2 → x2 ≤ 12 → TZ (d + 5) 270 17 [some (.inr 100), some (.inl a.2.2.2.2.1.1), some (.inl x2)] [] Z2 (zri (fun r Z' => ∃ v, PostR Z (v, oemp a) r Z')) from H 13 0 (by decide) (by decide) (by decide)
  intro f
  induction f with
  | zero => intro x2 y1 y2 y3; omega
  | succ f ih =>
    intro x2 y1 y2 y3
    refine w270_17 ⟨by unfold zR; omega, by unfold zR; omega, fun _ => ok _, fun c => ⟨by omega, by omega, ?_, ?_, fun _ => ih _ (by omega) (by omega) (by omega), fun _ => ok _⟩⟩
    · have := (hf x2 y2 (by omega)).1; unfold zR; omega
    · have := (rv x2 y2 (by omega)).2
      rw [hs 116 (by decide), z1, zup_cell _ _ _ _ (by decide)]; unfold zR; omega
theorem U_lots {x1 x2 x3 : Int} (A : RX Z a) (wx : WX a) (vx : VX a) (h1 : zR x1) (h3 : zR x3) : TI (d + 5) 272 [.inr 100, .inl x1, .inl x2, .inl x3] Z (QD Z a (geith (gout x1 1 20) (gunk x3 1))) := by
  have m := QS.refl A
  have hW : 5 ≤ a.1.2.1 ∧ a.1.2.1 ≤ 6 := wx.1.1.2.1
  refine w272_0 (R_bound h1 (by decide) (by decide) ⟨zR9 gb3, fun c => ⟨zR9 gb3, fun e => absurd e c, fun _ => D_no m wx (ge1 c) (go_n c)⟩, fun c => ?_⟩)
  have c : gout x1 1 20 = 0 := by omega
  have c1 := gout_0.mp c
  refine R_isIn h3 (by decide) (by decide) (fun i => ⟨by decide, fun _ => ⟨zR9 gb3, fun _ => ?_, fun e => absurd c e⟩, fun e => absurd (show (1 : Int) ≠ 0 by decide) e⟩) (fun i => ⟨by decide, fun e => absurd rfl e, fun _ => D_no m wx (by rw [ge0 c, gu2 i]) (by decide)⟩)
  have hc : geith (gout x1 1 20) (gunk x3 1) = 0 := by rw [ge0 c]; exact gunk_0.mpr i
  suffices H : ∀ (f : Nat) (x5 x6 x7 x8 : Int) (o9 : Option zV) (Z1 : zM), 20 - x8 < f → 0 ≤ x8 → x8 ≤ 20 → QS Z Z1 a → TZ (d + 5) 272 51 [some (.inr 100), some (.inl x1), some (.inl x2), some (.inl x3), some (.inl (gout x1 1 20)), some (.inl x5), some (.inl x6), some (.inl x7), some (.inl x8), o9] [] Z1 (zri (QD Z a (geith (gout x1 1 20) (gunk x3 1)))) from H 21 x2 0 0 0 none Z (by decide) (by decide) (by decide) m
  intro f
  induction f with
  | zero => intro x5 x6 x7 x8 o9 Z1 y1 y2 y3 l; omega
  | succ f ih =>
    intro x5 x6 x7 x8 o9 Z1 y1 y2 y3 l
    refine w272_51 ⟨by unfold zR; omega, by unfold zR; omega, fun _ => ⟨h3, fun _ => D_ok l hc, fun _ => D_ok l hc⟩, fun y => D_thinks l wx vx fun Z6 k _ => ?_⟩
    suffices H : ∀ (g : Nat) (x5 x6 x7 x9 : Int) (Z1 : zM), 20 - x9 < g → 0 ≤ x9 → x9 ≤ 20 → QK Z Z1 a (999 + x9) → TZ (d + 5) 272 64 [some (.inr 100), some (.inl x1), some (.inl x2), some (.inl x3), some (.inl (gout x1 1 20)), some (.inl x5), some (.inl x6), some (.inl x7), some (.inl x8), some (.inl x9)] [] Z1 (zri (QD Z a (geith (gout x1 1 20) (gunk x3 1)))) from H 21 x5 x6 x7 0 Z6 (by decide) (by decide) (by decide) (k.le (by decide))
    intro g
    induction g with
    | zero => intro x5 x6 x7 x9 Z1 z1 z2 z3 k; omega
    | succ g ihg =>
      intro x5 x6 x7 x9 Z1 z1 z2 z3 k
      have hz := zbit_r 3 ((x5 * 1103515245) + 12345) 2147483647
      have nn : 0 ≤ zbit 3 ((x5 * 1103515245) + 12345) 2147483647 := by
        have e : zbit 3 ((x5 * 1103515245) + 12345) 2147483647 = (Int32.ofInt ((x5 * 1103515245) + 12345) &&& Int32.ofInt 2147483647).toInt := rfl
        rw [e]
        exact (aand_nn (show 0 ≤ (Int32.ofInt 2147483647).toInt by decide)).1
      have t1 : (zbit 3 ((x5 * 1103515245) + 12345) 2147483647).tdiv 65536 = zbit 3 ((x5 * 1103515245) + 12345) 2147483647 / 65536 := Int.tdiv_eq_ediv_of_nonneg nn
      have t2 : (Int.tdiv (zbit 3 ((x5 * 1103515245) + 12345) 2147483647) 65536).tmod 8 = (Int.tdiv (zbit 3 ((x5 * 1103515245) + 12345) 2147483647) 65536) % 8 := Int.tmod_eq_emod_of_nonneg (by rw [t1]; omega)
      unfold zR at hz
      exact w272_64 ⟨by unfold zR; omega, fun _ => D_forgets k wx fun Z3 l3 _ => ih _ _ _ _ _ Z3 (by omega) (by omega) (by omega) l3, fun _ => ⟨hz, by rw [t1]; unfold zR; omega, D_happens k wx (by rw [t2]; omega) fun Z7 k7 _ => D_pass k7 wx (by omega) (by omega) fun r Z8 _ k8 _ => D_wrongK k8 fun r2 _ _ => D_wrongK k8 fun r3 b1 b2 => ⟨by unfold zR; omega, fun _ => ihg _ _ _ _ Z8 (by omega) (by omega) (by omega) (k8.le (by omega)), fun _ => ihg _ _ _ _ Z8 (by omega) (by omega) (by omega) (k8.le (by omega))⟩⟩⟩
def TW12 (Z1 : zM) (m : Int) : Prop := ∀ j, 0 ≤ j → j < m → 0 ≤ Z1 120 j ∧ Z1 120 j ≤ 11
theorem D_249 {x0 x1 x2 : Int} {Q : Int → zM → Prop} (h0 : 0 ≤ x0 ∧ x0 ≤ 11) (h1 : 0 ≤ x1 ∧ x1 ≤ 11) (h2 : 0 ≤ x2 ∧ x2 ≤ 11) (hQ : ∀ r, 0 ≤ r → r ≤ 11 → Q r Z1) : TI (d + 1) 249 [.inl x0, .inl x1, .inl x2] Z1 Q :=
  w249_0 (R_lesser (by unfold zR; omega) (by unfold zR; omega) (R_lesser (by unfold zR; omega) (by unfold zR; omega) (R_lesser (by unfold zR; omega) (by unfold zR; omega) (R_lesser (by unfold zR; omega) (by unfold zR; omega) (hQ _ (by omega) (by omega))))))
theorem D_250 {Q : Int → zM → Prop} (m : QS Z Z1 a) (wx : WX a) (h : TW12 Z1 a.2.2.2.2.1.1) (hQ : ∀ r Z2, (r = 0 ∨ r = 1) → QS Z Z2 a → TW12 Z2 a.2.2.2.2.1.1 → Q r Z2) : TI (d + 2) 250 [.inr 100] Z1 Q := by
  have rb := m.row.1
  have last : ∀ (f : Nat) (x1 x2 : Int) (Z1 : zM), 12 - x2 < f → 0 ≤ x2 → x2 ≤ 12 → (x1 = 0 ∨ x1 = 1) → QS Z Z1 a → TW12 Z1 a.2.2.2.2.1.1 → (∀ j, 0 ≤ j → j < a.2.2.2.2.1.1 → 0 ≤ Z1 121 j ∧ Z1 121 j ≤ 11) → TZ (d + 2) 250 83 [some (.inr 100), some (.inl x1), some (.inl x2)] [] Z1 (zri Q) := by
    intro f
    induction f with
    | zero => intro x1 x2 Z1 y1 y2 y3 y4 l h g; omega
    | succ f ih =>
      intro x1 x2 Z1 y1 y2 y3 y4 l h g
      have e26 := l.now.2.2.2
      refine w250_83 ?_
      rw [e26]
      have nx : ∀ v Z12, x2 < a.2.2.2.2.1.1 → (v = 0 ∨ v = 1) → Z12 = zup Z1 120 x2 (Z1 121 x2) → TZ (d + 2) 250 83 [some (.inr 100), some (.inl v), some (.inl (x2 + 1))] [] Z12 (zri Q) := by
        intro v Z12 c hv e
        refine ih _ _ Z12 (by omega) (by omega) (by omega) hv (by subst e; exact l.up wx (by unfold scq; omega)) (fun j j1 j2 => ?_) (fun j j1 j2 => by rw [e, zup_cell _ _ _ _ (by decide)]; exact g j j1 j2)
        rw [e]
        by_cases ej : j = x2
        · subst ej; rw [zup_same]; exact g j j1 j2
        · rw [zup_place _ _ _ _ ej]; exact h j j1 j2
      have o0 : zbit 4 x1 0 = 0 ∨ zbit 4 x1 0 = 1 := by rcases y4 with e | e <;> subst e <;> decide
      have o1 : zbit 4 x1 1 = 0 ∨ zbit 4 x1 1 = 1 := by rcases y4 with e | e <;> subst e <;> decide
      refine ⟨by unfold zR; omega, by unfold zR; omega, fun _ => ⟨y4, hQ _ Z1 y4 l h⟩, fun c => ⟨by omega, by omega, ?_, ?_, fun _ => ⟨by omega, by omega, fun Z12 e => nx _ Z12 (by omega) o0 e⟩, fun _ => ⟨by omega, by omega, fun Z12 e => nx _ Z12 (by omega) o1 e⟩⟩⟩
      · have := g x2 y2 (by omega); unfold zR; omega
      · have := h x2 y2 (by omega); unfold zR; omega
  refine w250_0 ?_
  suffices H : ∀ (f : Nat) (x1 x2 : Int) (Z1 : zM), 12 - x2 < f → 0 ≤ x2 → x2 ≤ 12 → (x1 = 0 ∨ x1 = 1) → QS Z Z1 a → TW12 Z1 a.2.2.2.2.1.1 → (∀ j, 0 ≤ j → j < x2 → 0 ≤ Z1 121 j ∧ Z1 121 j ≤ 11) → TZ (d + 2) 250 4 [some (.inr 100), some (.inl x1), some (.inl x2)] [] Z1 (zri Q) from H 13 0 0 Z1 (by decide) (by decide) (by decide) (by decide) m h (fun j j1 j2 => by omega)
  intro f
  induction f with
  | zero => intro x1 x2 Z1 y1 y2 y3 y4 l h g; omega
  | succ f ih =>
    intro x1 x2 Z1 y1 y2 y3 y4 l h g
    have e26 := l.now.2.2.2
    refine w250_4 ?_
    rw [e26]
    have nx : ∀ v Z12, x2 < a.2.2.2.2.1.1 → (0 ≤ v ∧ v ≤ 11) → Z12 = zup Z1 121 x2 v → TZ (d + 2) 250 4 [some (.inr 100), some (.inl x1), some (.inl (x2 + 1))] [] Z12 (zri Q) := by
      intro v Z12 c hv e
      refine ih _ _ Z12 (by omega) (by omega) (by omega) y4 (by subst e; exact l.up wx (by unfold scq; omega)) (fun j j1 j2 => by rw [e, zup_cell _ _ _ _ (by decide)]; exact h j j1 j2) (fun j j1 j2 => ?_)
      rw [e]
      by_cases ej : j = x2
      · subst ej; rw [zup_same]; exact hv
      · rw [zup_place _ _ _ _ ej]; exact g j j1 (by omega)
    refine ⟨by unfold zR; omega, by unfold zR; omega, fun _ => last 13 _ _ Z1 (by decide) (by decide) (by decide) y4 l h (fun j j1 j2 => g j j1 (by omega)), fun c => ⟨by unfold zR; omega, fun c3 => ?_, fun _ => ⟨by omega, by omega, fun Z19 e => nx _ Z19 (by omega) (h x2 y2 (by omega)) e⟩⟩⟩
    have t1 : Int.tmod (x2 + 1) a.2.2.2.2.1.1 = (x2 + 1) % a.2.2.2.2.1.1 := Int.tmod_eq_emod_of_nonneg (by omega)
    have t2 : Int.tmod (x2 + a.2.2.2.2.1.1 - 1) a.2.2.2.2.1.1 = (x2 + a.2.2.2.2.1.1 - 1) % a.2.2.2.2.1.1 := Int.tmod_eq_emod_of_nonneg (by omega)
    have p1 := Int.emod_nonneg (x2 + 1) (show a.2.2.2.2.1.1 ≠ 0 by omega)
    have p2 := Int.emod_lt_of_pos (x2 + 1) (show 0 < a.2.2.2.2.1.1 by omega)
    have p3 := Int.emod_nonneg (x2 + a.2.2.2.2.1.1 - 1) (show a.2.2.2.2.1.1 ≠ 0 by omega)
    have p4 := Int.emod_lt_of_pos (x2 + a.2.2.2.2.1.1 - 1) (show 0 < a.2.2.2.2.1.1 by omega)
    rw [t1, t2]
    exact ⟨by omega, by unfold zR; omega, by omega, by omega, by unfold zR; omega, by omega, by omega, D_249 (h x2 y2 (by omega)) (h _ p1 p2) (h _ p3 p4) fun r r1 r2 => ⟨by omega, fun Z16 e => nx _ Z16 (by omega) ⟨r1, r2⟩ e⟩⟩
theorem U_winter {x1 : Int} (A : RX Z a) (wx : WX a) (h1 : zR x1) : TI (d + 3) 251 [.inr 100, .inl x1] Z (QD Z a (cwinter a x1)) := by
  have m := QS.refl A
  obtain ⟨rb, rv⟩ := m.row
  have e26 := m.now.2.2.2
  refine w251_0 (R_isIn h1 (by decide) (by decide) (fun i => ?_) (fun i => ⟨by decide, fun e => absurd rfl e, fun _ => D_no m wx (by unfold cwinter; rw [gu2 i]; rfl) (by decide)⟩))
  rw [e26]
  refine ⟨by decide, fun _ => ⟨by unfold zR; omega, fun nz => ?_, fun nz => D_no m wx (by unfold cwinter; rw [ge0 (gunk_0.mpr i), if_neg nz]) (by decide)⟩, fun e => absurd (show (1 : Int) ≠ 0 by decide) e⟩
  have hc : cwinter a x1 = 0 := by unfold cwinter; rw [ge0 (gunk_0.mpr i), if_pos nz]
  have p131 : ∀ (f : Nat) (x2 x3 x4 x5 x6 : Int) (Z1 : zM), 12 - x6 < f → 0 ≤ x6 → x6 ≤ 12 → zR x3 → QS Z Z1 a → TW12 Z1 a.2.2.2.2.1.1 → TZ (d + 3) 251 131 [some (.inr 100), some (.inl x1), some (.inl x2), some (.inl x3), some (.inl x4), some (.inl x5), some (.inl x6)] [] Z1 (zri (QD Z a (cwinter a x1))) := by
    intro f
    induction f with
    | zero => intro x2 x3 x4 x5 x6 Z1 y1 y2 y3 y4 l h; omega
    | succ f ih => intro x2 x3 x4 x5 x6 Z1 y1 y2 y3 y4 l h; exact w251_131 ⟨by unfold zR; omega, fun _ => ⟨h1, fun _ => ⟨y4, fun _ => D_ok l hc, fun _ => D_250 l wx h fun r Z2 hr l2 h2 => ⟨by unfold zR; omega, fun _ => D_ok l2 hc, fun _ => D_ok l2 hc⟩⟩, fun _ => D_ok l hc⟩, fun _ => ih _ _ _ _ _ Z1 (by omega) (by omega) (by omega) y4 l h⟩
  have p99 : ∀ (f : Nat) (x2 x3 x4 x5 x6 : Int) (Z1 : zM), 12 - x6 < f → 0 ≤ x6 → x6 ≤ 12 → zR x3 → QS Z Z1 a → TW12 Z1 a.2.2.2.2.1.1 → TZ (d + 3) 251 99 [some (.inr 100), some (.inl x1), some (.inl x2), some (.inl x3), some (.inl x4), some (.inl x5), some (.inl x6)] [] Z1 (zri (QD Z a (cwinter a x1))) := by
    intro f
    induction f with
    | zero => intro x2 x3 x4 x5 x6 Z1 y1 y2 y3 y4 l h; omega
    | succ f ih =>
      intro x2 x3 x4 x5 x6 Z1 y1 y2 y3 y4 l h
      have e := l.now.2.2.2
      exact w251_99 ⟨by unfold zR; omega, by unfold zR; omega, fun _ => p131 13 _ _ _ _ _ Z1 (by decide) (by decide) (by decide) y4 l h, fun _ => ⟨by omega, ih _ _ _ _ _ Z1 (by omega) (by omega) (by omega) y4 l h⟩⟩
  have p71 : ∀ (f : Nat) (x2 x3 : Int) (Z1 : zM), 20 - x3 < f → 0 ≤ x3 → x3 ≤ 20 → QS Z Z1 a → TW12 Z1 a.2.2.2.2.1.1 → TZ (d + 3) 251 71 [some (.inr 100), some (.inl x1), some (.inl x2), some (.inl x3), none, none, none] [] Z1 (zri (QD Z a (cwinter a x1))) := by
    intro f
    induction f with
    | zero => intro x2 x3 Z1 y1 y2 y3 l h; omega
    | succ f ih => intro x2 x3 Z1 y1 y2 y3 l h; exact w251_71 ⟨by unfold zR; omega, fun _ => p99 13 _ _ _ _ _ Z1 (by decide) (by decide) (by decide) (by unfold zR; omega) l h, fun _ => D_250 l wx h fun r Z2 hr l2 h2 => ⟨by unfold zR; omega, fun _ => p99 13 _ _ _ _ _ Z2 (by decide) (by decide) (by decide) (by unfold zR; omega) l2 h2, fun _ => ih _ _ Z2 (by omega) (by omega) (by omega) l2 h2⟩⟩
  suffices H : ∀ (f : Nat) (x2 x3 : Int) (Z1 : zM), 12 - x3 < f → 0 ≤ x3 → x3 ≤ 12 → QS Z Z1 a → TW12 Z1 x3 → TZ (d + 3) 251 40 [some (.inr 100), some (.inl x1), some (.inl x2), some (.inl x3), none, none, none] [] Z1 (zri (QD Z a (cwinter a x1))) from H 13 0 0 Z (by decide) (by decide) (by decide) m (fun j j1 j2 => by omega)
  intro f
  induction f with
  | zero => intro x2 x3 Z1 y1 y2 y3 l h; omega
  | succ f ih =>
    intro x2 x3 Z1 y1 y2 y3 l h
    have e := l.now.2.2.2
    refine w251_40 ⟨by unfold zR; omega, by unfold zR; omega, fun _ => p71 21 _ _ Z1 (by decide) (by decide) (by decide) l (fun j j1 j2 => h j j1 (by omega)), fun c => ?_⟩
    have v := (l.row.2 x3 y2 (by omega)).2
    have t : Int.tmod (Z1 116 x3) 12 = Z1 116 x3 % 12 := Int.tmod_eq_emod_of_nonneg v.1
    refine ⟨by omega, by unfold zR; omega, by omega, fun Z7 e7 => ih _ _ Z7 (by omega) (by omega) (by omega) (by subst e7; exact l.up wx (by unfold scq; omega)) fun j j1 j2 => ?_⟩
    rw [e7]
    by_cases ej : j = x3
    · subst ej; rw [zup_same, t]; omega
    · rw [zup_place _ _ _ _ ej]; exact h j j1 (by omega)
end
