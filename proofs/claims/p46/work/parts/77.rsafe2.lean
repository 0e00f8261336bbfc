/-! THE REFERENCE's looks, second part -/
def WD (Z1 : zM) (W m : Int) : Prop := ∀ j, 0 ≤ j → j < m → 0 ≤ Z1 114 j ∧ Z1 114 j ≤ W
section
variable {d : Nat} {Z Z1 Z2 : zM} {a : gX} {B : Int}
theorem WD.same {W m : Int} (h : WD Z1 W m) (s : same Z1 Z2) : WD Z2 W m := fun j h1 h2 => by rw [s 114 (by decide)]; exact h j h1 h2
theorem D_212 {x1 W : Int} {Q : Int → zM → Prop} (e : Z1 100 6 = W) (hW : 5 ≤ W ∧ W ≤ 6) (h1 : 0 ≤ x1 ∧ x1 ≤ 4) (hQ : ∀ r, 1 ≤ r → r ≤ 2401 → Q r Z1) : TI d 212 [.inr 100, .inl x1] Z1 Q := by
  refine w212_0 ?_
  suffices H : ∀ (f : Nat) (x2 x3 : Int), x1 - x3 < f → 0 ≤ x3 → x3 ≤ x1 → 1 ≤ x2 → ((x3 = 0 ∧ x2 ≤ 1) ∨ (x3 = 1 ∧ x2 ≤ 7) ∨ (x3 = 2 ∧ x2 ≤ 49) ∨ (x3 = 3 ∧ x2 ≤ 343) ∨ (x3 = 4 ∧ x2 ≤ 2401)) → TZ d 212 4 [some (.inr 100), some (.inl x1), some (.inl x2), some (.inl x3)] [] Z1 (zri Q) from H 5 1 0 (by omega) (by decide) (by omega) (by decide) (by decide)
  intro f
  induction f with
  | zero => intro x2 x3 y1 y2 y3 y4 y5; omega
  | succ f ih =>
    intro x2 x3 y1 y2 y3 y4 y5
    refine w212_4 ⟨by unfold zR; omega, by unfold zR; omega, fun _ => hQ x2 (by omega) (by omega), fun _ => ?_⟩
    rw [e]
    rcases (show W = 5 ∨ W = 6 by omega) with h | h <;> subst h
    · exact ih _ _ (by omega) (by omega) (by omega) (by omega) (by omega)
    · exact ih _ _ (by omega) (by omega) (by omega) (by omega) (by omega)
theorem D_213 {x1 x2 W : Int} {Q : zM → Prop} (e : Z1 100 6 = W) (hW : 5 ≤ W ∧ W ≤ 6) (h1 : 0 ≤ x1 ∧ x1 ≤ 5000) (h2 : 0 ≤ x2 ∧ x2 ≤ 4) (hQ : ∀ Z2, (∀ q, q ≠ 114 → Z2 q = Z1 q) → WD Z2 W x2 → Q Z2) : TV (d + 1) 213 [.inr 100, .inl x1, .inl x2] Z1 Q := by
  refine w213_0 ?_
  suffices H : ∀ (f : Nat) (x3 x4 : Int) (Z2 : zM), x4 + 1 < f → -1 ≤ x4 → x4 < x2 → 0 ≤ x3 → x3 ≤ 5000 → (∀ q, q ≠ 114 → Z2 q = Z1 q) → (∀ j, x4 < j → j < x2 → 0 ≤ Z2 114 j ∧ Z2 114 j ≤ W) → TZ (d + 1) 213 7 [some (.inr 100), some (.inl x1), some (.inl x2), some (.inl x3), some (.inl x4)] [] Z2 (zrv Q) from H 6 x1 (x2 - 1) Z1 (by omega) (by omega) (by omega) h1.1 h1.2 (fun _ _ => rfl) (fun j z1 z2 => by omega)
  intro f
  induction f with
  | zero => intro x3 x4 Z2 y1 y2 y3 y4 y5 g h; omega
  | succ f ih =>
    intro x3 x4 Z2 y1 y2 y3 y4 y5 g h
    have e2 : Z2 100 6 = W := by rw [g 100 (by decide)]; exact e
    refine w213_7 ⟨by unfold zR; omega, fun _ => hQ Z2 g (fun j j1 j2 => h j (by omega) j2), fun _ => ⟨by unfold zR; omega, by omega, by omega, fun Z6 e6 => ?_⟩⟩
    have e3 : Z6 100 6 = W := by rw [e6, zup_cell _ _ _ _ (by decide)]; exact e2
    rw [e3]
    have t1 : Int.tdiv x3 (W + 1) = x3 / (W + 1) := Int.tdiv_eq_ediv_of_nonneg y4
    have t2 : Int.tmod x3 (Z2 100 6 + 1) = x3 % (W + 1) := by rw [e2]; exact Int.tmod_eq_emod_of_nonneg y4
    have b1 : 0 ≤ x3 / (W + 1) ∧ x3 / (W + 1) ≤ 5000 := by rcases (show W = 5 ∨ W = 6 by omega) with h | h <;> subst h <;> omega
    have b2 : 0 ≤ x3 % (W + 1) ∧ x3 % (W + 1) ≤ W := by rcases (show W = 5 ∨ W = 6 by omega) with h | h <;> subst h <;> omega
    refine ⟨by unfold zR; omega, by omega, ih _ _ Z6 (by omega) (by omega) (by omega) (by omega) (by omega) (fun q hq => by rw [e6]; funext p; rw [zup_cell _ _ _ _ hq, g q hq]) fun j j1 j2 => ?_⟩
    rw [e6]
    by_cases ej : j = x4
    · subst ej; rw [zup_same, t2]; exact b2
    · rw [zup_place _ _ _ _ ej]; exact h j (by omega) j2
theorem D_214 {x1 W : Int} {Q : Int → zM → Prop} (hW : 5 ≤ W ∧ W ≤ 6) (wd : WD Z1 W x1) (h1 : 0 ≤ x1 ∧ x1 ≤ 4) (hQ : ∀ r, 0 ≤ r → r ≤ 24 → Q r Z1) : TI d 214 [.inr 100, .inl x1] Z1 Q := by
  refine w214_0 ?_
  suffices H : ∀ (f : Nat) (x2 x3 : Int), x1 - x3 < f → 0 ≤ x3 → x3 ≤ x1 → 0 ≤ x2 → x2 ≤ 6 * x3 → TZ d 214 4 [some (.inr 100), some (.inl x1), some (.inl x2), some (.inl x3)] [] Z1 (zri Q) from H 5 0 0 (by omega) (by decide) (by omega) (by decide) (by decide)
  intro f
  induction f with
  | zero => intro x2 x3 y1 y2 y3 y4 y5; omega
  | succ f ih =>
    intro x2 x3 y1 y2 y3 y4 y5
    refine w214_4 ⟨by unfold zR; omega, by unfold zR; omega, fun _ => hQ x2 (by omega) (by omega), fun _ => ⟨by omega, ?_⟩⟩
    have := wd x3 y2 (by omega)
    exact ih _ _ (by omega) (by omega) (by omega) (by omega) (by omega)
theorem D_215 {x0 x1 x2 : Int} {Q : Int → zM → Prop} (h0 : zR x0) (h1 : zR x1) (h2 : zR x2) (hQ : ∀ r, zR r → Q r Z1) : TI d 215 [.inl x0, .inl x1, .inl x2] Z1 Q :=
  w215_0 ⟨h0, fun _ => ⟨h0, fun _ => hQ _ h2, fun _ => hQ _ h1⟩, fun _ => ⟨h1, fun _ => hQ _ (by decide), fun _ => hQ _ (by decide)⟩⟩
theorem D_216 {Q : Int → zM → Prop} (h5 : 0 ≤ Z1 100 5 ∧ Z1 100 5 ≤ 8) (hs : ∀ b, 0 ≤ b → b < Z1 100 5 → zR (Z1 105 b)) (hQ : ∀ r, zR r → Q r Z1) : TI d 216 [.inr 100] Z1 Q := by
  refine w216_0 ?_
  suffices H : ∀ (f : Nat) (x1 x2 : Int), Z1 100 5 - x2 < f → 0 ≤ x2 → x2 ≤ 8 → zR x1 → TZ d 216 4 [some (.inr 100), some (.inl x1), some (.inl x2)] [] Z1 (zri Q) from H 9 0 0 (by omega) (by decide) (by decide) (by decide)
  intro f
  induction f with
  | zero => intro x1 x2 y1 y2 y3 y4; exact w216_4 ⟨by unfold zR; omega, by unfold zR; omega, fun _ => hQ _ y4, fun y => absurd (show Z1 100 5 ≤ x2 by omega) y⟩
  | succ f ih => intro x1 x2 y1 y2 y3 y4; exact w216_4 ⟨by unfold zR; omega, by unfold zR; omega, fun _ => hQ _ y4, fun y => ⟨by omega, hs _ y2 (by omega), fun _ => ⟨by omega, ih _ _ (by omega) (by omega) (by omega) (zbit_r _ _ _)⟩, fun _ => ih _ _ (by omega) (by omega) (by omega) (zbit_r _ _ _)⟩⟩
theorem D_216K {Q : Int → zM → Prop} (m : QK Z Z1 a B) (wx : WX a) (hQ : ∀ r, zR r → Q r Z1) : TI d 216 [.inr 100] Z1 Q := by
  have hn : 0 ≤ a.1.1 ∧ a.1.1 ≤ 8 := wx.1.1.1
  have hW : 5 ≤ a.1.2.1 ∧ a.1.2.1 ≤ 6 := wx.1.1.2.1
  have e := m.now.1
  exact D_216 (by omega) (fun b h1 h2 => by have := m.sits (b := b) (by omega); unfold zR; omega) hQ
theorem D_216S {Q : Int → zM → Prop} (m : QS Z Z1 a) (wx : WX a) (hQ : ∀ r, zR r → Q r Z1) : TI d 216 [.inr 100] Z1 Q := by
  have hn : 0 ≤ a.1.1 ∧ a.1.1 ≤ 8 := wx.1.1.1
  have hW : 5 ≤ a.1.2.1 ∧ a.1.2.1 ≤ 6 := wx.1.1.2.1
  have e := m.now.1
  exact D_216 (by omega) (fun b h1 h2 => by have := m.sits wx (b := b) (by omega); unfold zR; omega) hQ
theorem D_217 {x1 x2 : Int} {Q : Int → zM → Prop} (m : QS Z Z1 a) (wx : WX a) (vx : VX a) (h1 : 0 ≤ x1 ∧ x1 ≤ 2) (h2 : 0 ≤ x2 ∧ x2 ≤ 4) (hr : x1 ≠ 0 → x2 ≤ a.2.2.2.2.1.1) (wd : WD Z1 a.1.2.1 x2) (hQ : ∀ r Z2, (r = 0 ∨ r = 1) → QS Z Z2 a → same Z1 Z2 → Q r Z2) : TI (d + 4) 217 [.inr 100, .inl x1, .inl x2] Z1 Q := by
  have hW : 5 ≤ a.1.2.1 ∧ a.1.2.1 ≤ 6 := wx.1.1.2.1
  refine w217_0 (D_thinks m wx vx fun Z2 k s => ?_)
  suffices H : ∀ (f : Nat) (x3 x4 : Int) (Z2 : zM), x2 - x4 < f → 0 ≤ x4 → x4 ≤ x2 → (x3 = 0 ∨ x3 = 1) → QK Z Z2 a (999 + x4) → same Z1 Z2 → TZ (d + 4) 217 9 [some (.inr 100), some (.inl x1), some (.inl x2), some (.inl x3), some (.inl x4)] [] Z2 (zri Q) from H 5 1 0 Z2 (by omega) (by decide) (by omega) (by decide) (k.le (by omega)) s
  intro f
  induction f with
  | zero => intro x3 x4 Z2 y1 y2 y3 y4 k s; omega
  | succ f ih =>
    intro x3 x4 Z2 y1 y2 y3 y4 k s
    refine w217_9 ⟨by unfold zR; omega, by unfold zR; omega, fun _ => D_forgets k wx fun Z3 l s3 => ⟨y4, hQ _ Z3 y4 l (s.trans s3)⟩, fun y => ⟨by unfold zR; omega, fun _ => D_forgets k wx fun Z3 l s3 => ⟨y4, hQ _ Z3 y4 l (s.trans s3)⟩, fun _ => ⟨by omega, ?_⟩⟩⟩
    have w := (wd.same s) x4 y2 (by omega)
    refine D_pass k wx (by omega) (by omega) fun r Z3 _ k3 s3 => D_wrongK k3 fun r2 r3 r4 => D_216K k3 wx fun r5 hr5 => D_215 (by unfold zR; omega) (by unfold zR; omega) hr5 fun r6 hr6 => ?_
    have nx : ∀ v, (v = 0 ∨ v = 1) → TZ (d + 4) 217 9 [some (.inr 100), some (.inl x1), some (.inl x2), some (.inl v), some (.inl (x4 + 1))] [] Z3 (zri Q) := fun v hv => ih v _ Z3 (by omega) (by omega) (by omega) hv (k3.le (by omega)) (s.trans s3)
    refine ⟨by unfold zR; omega, fun c => ⟨by omega, hr6, ?_, fun _ => nx 0 (Or.inl rfl), fun _ => nx 1 (Or.inr rfl)⟩, fun c => ⟨hr6, fun _ => nx 0 (Or.inl rfl), fun _ => nx 1 (Or.inr rfl)⟩⟩
    have := (k3.row.2 x4 y2 (by have := hr c; omega)).2
    unfold zR; omega
theorem D_218 {x1 : Int} {Q : zM → Prop} (h1 : 0 ≤ x1 ∧ x1 ≤ 4) (hQ : ∀ Z2, (∀ q, q ≠ 115 → Z2 q = Z1 q) → Q Z2) : TV d 218 [.inr 100, .inl x1] Z1 Q := by
  refine w218_0 ?_
  suffices H : ∀ (f : Nat) (x2 : Int) (Z2 : zM), x1 - x2 < f → 0 ≤ x2 → x2 ≤ x1 → (∀ q, q ≠ 115 → Z2 q = Z1 q) → TZ d 218 2 [some (.inr 100), some (.inl x1), some (.inl x2)] [] Z2 (zrv Q) from H 5 0 Z1 (by omega) (by decide) (by omega) (fun _ _ => rfl)
  intro f
  induction f with
  | zero => intro x2 Z2 y1 y2 y3 g; omega
  | succ f ih => intro x2 Z2 y1 y2 y3 g; exact w218_2 ⟨by unfold zR; omega, by unfold zR; omega, fun _ => hQ Z2 g, fun _ => ⟨by omega, by omega, fun Z6 e => ih _ Z6 (by omega) (by omega) (by omega) fun q hq => by rw [e]; funext p; rw [zup_cell _ _ _ _ hq, g q hq]⟩⟩
theorem QS.one {c : Nat} (m : QS Z Z1 a) (wx : WX a) (hc : scq c) (h : ∀ q, q ≠ c → Z2 q = Z1 q) : QS Z Z2 a := m.scr wx fun q hq => h q (fun e => hq (by subst e; exact hc))
theorem QK.one {c : Nat} (m : QK Z Z1 a B) (wx : WX a) (hc : scq c) (h : ∀ q, q ≠ c → Z2 q = Z1 q) : QK Z Z2 a B := m.scr wx fun q hq => h q (fun e => hq (by subst e; exact hc))
def cfeeding (x1 x2 : Int) : Int := geith (gund x2 (-1)) (gout x1 1 4)
theorem U_feeding {x1 x2 : Int} (A : RX Z a) (wx : WX a) (vx : VX a) (h1 : zR x1) (h2 : zR x2) : TI (d + 5) 219 [.inr 100, .inl x1, .inl x2] Z (QD Z a (geith (gund x2 (-1)) (gout x1 1 4))) := by
  have m := QS.refl A
  have hW : 5 ≤ a.1.2.1 ∧ a.1.2.1 ≤ 6 := wx.1.1.2.1
  refine w219_0 ⟨h1, fun c => D_no m wx (by unfold geith gund gout; (repeat' split) <;> omega) (by decide), fun c => ⟨h2, fun c2 => ⟨h1, fun c3 => ?_, fun c3 => D_no m wx (by unfold geith gund gout; (repeat' split) <;> omega) (by decide)⟩, fun c2 => D_no m wx (by unfold geith gund gout; (repeat' split) <;> omega) (by decide)⟩⟩
  have hc : geith (gund x2 (-1)) (gout x1 1 4) = 0 := by unfold geith gund gout; (repeat' split) <;> omega
  suffices H : ∀ (f : Nat) (x3 x4 x5 : Int) (Z1 : zM), 2401 - x5 < f → 0 ≤ x5 → x5 ≤ 2401 → (x4 = -9 ∨ (0 ≤ x4 ∧ x4 ≤ 24)) → QS Z Z1 a → TZ (d + 5) 219 44 [some (.inr 100), some (.inl x1), some (.inl x2), some (.inl x3), some (.inl x4), some (.inl x5)] [] Z1 (zri (QD Z a (geith (gund x2 (-1)) (gout x1 1 4)))) from H 2402 0 (-9) 0 Z (by omega) (by decide) (by decide) (by decide) m
  intro f
  induction f with
  | zero => intro x3 x4 x5 Z1 y1 y2 y3 y4 l; omega
  | succ f ih =>
    intro x3 x4 x5 Z1 y1 y2 y3 y4 l
    have ok : ∀ r, QD Z a (geith (gund x2 (-1)) (gout x1 1 4)) r Z1 := fun r => D_ok l hc
    have z4 : zR x4 := by unfold zR; omega
    refine w219_44 (D_212 l.now.2.1 hW (by omega) fun r r1 r2 => ⟨by unfold zR; omega, by unfold zR; omega, fun _ => ⟨h2, fun _ => ok _, fun _ => ⟨z4, fun _ => ⟨h2, h1, fun _ => ok _, fun _ => ⟨by omega, ok _⟩⟩, fun _ => ok _⟩⟩, fun c4 => D_213 l.now.2.1 hW (by omega) (by omega) fun Z14 g14 wd => ?_⟩)
    have l14 : QS Z Z14 a := l.one wx (c := 114) (by unfold scq; omega) g14
    have tk : ∀ (Z3 : zM) (Q' : Int → zM → Prop), QS Z Z3 a → WD Z3 a.1.2.1 x1 → (∀ (r : Int) (Z4 : zM), 0 ≤ r → r ≤ 24 → QS Z Z4 a → Q' r Z4) → TI (d + 4) 214 [.inr 100, .inl x1] Z3 (fun r22 Z21 => TV (d + 4) 218 [.inr 100, .inl x1] Z21 (fun Z23 => Q' r22 Z23)) := fun Z3 Q' l3 w3 hq => D_214 hW w3 (by omega) fun r r1 r2 => D_218 (by omega) fun Z4 g4 => hq r Z4 r1 r2 (l3.one wx (c := 115) (by unfold scq; omega) g4)
    refine ⟨z4, fun c5 => D_217 l14 wx vx (by decide) (by omega) (fun e => absurd rfl e) wd fun r3 Z3 hr3 l3 s3 => ⟨by unfold zR; omega, fun _ => tk Z3 _ l3 (wd.same s3) fun r5 Z5 b1 b2 l5 => ih _ _ _ Z5 (by omega) (by omega) (by omega) (by omega) l5, fun _ => ih _ _ _ Z3 (by omega) (by omega) (by omega) y4 l3⟩, fun c5 => D_214 hW wd (by omega) fun r6 r7 r8 => ⟨by unfold zR; omega, z4, fun _ => ih _ _ _ Z14 (by omega) (by omega) (by omega) y4 l14, fun _ => D_217 l14 wx vx (by decide) (by omega) (fun e => absurd rfl e) wd fun r3 Z3 hr3 l3 s3 => ⟨by unfold zR; omega, fun _ => tk Z3 _ l3 (wd.same s3) fun r5 Z5 b1 b2 l5 => ih _ _ _ Z5 (by omega) (by omega) (by omega) (by omega) l5, fun _ => ih _ _ _ Z3 (by omega) (by omega) (by omega) y4 l3⟩⟩⟩
theorem D_220 {x1 : Int} {Q : Int → zM → Prop} (m : QS Z Z1 a) (wx : WX a) (vx : VX a) (h1 : -1 ≤ x1 ∧ x1 < a.1.2.1) (hQ : ∀ r Z2, 0 ≤ r → r ≤ 6 → QS Z Z2 a → Q r Z2) : TI (d + 4) 220 [.inr 100, .inl x1] Z1 Q :=
  w220_0 (D_thinks m wx vx fun Z2 k s => D_pass k wx h1 (by decide) fun r Z3 _ k3 s3 => D_wrongK k3 fun r2 r3 r4 => D_forgets k3 wx fun Z4 l s4 => hQ r2 Z4 r3 r4 l)
theorem U_closest {x1 : Int} (A : RX Z a) (wx : WX a) (vx : VX a) (h1 : zR x1) : TI (d + 5) 221 [.inr 100, .inl x1] Z (QD Z a (gunk x1 1)) := by
  have m := QS.refl A
  have hW : 5 ≤ a.1.2.1 ∧ a.1.2.1 ≤ 6 := wx.1.1.2.1
  refine w221_0 (R_isIn h1 (by decide) (by decide) (fun i => ⟨by decide, fun _ => ?_, fun e => absurd (show (1 : Int) ≠ 0 by decide) e⟩) (fun i => ⟨by decide, fun e => absurd rfl e, fun _ => D_no m wx (gu2 i) (by decide)⟩))
  have hc := gunk_0.mpr i
  suffices H : ∀ (f : Nat) (x2 x3 : Int) (Z1 : zM), 7 - x3 < f → 1 ≤ x3 → x3 ≤ 7 → 0 ≤ x2 → x2 ≤ 6 → x2 ≤ a.1.2.1 → QS Z Z1 a → TZ (d + 5) 221 20 [some (.inr 100), some (.inl x1), some (.inl x2), some (.inl x3)] [] Z1 (zri (QD Z a (gunk x1 1))) from H 8 0 1 Z (by decide) (by decide) (by decide) (by decide) (by decide) (by omega) m
  intro f
  induction f with
  | zero => intro x2 x3 Z1 y1 y2 y3 y4 y5 y6 l; omega
  | succ f ih =>
    intro x2 x3 Z1 y1 y2 y3 y4 y5 y6 l
    have e6 := l.now.2.1
    exact w221_20 ⟨by unfold zR; omega, by unfold zR; omega, fun _ => ⟨h1, fun _ => D_220 l wx vx (by omega) fun r Z2 _ _ l2 => D_ok l2 hc, fun _ => D_ok l hc⟩, fun _ => D_220 l wx vx (by omega) fun r Z2 r1 r2 l2 => D_220 l2 wx vx (by omega) fun r3 Z3 r4 r5 l3 => ⟨by unfold zR; omega, by unfold zR; omega, fun _ => ih _ _ Z3 (by omega) (by omega) (by omega) (by omega) (by omega) (by omega) l3, fun _ => ih _ _ Z3 (by omega) (by omega) (by omega) (by omega) (by omega) (by omega) l3⟩⟩
theorem D_manyK {w : Int} {Q : Int → zM → Prop} (m : QK Z Z1 a B) (hw : zR w) (hQ : ∀ r, 0 ≤ r → r ≤ 8 → Q r Z1) : TI d 159 [.inr 100, .inl w] Z1 Q := by
  obtain ⟨⟨⟨n, W, h, K, F, P, T⟩, h1, h2, h3, h4, h5, h6⟩, g⟩ := m
  have hn : 0 ≤ n ∧ n ≤ 8 := h2.1
  have b := cnt_b P w n.toNat
  exact R_many (n := n) (W := W) (h := h) (K := K) (F := F) (P := P) (T := T) h1.1 (WF.pb h2) hw (hQ _ (by omega) (by omega))
theorem D_manyS {w : Int} {Q : Int → zM → Prop} (m : QS Z Z1 a) (wx : WX a) (hw : zR w) (hQ : ∀ r, 0 ≤ r → r ≤ 8 → Q r Z1) : TI d 159 [.inr 100, .inl w] Z1 Q := by
  have hn : 0 ≤ a.1.1 ∧ a.1.1 ≤ 8 := wx.1.1.1
  have b := cnt_b a.1.2.2.2.2.2.1 w a.1.1.toNat
  exact R_many (n := a.1.1) (W := a.1.2.1) (h := a.1.2.2.1) (K := a.1.2.2.2.1) (F := a.1.2.2.2.2.1) (P := a.1.2.2.2.2.2.1) (T := a.1.2.2.2.2.2.2) m.1.1 (WF.pb wx.1.1) hw (hQ _ (by omega) (by omega))
theorem U_highest {x1 : Int} (A : RX Z a) (wx : WX a) (vx : VX a) (h1 : zR x1) : TI (d + 5) 222 [.inr 100, .inl x1] Z (QD Z a (gout x1 0 4)) := by
  have m := QS.refl A
  have hW : 5 ≤ a.1.2.1 ∧ a.1.2.1 ≤ 6 := wx.1.1.2.1
  refine w222_0 (R_bound h1 (by decide) (by decide) ⟨zR9 gb3, fun c => ?_, fun c => D_no m wx rfl (go_n c)⟩)
  have c1 := gout_0.mp c
  rw [c]
  suffices H : ∀ (f : Nat) (x3 x4 : Int) (o5 : Option zV) (Z1 : zM), 2401 - x4 < f → 0 ≤ x4 → x4 ≤ 2401 → (0 ≤ x3 ∧ x3 ≤ 8) → QS Z Z1 a → TZ (d + 5) 222 22 [some (.inr 100), some (.inl x1), some (.inl 0), some (.inl x3), some (.inl x4), o5] [] Z1 (zri (QD Z a 0)) from H 2402 0 0 none Z (by decide) (by decide) (by decide) (by decide) m
  intro f
  induction f with
  | zero => intro x3 x4 o5 Z1 y1 y2 y3 y4 l; omega
  | succ f ih =>
    intro x3 x4 o5 Z1 y1 y2 y3 y4 l
    refine w222_22 (D_212 l.now.2.1 hW (by omega) fun r r1 r2 => ⟨by unfold zR; omega, by unfold zR; omega, fun _ => D_ok l rfl, fun c4 => D_213 l.now.2.1 hW (by omega) (by omega) fun Z14 g14 wd => D_thinks (l.one wx (c := 114) (by unfold scq; omega) g14) wx vx fun Z7 k s7 => ?_⟩)
    suffices H : ∀ (g : Nat) (x5 : Int) (Z1 : zM), x1 - x5 < g → 0 ≤ x5 → x5 ≤ x1 → QK Z Z1 a (999 + x5) → WD Z1 a.1.2.1 x1 → TZ (d + 5) 222 46 [some (.inr 100), some (.inl x1), some (.inl 0), some (.inl x3), some (.inl x4), some (.inl x5)] [] Z1 (zri (QD Z a 0)) from H 5 0 Z7 (by omega) (by decide) (by omega) (k.le (by omega)) (wd.same s7)
    intro g
    induction g with
    | zero => intro x5 Z1 z1 z2 z3 k w; omega
    | succ g ihg =>
      intro x5 Z1 z1 z2 z3 k w
      have e6 := k.now.2.1
      refine w222_46 ⟨by unfold zR; omega, by unfold zR; omega, fun _ => D_manyK k (by unfold zR; omega) fun r5 b1 b2 => D_forgets k wx fun Z6 l6 s6 => ⟨by unfold zR; omega, by unfold zR; omega, fun _ => ih _ _ _ Z6 (by omega) (by omega) (by omega) y4 l6, fun _ => ih _ _ _ Z6 (by omega) (by omega) (by omega) (by omega) l6⟩, fun _ => ⟨by omega, ?_⟩⟩
      have wj := w x5 z2 (by omega)
      exact D_pass k wx (by omega) (by omega) fun r Z3 _ k3 s3 => ihg _ Z3 (by omega) (by omega) (by omega) (k3.le (by omega)) (w.same s3)
end
