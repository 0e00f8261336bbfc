/-! THE REFERENCE's looks, third part -/
theorem zup_back (Z : zM) (c : Nat) (p v : Int) : zup (zup Z c p v) c p (Z c p) = Z := by
  funext q i
  by_cases e : q = c
  · subst e
    by_cases e2 : i = p
    · subst e2; rw [zup_same]
    · rw [zup_place _ _ _ _ e2, zup_place _ _ _ _ e2]
  · rw [zup_cell _ _ _ _ e, zup_cell _ _ _ _ e]
theorem PB.up {n : Int} {P : Int → Int} {b x : Int} (h : PB n P) (hx : -1 ≤ x ∧ x < 6) : PB n (gup P b x) := by
  refine ⟨h.1, fun c h1 h2 => ?_⟩
  by_cases e : c = b
  · subst e; rw [gup_same]; exact hx
  · rw [gup_ne _ _ e]; exact h.2 c h1 h2
section
variable {d : Nat} {Z Z1 Z2 : zM} {a : gX} {B : Int}
theorem D_223 {x1 : Int} {Q : zM → Prop} (m : QS Z Z1 a) (wx : WX a) (vx : VX a) (h1 : 0 ≤ x1 ∧ x1 ≤ 20) (hQ : ∀ Z2, QS Z Z2 a → (∀ j, 0 ≤ j → j < 8 → 0 ≤ Z2 117 j ∧ Z2 117 j < 12) → Q Z2) : TV (d + 5) 223 [.inr 100, .inl x1] Z1 Q := by
  have hW : 5 ≤ a.1.2.1 ∧ a.1.2.1 ≤ 6 := wx.1.1.2.1
  refine w223_0 ?_
  suffices H : ∀ (f : Nat) (x2 : Int) (Z1 : zM), 8 - x2 < f → 0 ≤ x2 → x2 ≤ 8 → QS Z Z1 a → (∀ j, 0 ≤ j → j < x2 → 0 ≤ Z1 117 j ∧ Z1 117 j < 12) → TZ (d + 5) 223 2 [some (.inr 100), some (.inl x1), some (.inl x2)] [] Z1 (zrv Q) from H 9 0 Z1 (by decide) (by decide) (by decide) m (fun j z1 z2 => by omega)
  intro f
  induction f with
  | zero => intro x2 Z1 y1 y2 y3 l h; omega
  | succ f ih =>
    intro x2 Z1 y1 y2 y3 l h
    refine w223_2 ⟨by unfold zR; omega, fun _ => hQ Z1 l (fun j j1 j2 => h j j1 (by omega)), fun _ => D_thinks l wx vx fun Z2 k s => D_happens k wx (by omega) fun Z3 k3 s3 => D_passes k3 wx (by omega) (by omega) fun Z4 k4 s4 => D_shownK k4 fun r r1 r2 => ⟨by omega, fun Z9 e9 => D_forgets (B := 1100) (by subst e9; exact k4.up wx (by unfold scq; omega)) wx fun Z10 l10 s10 => ih _ Z10 (by omega) (by omega) (by omega) l10 fun j j1 j2 => ?_⟩⟩
    rw [s10 117 (by decide), e9]
    by_cases e : j = x2
    · subst e; rw [zup_same]; exact ⟨r1, r2⟩
    · rw [zup_place _ _ _ _ e, s4 117 (by decide), s3 117 (by decide), s 117 (by decide)]; exact h j j1 (by omega)
theorem U_happened (A : RX Z a) (wx : WX a) (vx : VX a) : TI (d + 6) 224 [.inr 100] Z (QD Z a 0) := by
  refine w224_0 ?_
  suffices H : ∀ (f : Nat) (x1 x2 : Int) (o3 : Option zV) (Z1 : zM), 12 - x2 < f → 0 ≤ x2 → x2 ≤ 12 → QS Z Z1 a → TZ (d + 6) 224 6 [some (.inr 100), some (.inl x1), some (.inl x2), o3] [] Z1 (zri (QD Z a 0)) from H 13 255 0 none Z (by decide) (by decide) (by decide) (QS.refl A)
  intro f
  induction f with
  | zero => intro x1 x2 o3 Z1 y1 y2 y3 l; omega
  | succ f ih =>
    intro x1 x2 o3 Z1 y1 y2 y3 l
    have e26 := l.now.2.2.2
    have rb := l.row.1
    refine w224_6 ⟨by unfold zR; omega, by unfold zR; omega, fun _ => D_ok l rfl, fun y => D_223 l wx vx (by omega) fun Z4 l4 hv => ?_⟩
    suffices H : ∀ (g : Nat) (x1 x3 : Int), 8 - x3 < g → 0 ≤ x3 → x3 ≤ 8 → TZ (d + 6) 224 21 [some (.inr 100), some (.inl x1), some (.inl x2), some (.inl x3)] [] Z4 (zri (QD Z a 0)) from H 9 x1 0 (by decide) (by decide) (by decide)
    intro g
    induction g with
    | zero => intro x1 x3 z1 z2 z3; omega
    | succ g ihg =>
      intro x1 x3 z1 z2 z3
      refine w224_21 ⟨by unfold zR; omega, fun _ => ih _ _ _ Z4 (by omega) (by omega) (by omega) l4, fun _ => ⟨by omega, by omega, ?_, ?_, fun _ => ihg _ _ (by omega) (by omega) (by omega), fun _ => ihg _ _ (by omega) (by omega) (by omega)⟩⟩
      · have := hv x3 z2 (by omega); unfold zR; omega
      · have := (l4.row.2 x2 y2 (by omega)).2; unfold zR; omega
theorem D_225 {x1 : Int} {Q : Int → zM → Prop} (m : QS Z Z1 a) (wx : WX a) (vx : VX a) (h1 : 0 ≤ x1 ∧ x1 ≤ 20) (hQ : ∀ r Z2, 0 ≤ r → r ≤ 8 → QS Z Z2 a → Q r Z2) : TI (d + 6) 225 [.inr 100, .inl x1] Z1 Q := by
  refine w225_0 (D_223 m wx vx h1 fun Z2 l hv => ?_)
  suffices H : ∀ (f : Nat) (x2 x3 x4 : Int), 8 - x4 < f → 0 ≤ x4 → x4 ≤ 8 → 0 ≤ x3 → x3 ≤ x4 → TZ (d + 6) 225 12 [some (.inr 100), some (.inl x1), some (.inl x2), some (.inl x3), some (.inl x4)] [] Z2 (zri Q) from H 9 0 0 0 (by decide) (by decide) (by decide) (by decide) (by decide)
  intro f
  induction f with
  | zero => intro x2 x3 x4 y1 y2 y3 y4 y5; omega
  | succ f ih => intro x2 x3 x4 y1 y2 y3 y4 y5; exact w225_12 ⟨by unfold zR; omega, fun _ => hQ _ Z2 y4 (by omega) l, fun _ => ⟨by omega, zbit_r _ _ _, fun _ => ⟨by omega, ih _ _ _ (by omega) (by omega) (by omega) (by omega) (by omega)⟩, fun _ => ⟨by omega, ih _ _ _ (by omega) (by omega) (by omega) (by omega) (by omega)⟩⟩⟩
theorem U_tells {x1 : Int} (A : RX Z a) (wx : WX a) (vx : VX a) (h1 : zR x1) : TI (d + 7) 226 [.inr 100, .inl x1] Z (QD Z a (gunk x1 1)) := by
  have m := QS.refl A
  refine w226_0 (R_isIn h1 (by decide) (by decide) (fun i => ⟨by decide, fun _ => ?_, fun e => absurd (show (1 : Int) ≠ 0 by decide) e⟩) (fun i => ⟨by decide, fun e => absurd rfl e, fun _ => D_no m wx (gu2 i) (by decide)⟩))
  have hc := gunk_0.mpr i
  suffices H : ∀ (f : Nat) (x2 x3 : Int) (Z1 : zM), 9 - x3 < f → 1 ≤ x3 → x3 ≤ 9 → 0 ≤ x2 → x2 ≤ 9 → QS Z Z1 a → TZ (d + 7) 226 20 [some (.inr 100), some (.inl x1), some (.inl x2), some (.inl x3)] [] Z1 (zri (QD Z a (gunk x1 1))) from H 9 0 1 Z (by decide) (by decide) (by decide) (by decide) (by decide) m
  intro f
  induction f with
  | zero => intro x2 x3 Z1 y1 y2 y3 y4 y5 l; omega
  | succ f ih =>
    intro x2 x3 Z1 y1 y2 y3 y4 y5 l
    exact w226_20 ⟨by unfold zR; omega, fun _ => ⟨h1, fun _ => D_225 l wx vx (by omega) fun r Z2 _ _ l2 => D_ok l2 hc, fun _ => D_ok l hc⟩, fun _ => D_225 l wx vx (by omega) fun r Z2 r1 r2 l2 => D_225 l2 wx vx (by omega) fun r3 Z3 r4 r5 l3 => ⟨by unfold zR; omega, by unfold zR; omega, fun _ => ih _ _ Z3 (by omega) (by omega) (by omega) (by omega) (by omega) l3, fun _ => ih _ _ Z3 (by omega) (by omega) (by omega) (by omega) (by omega) l3⟩⟩
theorem D_227S {x1 x2 : Int} {Q : Int → zM → Prop} (m : QS Z Z1 a) (wx : WX a) (hx : zR x2) (h1 : 0 ≤ x2 → x2 < a.1.2.1 → Q 1 Z1) (h0 : Q 0 Z1) : TI (d + 2) 227 [.inr 100, .inl x1, .inl x2] Z1 Q := by
  have hW : 5 ≤ a.1.2.1 ∧ a.1.2.1 ≤ 6 := wx.1.1.2.1
  refine w227_0 (R_isWire m.now.2.1 (by unfold zR; omega) hx (fun i => ⟨by decide, fun e => absurd e (by decide), fun _ => R_room (n := a.1.1) (W := a.1.2.1) (h := a.1.2.2.1) (K := a.1.2.2.2.1) (F := a.1.2.2.2.2.1) (P := a.1.2.2.2.2.2.1) (T := a.1.2.2.2.2.2.2) m.1.1 (WF.pb wx.1.1) hx (fun _ => ⟨by decide, fun e => absurd e (by decide), fun _ => h1 i.1 i.2⟩) (fun _ => ⟨by decide, fun _ => h0, fun e => absurd rfl e⟩)⟩) (fun i => ⟨by decide, fun _ => h0, fun e => absurd rfl e⟩))
theorem QK.sit {b x : Int} {n W h : Int} {K F P T : Int → Int} (wx : WX a) (h1 : RK Z1 a (n, W, h, K, F, P, T)) (h2 : WF n W h K F P T) (h3 : n = a.1.1) (h4 : W = a.1.2.1) (h5 : h ≤ B) (h6 : W4 n P) (g : ∀ q, q < 100 → Z1 q = Z q) (hb : 0 ≤ b ∧ b < n) (hx : 0 ≤ x ∧ x < W) (hc : cnt P x n.toNat < 4) : QK Z (zup Z1 105 b x) a B := by
  have f : fR SP Z1 (zup Z1 105 b x) := fR_up (show SP 105 b by unfold SP; rfl)
  refine ⟨⟨(n, W, h, K, F, gup P b x, T), h1.step2 wx (RF.sit h1.1 hb.1) f, ?_, h3, h4, h5, gup_w4 h6 hb (Or.inl hc)⟩, fun q hq => by rw [← g q hq]; funext p; exact zup_cell _ _ _ _ (by omega)⟩
  refine ⟨h2.1, h2.2.1, h2.2.2.1, fun c c1 c2 => ?_, h2.2.2.2.2⟩
  have w := h2.2.2.2.1 c c1 c2
  refine ⟨w.1, w.2.1, ?_⟩
  show 0 ≤ gup P b x c ∧ gup P b x c < W
  by_cases e : c = b
  · subst e; rw [gup_same]; exact hx
  · rw [gup_ne _ _ e]; exact w.2.2
theorem D_227K {b x1 x2 : Int} {Q : Int → zM → Prop} (m : QK Z Z1 a B) (wx : WX a) (hb : 0 ≤ b ∧ b < a.1.1) (hx : zR x2) (h1 : QK Z (zup Z1 105 b x2) a B → Q 1 Z1) (h0 : Q 0 Z1) : TI (d + 2) 227 [.inr 100, .inl x1, .inl x2] Z1 Q := by
  have hW : 5 ≤ a.1.2.1 ∧ a.1.2.1 ≤ 6 := wx.1.1.2.1
  have e6 := m.now.2.1
  obtain ⟨⟨⟨n, W, h, K, F, P, T⟩, q1, h2, h3, h4, h5, h6⟩, g⟩ := m
  have h3 : n = a.1.1 := h3
  have h4 : W = a.1.2.1 := h4
  refine w227_0 (R_isWire e6 (by unfold zR; omega) hx (fun i => ⟨by decide, fun e => absurd e (by decide), fun _ => R_room (n := n) (W := W) (h := h) (K := K) (F := F) (P := P) (T := T) q1.1 (WF.pb h2) hx (fun c => ⟨by decide, fun e => absurd e (by decide), fun _ => h1 (QK.sit wx q1 h2 h3 h4 h5 h6 g (by omega) (by omega) c)⟩) (fun _ => ⟨by decide, fun _ => h0, fun e => absurd rfl e⟩)⟩) (fun i => ⟨by decide, fun _ => h0, fun e => absurd rfl e⟩))
theorem D_shownP {b x : Int} {Q : Int → zM → Prop} (m : QS Z Z1 a) (wx : WX a) (hb : 0 ≤ b) (hx : -1 ≤ x ∧ x < 6) (hQ : ∀ r, 0 ≤ r → r < 12 → Q r (zup Z1 105 b x)) : TI d 161 [.inr 100] (zup Z1 105 b x) Q := by
  have R : RF (zup Z1 105 b x) a.1.1 a.1.2.1 a.1.2.2.1 a.1.2.2.2.1 a.1.2.2.2.2.1 (gup a.1.2.2.2.2.2.1 b x) a.1.2.2.2.2.2.2 := RF.sit m.1.1 hb
  have p := PB.up (b := b) (WF.pb wx.1.1) hx
  have rb := rshow_b p wx.1.1.2.2.2.2
  exact R_shown0 R p wx.1.1.2.2.2.2 (hQ _ rb.1 rb.2)
theorem D_wrongP {b x : Int} {Q : Int → zM → Prop} (m : QS Z Z1 a) (wx : WX a) (hb : 0 ≤ b) (hx : -1 ≤ x ∧ x < 6) (hQ : ∀ r, 0 ≤ r → r ≤ 6 → Q r (zup Z1 105 b x)) : TI (d + 1) 162 [.inr 100] (zup Z1 105 b x) Q := by
  have R : RF (zup Z1 105 b x) a.1.1 a.1.2.1 a.1.2.2.1 a.1.2.2.2.1 a.1.2.2.2.2.1 (gup a.1.2.2.2.2.2.1 b x) a.1.2.2.2.2.2.2 := RF.sit m.1.1 hb
  exact R_wrong0 R (PB.up (b := b) (WF.pb wx.1.1) hx) wx.1.1.2.2.2.2 wx.1.1.2.2.1 (hQ _ gapart_b.1 gapart_b.2)
theorem U_mixed (A : RX Z a) (wx : WX a) : TI (d + 3) 228 [.inr 100] Z (QD Z a 0) := by
  have m := QS.refl A
  have hW : 5 ≤ a.1.2.1 ∧ a.1.2.1 ≤ 6 := wx.1.1.2.1
  have hn : 0 ≤ a.1.1 ∧ a.1.1 ≤ 8 := wx.1.1.1
  have e5 := m.now.1
  refine w228_0 (D_shownS m wx fun r r1 r2 => ?_)
  suffices H : ∀ (f : Nat) (x2 x3 : Int) (o4 o5 : Option zV), 8 - x3 < f → 0 ≤ x3 → x3 ≤ 8 → TZ (d + 3) 228 9 [some (.inr 100), some (.inl r), some (.inl x2), some (.inl x3), o4, o5] [] Z (zri (QD Z a 0)) from H 9 0 0 none none (by decide) (by decide) (by decide)
  intro f
  induction f with
  | zero => intro x2 x3 o4 o5 y1 y2 y3; omega
  | succ f ih =>
    intro x2 x3 o4 o5 y1 y2 y3
    refine w228_9 ⟨by unfold zR; omega, by unfold zR; omega, fun _ => D_ok m rfl, fun y => ?_⟩
    have sb := m.sits wx (b := x3) (by omega)
    suffices H : ∀ (g : Nat) (x2 x4 : Int) (o5 : Option zV), 3 - x4 < 2 * (g : Int) → -1 ≤ x4 → x4 ≤ 3 → TZ (d + 3) 228 20 [some (.inr 100), some (.inl r), some (.inl x2), some (.inl x3), some (.inl x4), o5] [] Z (zri (QD Z a 0)) from H 3 x2 (-1) o5 (by decide) (by decide) (by decide)
    intro g
    induction g with
    | zero => intro x2 x4 o5 z1 z2 z3; omega
    | succ g ihg =>
      intro x2 x4 o5 z1 z2 z3
      refine w228_20 ⟨by unfold zR; omega, fun _ => ih _ _ _ _ (by omega) (by omega) (by omega), fun _ => ⟨by omega, D_227S m wx (by unfold zR; omega) (fun q1 q2 => ⟨by decide, fun _ => ⟨by omega, fun Z9 e9 => ?_⟩, fun e => absurd (show (1 : Int) ≠ 0 by decide) e⟩) ⟨by decide, fun e => absurd rfl e, fun _ => ihg _ _ _ (by omega) (by omega) (by omega)⟩⟩⟩
      subst e9
      refine D_shownP m wx y2 (by omega) fun r11 b1 b2 => ⟨by unfold zR; omega, by unfold zR; omega, fun _ => ⟨by omega, fun Z16 e16 => ?_⟩, fun _ => ⟨by omega, fun Z18 e18 => ?_⟩⟩
      · rw [e16, zup_back]; exact ihg _ _ _ (by omega) (by omega) (by omega)
      · rw [e18, zup_back]; exact ihg _ _ _ (by omega) (by omega) (by omega)
theorem D_235 {x1 x2 : Int} {Q : Int → zM → Prop} (m : QS Z Z1 a) (wx : WX a) (h1 : 0 ≤ x1 ∧ x1 < 8) (h2 : -1 ≤ x2 ∧ x2 < 6) (hQ : ∀ r, 0 ≤ r → r ≤ 6 → Q r Z1) : TI (d + 2) 235 [.inr 100, .inl x1, .inl x2] Z1 Q := by
  refine w235_0 ⟨h1, h1, fun Z3 e3 => ?_⟩
  subst e3
  refine D_wrongP m wx h1.1 h2 fun r r1 r2 => ⟨h1, fun Z7 e7 => ?_⟩
  rw [e7, zup_back]; exact hQ r r1 r2
theorem U_bestWire {x1 x2 : Int} (A : RX Z a) (wx : WX a) (h1 : zR x1) (h2 : zR x2) : TI (d + 3) 236 [.inr 100, .inl x1, .inl x2] Z (QD Z a (geith (gin a.1.1 x1) (gunk x2 1))) := by
  have m := QS.refl A
  have hn : 0 ≤ a.1.1 ∧ a.1.1 ≤ 8 := wx.1.1.1
  have hW : 5 ≤ a.1.2.1 ∧ a.1.2.1 ≤ 6 := wx.1.1.2.1
  have e6 := m.now.2.1
  refine w236_0 (R_isBird m.now.1 (by unfold zR; omega) h1 (fun i => ⟨by decide, fun _ => R_isIn h2 (by decide) (by decide) (fun j => ?_) (fun j => ⟨by decide, fun e => absurd rfl e, fun _ => D_no m wx (by rw [ge0 (gin_0.mpr i), gu2 j]) (by decide)⟩), fun e => absurd (show (1 : Int) ≠ 0 by decide) e⟩) (fun i => ⟨by decide, fun e => absurd rfl e, fun _ => D_no m wx (by rw [gi1 i]; rfl) (by decide)⟩))
  have hc : geith (gin a.1.1 x1) (gunk x2 1) = 0 := geith_0.mpr ⟨gin_0.mpr i, gunk_0.mpr j⟩
  have sb := m.sits wx i
  refine ⟨by decide, fun _ => ⟨h2, fun _ => ⟨by omega, ?_⟩, fun _ => D_235 m wx (by omega) (by decide) fun r _ _ => D_ok m hc⟩, fun e => absurd (show (1 : Int) ≠ 0 by decide) e⟩
  rw [e6]
  suffices H : ∀ (f : Nat) (x3 x4 x5 : Int), x5 + 1 < f → -1 ≤ x5 → x5 < 6 → 0 ≤ x4 → x4 < 6 → TZ (d + 3) 236 66 [some (.inr 100), some (.inl x1), some (.inl x2), some (.inl x3), some (.inl x4), some (.inl x5)] [] Z (zri (QD Z a (geith (gin a.1.1 x1) (gunk x2 1)))) from H 8 0 _ _ (by omega) (by omega) (by omega) sb.1 (by omega)
  intro f
  induction f with
  | zero => intro x3 x4 x5 y1 y2 y3 y4 y5; omega
  | succ f ih =>
    intro x3 x4 x5 y1 y2 y3 y4 y5
    have nx : ∀ x3 x4, 0 ≤ x5 → 0 ≤ x4 → x4 < 6 → TZ (d + 3) 236 66 [some (.inr 100), some (.inl x1), some (.inl x2), some (.inl x3), some (.inl x4), some (.inl (x5 + (-1)))] [] Z (zri (QD Z a (geith (gin a.1.1 x1) (gunk x2 1)))) := fun x3 x4 q1 q2 q3 => ih x3 x4 _ (by omega) (by omega) (by omega) q2 q3
    exact w236_66 ⟨by unfold zR; omega, fun _ => D_ok m hc, fun y => ⟨by omega, by unfold zR; omega, by unfold zR; omega, fun _ => D_235 m wx (by omega) (by omega) fun r r1 r2 => D_235 m wx (by omega) (by omega) fun r3 r4 r5 => ⟨by unfold zR; omega, by unfold zR; omega, fun _ => nx _ _ (by omega) y4 y5, fun _ => nx _ _ (by omega) (by omega) y3⟩, fun _ => R_room (n := a.1.1) (W := a.1.2.1) (h := a.1.2.2.1) (K := a.1.2.2.2.1) (F := a.1.2.2.2.2.1) (P := a.1.2.2.2.2.2.1) (T := a.1.2.2.2.2.2.2) m.1.1 (WF.pb wx.1.1) (by unfold zR; omega) (fun _ => ⟨by decide, fun e => absurd e (by decide), fun _ => D_235 m wx (by omega) (by omega) fun r r1 r2 => D_235 m wx (by omega) (by omega) fun r3 r4 r5 => ⟨by unfold zR; omega, by unfold zR; omega, fun _ => nx _ _ (by omega) y4 y5, fun _ => nx _ _ (by omega) (by omega) y3⟩⟩) (fun _ => ⟨by decide, fun _ => nx _ _ (by omega) y4 y5, fun e => absurd rfl e⟩)⟩⟩
theorem U_worstBird (A : RX Z a) (wx : WX a) : TI (d + 3) 267 [.inr 100] Z (QD Z a 0) := by
  have m := QS.refl A
  have hn : 0 ≤ a.1.1 ∧ a.1.1 ≤ 8 := wx.1.1.1
  have e5 := m.now.1
  refine w267_0 (D_wrongS m wx fun r r1 r2 => ?_)
  suffices H : ∀ (f : Nat) (x1 x2 x3 : Int) (o4 : Option zV), 8 - x3 < f → 0 ≤ x3 → x3 ≤ 8 → zR x1 → TZ (d + 3) 267 10 [some (.inr 100), some (.inl x1), some (.inl x2), some (.inl x3), o4] [] Z (zri (QD Z a 0)) from H 9 r (-9) 0 none (by decide) (by decide) (by decide) (by unfold zR; omega)
  intro f
  induction f with
  | zero => intro x1 x2 x3 o4 y1 y2 y3 y4; omega
  | succ f ih => intro x1 x2 x3 o4 y1 y2 y3 y4; exact w267_10 ⟨by unfold zR; omega, by unfold zR; omega, fun _ => D_ok m rfl, fun _ => D_235 m wx (by omega) (by decide) fun r r1 r2 => ⟨by unfold zR; omega, y4, fun _ => ih _ _ _ _ (by omega) (by omega) (by omega) (by unfold zR; omega), fun _ => ih _ _ _ _ (by omega) (by omega) (by omega) y4⟩⟩
theorem D_229 {x1 x2 : Int} {Q : Int → zM → Prop} (m : QK Z Z1 a B) (wx : WX a) (h1 : 0 ≤ x1 ∧ x1 ≤ 70000) (h2 : 0 ≤ x2 ∧ x2 ≤ 4) (hQ : ∀ r Z2, (r = 0 ∨ r = 1) → QK Z Z2 a B → Q r Z2) : TI (d + 3) 229 [.inr 100, .inl x1, .inl x2] Z1 Q := by
  have hn : 0 ≤ a.1.1 ∧ a.1.1 ≤ 8 := wx.1.1.1
  have hW : 5 ≤ a.1.2.1 ∧ a.1.2.1 ≤ 6 := wx.1.1.2.1
  refine w229_0 ?_
  suffices H : ∀ (f : Nat) (x3 x4 : Int) (o5 o6 : Option zV) (Z1 : zM), x2 - x4 < f → 0 ≤ x4 → x4 ≤ x2 → 0 ≤ x3 → x3 ≤ 70000 → QK Z Z1 a B → TZ (d + 3) 229 5 [some (.inr 100), some (.inl x1), some (.inl x2), some (.inl x3), some (.inl x4), o5, o6] [] Z1 (zri Q) from H 5 x1 0 none none Z1 (by omega) (by decide) (by omega) h1.1 h1.2 m
  intro f
  induction f with
  | zero => intro x3 x4 o5 o6 Z1 y1 y2 y3 y4 y5 k; omega
  | succ f ih =>
    intro x3 x4 o5 o6 Z1 y1 y2 y3 y4 y5 k
    have e5 := k.now.1
    have t1 : Int.tmod x3 16 = x3 % 16 := Int.tmod_eq_emod_of_nonneg y4
    have t2 : Int.tdiv (x3 % 16) 2 = x3 % 16 / 2 := Int.tdiv_eq_ediv_of_nonneg (by omega)
    have t3 : Int.tmod x3 2 = x3 % 2 := Int.tmod_eq_emod_of_nonneg y4
    have t4 : Int.tdiv x3 16 = x3 / 16 := Int.tdiv_eq_ediv_of_nonneg y4
    refine w229_5 ?_
    rw [t1, t2, t3, t4]
    refine ⟨by unfold zR; omega, by unfold zR; omega, fun _ => hQ 1 Z1 (Or.inr rfl) k, fun _ => ⟨by unfold zR; omega, by unfold zR; omega, by unfold zR; omega, by unfold zR; omega, fun c => ?_, fun _ => hQ 0 Z1 (Or.inl rfl) k⟩⟩
    have sb := k.sits (b := x3 % 16 / 2) (by omega)
    refine ⟨by omega, by unfold zR; omega, by unfold zR; omega, fun _ => D_227K (b := x3 % 16 / 2) k wx (by omega) (by unfold zR; omega) (fun k2 => ⟨by decide, fun _ => ⟨by omega, fun Z18 e => ⟨by unfold zR; omega, ?_⟩⟩, fun e => absurd (show (1 : Int) ≠ 0 by decide) e⟩) ⟨by decide, fun e => absurd rfl e, fun _ => hQ 0 Z1 (Or.inl rfl) k⟩, fun _ => D_227K (b := x3 % 16 / 2) k wx (by omega) (by unfold zR; omega) (fun k2 => ⟨by decide, fun _ => ⟨by omega, fun Z18 e => ⟨by unfold zR; omega, ?_⟩⟩, fun e => absurd (show (1 : Int) ≠ 0 by decide) e⟩) ⟨by decide, fun e => absurd rfl e, fun _ => hQ 0 Z1 (Or.inl rfl) k⟩⟩
    · subst e; exact ih _ _ _ _ _ (by omega) (by omega) (by omega) (by omega) (by omega) k2
    · subst e; exact ih _ _ _ _ _ (by omega) (by omega) (by omega) (by omega) (by omega) k2
theorem D_230 {x1 x2 : Int} {Q : Int → zM → Prop} (m : QS Z Z1 a) (wx : WX a) (vx : VX a) (h1 : zR x1) (h2 : 0 ≤ x2 ∧ x2 ≤ 4) (hQ : ∀ r Z2, (r = 0 ∨ r = 1) → QS Z Z2 a → Q r Z2) : TI (d + 4) 230 [.inr 100, .inl x1, .inl x2] Z1 Q := by
  have last : ∀ (f : Nat) (x3 x4 : Int) (o5 : Option zV) (Z1 : zM), 70000 - x4 < f → 0 ≤ x4 → x4 ≤ 70000 → x3 ≤ 70000 → 1 ≤ x3 → QS Z Z1 a → TZ (d + 4) 230 25 [some (.inr 100), some (.inl x1), some (.inl x2), some (.inl x3), some (.inl x4), o5] [] Z1 (zri Q) := by
    intro f
    induction f with
    | zero => intro x3 x4 o5 Z1 y1 y2 y3 y4 y5 l; omega
    | succ f ih =>
      intro x3 x4 o5 Z1 y1 y2 y3 y4 y5 l
      exact w230_25 ⟨by unfold zR; omega, by unfold zR; omega, fun _ => hQ 0 Z1 (Or.inl rfl) l, fun _ => D_thinks l wx vx fun Z2 k s => D_229 k wx (by omega) h2 fun r Z3 hr k3 => ⟨by unfold zR; omega, fun _ => D_forgets k3 wx fun Z4 l4 _ => ih _ _ _ Z4 (by omega) (by omega) (by omega) y4 y5 l4, fun _ => D_shownK k3 fun r5 b1 b2 => ⟨by unfold zR; omega, h1, fun _ => D_forgets k3 wx fun Z4 l4 _ => ih _ _ _ Z4 (by omega) (by omega) (by omega) y4 y5 l4, fun _ => D_forgets k3 wx fun Z4 l4 _ => hQ 1 Z4 (Or.inr rfl) l4⟩⟩⟩
  refine w230_0 ?_
  suffices H : ∀ (f : Nat) (x3 x4 : Int), x2 - x4 < f → 0 ≤ x4 → x4 ≤ x2 → 1 ≤ x3 → ((x4 = 0 ∧ x3 ≤ 1) ∨ (x4 = 1 ∧ x3 ≤ 16) ∨ (x4 = 2 ∧ x3 ≤ 256) ∨ (x4 = 3 ∧ x3 ≤ 4096) ∨ (x4 = 4 ∧ x3 ≤ 65536)) → TZ (d + 4) 230 5 [some (.inr 100), some (.inl x1), some (.inl x2), some (.inl x3), some (.inl x4), none] [] Z1 (zri Q) from H 5 1 0 (by omega) (by decide) (by omega) (by decide) (by decide)
  intro f
  induction f with
  | zero => intro x3 x4 y1 y2 y3 y4 y5; omega
  | succ f ih => intro x3 x4 y1 y2 y3 y4 y5; exact w230_5 ⟨by unfold zR; omega, by unfold zR; omega, fun _ => last 70001 _ _ _ Z1 (by omega) (by decide) (by decide) (by omega) y4 m, fun _ => ih _ _ (by omega) (by omega) (by omega) (by omega) (by omega)⟩
theorem U_near {x1 : Int} (A : RX Z a) (wx : WX a) (vx : VX a) (h1 : zR x1) : TI (d + 5) 231 [.inr 100, .inl x1] Z (QD Z a (gout x1 0 11)) := by
  have m := QS.refl A
  refine w231_0 (R_bound h1 (by decide) (by decide) ⟨zR9 gb3, fun c => ?_, fun c => D_no m wx rfl (go_n c)⟩)
  rw [c]
  suffices H : ∀ (f : Nat) (x3 : Int) (Z1 : zM), 4 - x3 < f → 0 ≤ x3 → x3 ≤ 4 → QS Z Z1 a → TZ (d + 5) 231 20 [some (.inr 100), some (.inl x1), some (.inl 0), some (.inl x3)] [] Z1 (zri (QD Z a 0)) from H 5 0 Z (by decide) (by decide) (by decide) m
  intro f
  induction f with
  | zero => intro x3 Z1 y1 y2 y3 l; omega
  | succ f ih => intro x3 Z1 y1 y2 y3 l; exact w231_20 ⟨by unfold zR; omega, fun _ => D_ok l rfl, fun _ => D_230 l wx vx h1 (by omega) fun r Z2 hr l2 => ⟨by unfold zR; omega, fun _ => ih _ Z2 (by omega) (by omega) (by omega) l2, fun _ => D_ok l2 rfl⟩⟩
theorem D_238 {x1 : Int} {Q : Int → zM → Prop} (m : QS Z Z1 a) (wx : WX a) (vx : VX a) (h1 : -1 ≤ x1 ∧ x1 < a.1.2.1) (hQ : ∀ r Z2, zR r → QS Z Z2 a → Q r Z2) : TI (d + 4) 238 [.inr 100, .inl x1] Z1 Q :=
  w238_0 (D_thinks m wx vx fun Z2 k s => D_pass k wx h1 (by decide) fun r Z3 _ k3 s3 => D_216K k3 wx fun r2 hr2 => D_forgets k3 wx fun Z4 l s4 => hQ r2 Z4 hr2 l)
theorem U_chord {x1 : Int} (A : RX Z a) (wx : WX a) (vx : VX a) (h1 : zR x1) : TI (d + 6) 239 [.inr 100, .inl x1] Z (QD Z a (gunk x1 1)) := by
  have m := QS.refl A
  have hW : 5 ≤ a.1.2.1 ∧ a.1.2.1 ≤ 6 := wx.1.1.2.1
  refine w239_0 (R_isIn h1 (by decide) (by decide) (fun i => ⟨by decide, fun _ => ⟨h1, fun _ => w237_0 ?_, fun _ => D_216S m wx fun r _ => D_ok m (gunk_0.mpr i)⟩, fun e => absurd (show (1 : Int) ≠ 0 by decide) e⟩) (fun i => ⟨by decide, fun e => absurd rfl e, fun _ => D_no m wx (gu2 i) (by decide)⟩))
  suffices H : ∀ (f : Nat) (x1' x2 : Int) (o3 o4 : Option zV) (Z1 : zM), 7 - x2 < f → 0 ≤ x2 → x2 ≤ 7 → QS Z Z1 a → TZ (d + 5) 237 4 [some (.inr 100), some (.inl x1'), some (.inl x2), o3, o4] [] Z1 (zri (QD Z a (gunk x1 1))) from H 8 0 0 none none Z (by decide) (by decide) (by decide) m
  intro f
  induction f with
  | zero => intro x1' x2 o3 o4 Z1 y1 y2 y3 l; omega
  | succ f ih =>
    intro x1' x2 o3 o4 Z1 y1 y2 y3 l
    have e6 := l.now.2.1
    refine w237_4 ⟨by unfold zR; omega, by unfold zR; omega, fun _ => D_ok l (gunk_0.mpr i), fun y => ?_⟩
    suffices H : ∀ (g : Nat) (x3 x4 : Int) (Z1 : zM), 7 - x4 < g → 0 ≤ x4 → x4 ≤ 7 → zR x3 → QS Z Z1 a → TZ (d + 5) 237 17 [some (.inr 100), some (.inl x1'), some (.inl x2), some (.inl x3), some (.inl x4)] [] Z1 (zri (QD Z a (gunk x1 1))) from H 8 1 0 Z1 (by decide) (by decide) (by decide) (by decide) l
    intro g
    induction g with
    | zero => intro x3 x4 Z1 z1 z2 z3 z4 l; omega
    | succ g ihg =>
      intro x3 x4 Z1 z1 z2 z3 z4 l
      exact w237_17 ⟨by unfold zR; omega, by unfold zR; omega, fun _ => ⟨z4, fun _ => ih _ _ _ _ Z1 (by omega) (by omega) (by omega) l, fun _ => ih _ _ _ _ Z1 (by omega) (by omega) (by omega) l⟩, fun _ => D_238 l wx vx (by omega) fun r Z2 hr l2 => D_238 l2 wx vx (by omega) fun r3 Z3 hr3 l3 => ⟨hr, hr3, fun _ => ihg _ _ Z3 (by omega) (by omega) (by omega) (zbit_r _ _ _) l3, fun _ => ihg _ _ Z3 (by omega) (by omega) (by omega) (zbit_r _ _ _) l3⟩⟩
end
