/-! THE REFERENCE's looks, sixth part -/
def N118 (q : Nat) : Bool := q == 118
def QSb (Z Z1 : zM) (s : gS) (b : gX) : Prop := (RFs Z1 s ∧ RY Z1 b) ∧ ∀ q, q < 100 → Z1 q = Z q
def QKb (Z Z1 : zM) (s : gS) (b : gX) (B : Int) : Prop := (∃ s' : gS, (RFs Z1 s' ∧ BF Z1 2 s ∧ RY Z1 b) ∧ WFs s' ∧ s'.1 = s.1 ∧ s'.2.1 = s.2.1 ∧ s'.2.2.1 ≤ B ∧ W4 s'.1 s'.2.2.2.2.2.1) ∧ ∀ q, q < 100 → Z1 q = Z q
section
variable {d : Nat} {Z Z1 Z2 : zM} {a b : gX} {s : gS} {B : Int}
theorem D_232 {Q : zM → Prop} (m : QS Z Z1 a) (wx : WX a) (hQ : ∀ Z2, QS Z Z2 a → Q Z2) : TV (d + 1) 232 [.inr 100] Z1 Q := by
  have hn : 0 ≤ a.1.1 ∧ a.1.1 ≤ 8 := wx.1.1.1
  have hW : 5 ≤ a.1.2.1 ∧ a.1.2.1 ≤ 6 := wx.1.1.2.1
  have wires : ∀ (f : Nat) (x1 : Int) (o2 o3 : Option zV) (Z1 : zM), 6 - x1 < f → 0 ≤ x1 → x1 ≤ 6 → QS Z Z1 a → TZ (d + 1) 232 31 [some (.inr 100), some (.inl x1), o2, o3] [] Z1 (zrv Q) := by
    intro f
    induction f with
    | zero => intro x1 o2 o3 Z1 y1 y2 y3 l; omega
    | succ f ih =>
      intro x1 o2 o3 Z1 y1 y2 y3 l
      have e6 := l.now.2.1
      refine w232_31 ⟨by unfold zR; omega, by unfold zR; omega, fun _ => hQ Z1 l, fun c => ?_⟩
      have back : ∀ (g : Nat) (x2 : Int) (o3 : Option zV) (Z1 : zM), 108 - x2 < g → 0 ≤ x2 → x2 ≤ 108 → QS Z Z1 a → TZ (d + 1) 232 142 [some (.inr 100), some (.inl x1), some (.inl x2), o3] [] Z1 (zrv Q) := by
        intro g
        induction g with
        | zero => intro x2 o3 Z1 z1 z2 z3 l; omega
        | succ g ihg => intro x2 o3 Z1 z1 z2 z3 l; exact w232_142 ⟨by unfold zR; omega, fun _ => ih _ _ _ Z1 (by omega) (by omega) (by omega) l, fun _ => ⟨by omega, by omega, fun Z5 e => ihg _ _ Z5 (by omega) (by omega) (by omega) (by subst e; exact l.up wx (by unfold scq; omega))⟩⟩
      have mid : ∀ (g : Nat) (x2 : Int) (o3 : Option zV) (Z1 : zM), 108 - x2 < g → 0 ≤ x2 → x2 ≤ 108 → QS Z Z1 a → TZ (d + 1) 232 62 [some (.inr 100), some (.inl x1), some (.inl x2), o3] [] Z1 (zrv Q) := by
        intro g
        induction g with
        | zero => intro x2 o3 Z1 z1 z2 z3 l; omega
        | succ g ihg =>
          intro x2 o3 Z1 z1 z2 z3 l
          refine w232_62 ⟨by unfold zR; omega, fun _ => back 109 _ _ Z1 (by decide) (by decide) (by decide) l, fun c2 => ?_⟩
          suffices H : ∀ (k : Nat) (x3 : Int) (Z1 : zM), 5 - x3 < k → 0 ≤ x3 → x3 ≤ 5 → QS Z Z1 a → TZ (d + 1) 232 70 [some (.inr 100), some (.inl x1), some (.inl x2), some (.inl x3)] [] Z1 (zrv Q) from H 6 0 Z1 (by decide) (by decide) (by decide) l
          intro k
          induction k with
          | zero => intro x3 Z1 q1 q2 q3 l; omega
          | succ k ihk =>
            intro x3 Z1 q1 q2 q3 l
            have e5 := l.now.1
            have w := l.wt wx (w := x1) (by omega)
            have p := mulb (x := x3) (y := Z1 102 x1) (a := 5) (b := 11) q2 q3 w.1 w.2
            have t1 : Int.tdiv x2 12 = x2 / 12 := Int.tdiv_eq_ediv_of_nonneg z2
            have t2 : Int.tmod x2 12 = x2 % 12 := Int.tmod_eq_emod_of_nonneg z2
            have t3 : Int.tmod (x2 % 12 + x3 * Z1 102 x1) 12 = (x2 % 12 + x3 * Z1 102 x1) % 12 := Int.tmod_eq_emod_of_nonneg (by omega)
            refine w232_70 ?_
            rw [t1, t2, t3]
            exact ⟨by unfold zR; omega, fun _ => ihg _ _ Z1 (by omega) (by omega) (by omega) l, fun c3 => ⟨by unfold zR; omega, by unfold zR; omega, by unfold zR; omega, fun _ => ihg _ _ Z1 (by omega) (by omega) (by omega) l, fun c4 => ⟨by unfold zR; omega, by unfold zR; omega, by omega, by unfold zR; omega, by omega, by omega, by omega, fun Z14 e => ihk _ Z14 (by omega) (by omega) (by omega) (by subst e; exact l.up wx (by unfold scq; omega))⟩⟩⟩
      suffices H : ∀ (g : Nat) (x2 : Int) (o3 : Option zV) (Z1 : zM), 108 - x2 < g → 0 ≤ x2 → x2 ≤ 108 → QS Z Z1 a → TZ (d + 1) 232 41 [some (.inr 100), some (.inl x1), some (.inl x2), o3] [] Z1 (zrv Q) from H 109 0 _ Z1 (by decide) (by decide) (by decide) l
      intro g
      induction g with
      | zero => intro x2 o3 Z1 z1 z2 z3 l; omega
      | succ g ihg => intro x2 o3 Z1 z1 z2 z3 l; exact w232_41 ⟨by unfold zR; omega, fun _ => mid 109 _ _ Z1 (by decide) (by decide) (by decide) l, fun _ => ⟨by omega, fun Z4 e => ihg _ _ Z4 (by omega) (by omega) (by omega) (by subst e; exact l.up wx (by unfold scq; omega))⟩⟩
  refine w232_0 ?_
  suffices H : ∀ (g : Nat) (x1 : Int) (Z1 : zM), 108 - x1 < g → 0 ≤ x1 → x1 ≤ 108 → QS Z Z1 a → TZ (d + 1) 232 2 [some (.inr 100), some (.inl x1), none, none] [] Z1 (zrv Q) from H 109 0 Z1 (by decide) (by decide) (by decide) m
  intro g
  induction g with
  | zero => intro x1 Z1 z1 z2 z3 l; omega
  | succ g ihg =>
    intro x1 Z1 z1 z2 z3 l
    exact w232_2 ⟨by unfold zR; omega, fun _ => wires 7 _ _ _ Z1 (by decide) (by decide) (by decide) l, fun _ => ⟨by unfold zR; omega, fun _ => ⟨by omega, fun Z6 e => ihg _ Z6 (by omega) (by omega) (by omega) (by subst e; exact l.up wx (by unfold scq; omega))⟩, fun _ => ⟨by omega, fun Z8 e => ihg _ Z8 (by omega) (by omega) (by omega) (by subst e; exact l.up wx (by unfold scq; omega))⟩⟩⟩
theorem U_read {x1 : Int} (A : RX Z a) (wx : WX a) (h1 : zR x1) : TI (d + 3) 233 [.inr 100, .inl x1] Z (QD Z a (gunk x1 1)) := by
  have m := QS.refl A
  have hn : 0 ≤ a.1.1 ∧ a.1.1 ≤ 8 := wx.1.1.1
  refine w233_0 (R_isIn h1 (by decide) (by decide) (fun i => ⟨by decide, fun _ => D_232 m wx fun Z5 l5 => ?_, fun e => absurd (show (1 : Int) ≠ 0 by decide) e⟩) (fun i => ⟨by decide, fun e => absurd rfl e, fun _ => D_no m wx (gu2 i) (by decide)⟩))
  refine TZ.nq N118 ?_
  have l : QS Z (nq N118 Z5) a := l5.scr wx fun q hq => by
    funext p; unfold nq
    rw [if_neg]
    intro e
    have : q = 118 := by simpa [N118] using e
    exact hq (by subst this; unfold scq; omega)
  have hz : ∀ j, zR (nq N118 Z5 118 j) := fun j => nq_r rfl j
  generalize nq N118 Z5 = Z6 at l hz
  have e5 := l.now.1
  suffices H : ∀ (f : Nat) (x2 x3 : Int), 12 - x3 < f → 0 ≤ x3 → x3 ≤ 12 → TZ (d + 3) 233 24 [some (.inr 100), some (.inl x1), some (.inl x2), some (.inl x3)] [] Z6 (zri (QD Z a (gunk x1 1))) from H 13 0 0 (by decide) (by decide) (by decide)
  intro f
  induction f with
  | zero => intro x2 x3 y1 y2 y3; omega
  | succ f ih => intro x2 x3 y1 y2 y3; exact w233_24 ⟨by unfold zR; omega, fun _ => ⟨h1, fun _ => D_ok l (gunk_0.mpr i), fun _ => D_shownS l wx fun r r1 r2 => ⟨by omega, D_ok l (gunk_0.mpr i)⟩⟩, fun _ => ⟨by omega, hz _, fun _ => ih _ _ (by omega) (by omega) (by omega), fun _ => ih _ _ (by omega) (by omega) (by omega)⟩⟩
/-! the weights of now changed for a while -/
theorem RFs.scr (A : RFs Z1 s) (h : ∀ q, ¬ scq q → Z2 q = Z1 q) : RFs Z2 s :=
  RF.keep A (h 102 (by unfold scq; omega)) (h 103 (by unfold scq; omega)) (h 104 (by unfold scq; omega)) (h 105 (by unfold scq; omega)) (by rw [h 100 (by unfold scq; omega)]) (by rw [h 100 (by unfold scq; omega)]) (by rw [h 100 (by unfold scq; omega)])
theorem RY.scr (wb : WX b) (A : RY Z1 b) (h : ∀ q, ¬ scq q → Z2 q = Z1 q) : RY Z2 b := A.keep wb fun q p hs => by rw [h q (by unfold SY at hs; unfold scq; omega)]
theorem QKb.le {B' : Int} (m : QKb Z Z1 s b B) (h : B ≤ B') : QKb Z Z1 s b B' := by
  obtain ⟨⟨s', h1, h2, h3, h4, h5, h6⟩, f⟩ := m
  exact ⟨⟨s', h1, h2, h3, h4, by omega, h6⟩, f⟩
theorem QKb.up {c : Nat} {p v : Int} (m : QKb Z Z1 s b B) (wb : WX b) (hs : s.1 ≤ 8) (hc : scq c) : QKb Z (zup Z1 c p v) s b B := by
  obtain ⟨⟨s', h1, h2⟩, f⟩ := m
  have F : ∀ q, ¬ scq q → zup Z1 c p v q = Z1 q := fun q hq => funext fun i => zup_cell _ _ _ _ (fun e => hq (by subst e; exact hc))
  exact ⟨⟨s', ⟨h1.1.scr F, BF.keep hs h1.2.1 (fun p _ _ => by rw [F 110 (by unfold scq; omega)]), RY.scr wb h1.2.2 F⟩, h2⟩, fun q hq => by rw [F q (by unfold scq; omega), f q hq]⟩
theorem E_thinks {Q : zM → Prop} (m : QSb Z Z1 s b) (wb : WX b) (wf : WFs s) (hh : s.2.2.1 ≤ 999) (w4 : W4 s.1 s.2.2.2.2.2.1) (hQ : ∀ Z2, QKb Z Z2 s b 999 → same Z1 Z2 → Q Z2) : TV (d + 2) 179 [.inr 100] Z1 Q := by
  refine w179_0 (R_save (by decide) fun Z' v => hQ Z' ?_ fun q hq => funext fun p => v.fr q p (by unfold ST; omega))
  obtain ⟨b1, b2⟩ := savd.bf wf.1.2 m.1.1 v
  exact ⟨⟨s, ⟨b2, b1, m.1.2.keep wb fun q p h => v.fr q p (ST_SY h)⟩, wf, rfl, rfl, hh, w4⟩, fun q hq => by
    rw [← m.2 q hq]; exact funext fun p => v.fr q p (by unfold ST; omega)⟩
theorem E_forgets {Q : zM → Prop} (m : QKb Z Z1 s b B) (wb : WX b) (hs : s.1 ≤ 8) (hQ : ∀ Z2, QSb Z Z2 s b → same Z1 Z2 → Q Z2) : TV (d + 2) 180 [.inr 100] Z1 Q := by
  obtain ⟨⟨s', h1, h2⟩, g⟩ := m
  refine w180_0 (R_load (by decide) fun Z' v => hQ Z' ⟨⟨lodd.rf hs h1.2.1 v, h1.2.2.keep wb fun q p h => v.fr q p (ST_SY h)⟩, fun q hq => by
    rw [← g q hq]; exact funext fun p => v.fr q p (by unfold ST; omega)⟩ fun q hq => funext fun p => v.fr q p (by unfold ST; omega))
theorem E_pass {fl : Int} {Q : Int → zM → Prop} (m : QKb Z Z1 s b B) (wb : WX b) (hs : s.1 ≤ 8) (hf : -1 ≤ fl ∧ fl < s.2.1) (hB : B < 1000000) (hQ : ∀ r Z2, zR r → QKb Z Z2 s b (B + 1) → same Z1 Z2 → Q r Z2) : TI (d + 3) 188 [.inr 100, .inl fl] Z1 Q := by
  obtain ⟨⟨⟨n, W, h, K, F, P, T⟩, h1, h2, h3, h4, h5, h6⟩, g⟩ := m
  have h5 : h ≤ B := h5
  have h4 : W = s.2.1 := h4
  have hn : 0 ≤ n ∧ n ≤ 8 := h2.1
  refine R_goes1 h1.1 h2 (by omega) (by omega) fun Z2 C f => hQ _ Z2 (gP2_r _) ⟨⟨gpass fl (n, W, h, K, F, P, T), ⟨C, BF.keep hs h1.2.1 (fun p _ _ => f _ _ (by unfold SH; omega)), h1.2.2.keep wb fun q p hh => f q p (by unfold SY at hh; unfold SH; omega)⟩, gpass_wf h2 (by dsimp only; omega) (by dsimp only; omega), h3, h4, by show h + 1 ≤ B + 1; omega, gP_w4 h6 _ (by dsimp only; omega)⟩, fun q hq => ?_⟩ fun q hq => funext fun p => f q p (by unfold SH; omega)
  rw [← g q hq]; exact funext fun p => f q p (by unfold SH; omega)
theorem E_shown {Q : Int → zM → Prop} (m : QKb Z Z1 s b B) (hQ : ∀ r, 0 ≤ r → r < 12 → Q r Z1) : TI d 161 [.inr 100] Z1 Q := by
  obtain ⟨⟨⟨n, W, h, K, F, P, T⟩, h1, h2, h3, h4, h5, h6⟩, g⟩ := m
  have b := gshow_b h2
  exact R_shown h1.1 h2 (hQ _ b.1 b.2)
theorem E_wrong {Q : Int → zM → Prop} (m : QKb Z Z1 s b B) (hQ : ∀ r, 0 ≤ r → r ≤ 6 → Q r Z1) : TI (d + 1) 162 [.inr 100] Z1 Q := by
  obtain ⟨⟨⟨n, W, h, K, F, P, T⟩, h1, h2, h3, h4, h5, h6⟩, g⟩ := m
  exact R_wrong h1.1 h2 (hQ _ gapart_b.1 gapart_b.2)
theorem E_210 {x1 : Int} {Q : Int → zM → Prop} (m : QSb Z Z1 s b) (wb : WX b) (wf : WFs s) (hh : s.2.2.1 ≤ 999) (w4 : W4 s.1 s.2.2.2.2.2.1) (h1 : 0 ≤ x1 ∧ x1 ≤ 50) (hQ : ∀ r Z2, 0 ≤ r → r ≤ 300 → QSb Z Z2 s b → Q r Z2) : TI (d + 5) 210 [.inr 100, .inl x1] Z1 Q := by
  have hW : 5 ≤ s.2.1 ∧ s.2.1 ≤ 6 := wf.2.1
  have hs : s.1 ≤ 8 := wf.1.2
  refine w210_0 (w205_0 (E_thinks m wb wf hh w4 fun Z2 k _ => ?_))
  have tail : ∀ Z2, QSb Z Z2 s b → HF Z2 (x1 + 1) → TZ (d + 5) 210 9 [some (.inr 100), some (.inl x1), some (.inl 0), some (.inl 1)] [] Z2 (zri Q) := by
    intro Z2 l hf
    suffices H : ∀ (f : Nat) (x2 x3 : Int), x1 + 1 - x3 < f → 1 ≤ x3 → x3 ≤ x1 + 1 → 0 ≤ x2 → x2 ≤ 6 * (x3 - 1) → TZ (d + 5) 210 9 [some (.inr 100), some (.inl x1), some (.inl x2), some (.inl x3)] [] Z2 (zri Q) from H (x1 + 1).toNat 0 1 (by omega) (by decide) (by omega) (by decide) (by decide)
    intro f
    induction f with
    | zero => intro x2 x3 y1 y2 y3 y4 y5; omega
    | succ f ih =>
      intro x2 x3 y1 y2 y3 y4 y5
      refine w210_9 ⟨by unfold zR; omega, by unfold zR; omega, fun _ => hQ _ Z2 y4 (by omega) l, fun _ => ⟨by omega, ?_⟩⟩
      have h := (hf x3 (by omega) (by omega)).2.1
      exact ih _ _ (by omega) (by omega) (by omega) (by omega) (by omega)
  suffices H : ∀ (f : Nat) (x2 : Int) (Z1 : zM), x1 + 1 - x2 < f → 0 ≤ x2 → x2 ≤ x1 + 1 → QKb Z Z1 s b (999 + x2) → HF Z1 x2 → TZ (d + 4) 205 6 [some (.inr 100), some (.inl x1), some (.inl x2)] [] Z1 (zrv fun Z1 => TZ (d + 5) 210 9 [some (.inr 100), some (.inl x1), some (.inl 0), some (.inl 1)] [] Z1 (zri Q)) from H (x1 + 2).toNat 0 Z2 (by omega) (by omega) (by omega) (k.le (by omega)) (fun j h1 h2 => by omega)
  intro f
  induction f with
  | zero => intro x2 Z1 y1 y2 y3 m1 hf; omega
  | succ f ih =>
    intro x2 Z1 y1 y2 y3 m1 hf
    refine w205_6 ⟨by unfold zR; omega, by unfold zR; omega, fun y => E_forgets m1 wb hs fun Z3 l s => tail Z3 l ?_, fun y => E_shown m1 fun r r1 r2 => ⟨by omega, fun Z8 e8 => ?_⟩⟩
    · have e : x2 = x1 + 1 := by omega
      rw [e] at hf
      exact hf.same s
    have m8 : QKb Z Z8 s b (999 + x2) := by subst e8; exact m1.up wb hs (by unfold scq; omega)
    refine E_wrong m8 fun r3 r4 r5 => ⟨by omega, fun Z12 e12 => ?_⟩
    have m12 : QKb Z Z12 s b (999 + x2) := by subst e12; exact m8.up wb hs (by unfold scq; omega)
    refine E_pass m12 wb hs (by omega) (by omega) fun r6 Z13 hr6 m13 s13 => ⟨by omega, fun Z16 e16 => ?_⟩
    have m16 : QKb Z Z16 s b (999 + x2 + 1) := by subst e16; exact m13.up wb hs (by unfold scq; omega)
    refine ih _ Z16 (by omega) (by omega) (by omega) (m16.le (by omega)) fun j h1 h2 => ?_
    have e1 : Z16 111 j = zup Z1 111 x2 r 111 j := by rw [e16, zup_cell _ _ _ _ (by decide), s13 111 (by decide), e12, zup_cell _ _ _ _ (by decide), e8]
    have e2 : Z16 112 j = zup Z8 112 x2 r3 112 j := by rw [e16, zup_cell _ _ _ _ (by decide), s13 112 (by decide), e12]
    have e3 : Z16 113 j = zup Z13 113 x2 r6 113 j := by rw [e16]
    rw [e1, e2, e3]
    by_cases e : j = x2
    · subst e; rw [zup_same, zup_same, zup_same]; exact ⟨⟨r1, r2⟩, ⟨r4, r5⟩, hr6⟩
    · rw [zup_place _ _ _ _ e, zup_place _ _ _ _ e, zup_place _ _ _ _ e, e8, zup_cell _ _ _ _ (by decide), s13 113 (by decide), e12, zup_cell _ _ _ _ (by decide), e8, zup_cell _ _ _ _ (by decide)]
      exact hf j h1 (by omega)
theorem RFs.weigh {x v : Int} (A : RFs Z1 s) (hx : 0 ≤ x ∧ x < 6) : RFs (zup Z1 102 x v) (gwt x v s) := by
  obtain ⟨n, W, h, K, F, P, T⟩ := s
  obtain ⟨e5, e6, e7, eb, ew⟩ := A
  refine ⟨by rw [zup_cell _ _ _ _ (by decide)]; exact e5, by rw [zup_cell _ _ _ _ (by decide)]; exact e6, by rw [zup_cell _ _ _ _ (by decide)]; exact e7, fun b h1 h2 => ?_, fun w h1 h2 => ?_⟩
  · rw [zup_cell _ _ _ _ (by decide), zup_cell _ _ _ _ (by decide), zup_cell _ _ _ _ (by decide)]; exact eb b h1 h2
  · show zup Z1 102 x v 102 w = gup T x v w
    by_cases e : w = x
    · subst e; rw [zup_same, gup_same]
    · rw [zup_place _ _ _ _ e, gup_ne _ _ e]; exact ew w h1 h2
theorem U_bestWeight {x1 : Int} (A : RX Z a) (wx : WX a) (vx : VX a) (h1 : zR x1) : TI (d + 6) 234 [.inr 100, .inl x1] Z (QD Z a (gout x1 1 20)) := by
  have m := QS.refl A
  have hW : 5 ≤ a.1.2.1 ∧ a.1.2.1 ≤ 6 := wx.1.1.2.1
  refine w234_0 (R_bound h1 (by decide) (by decide) ⟨zR9 gb3, fun c => ?_, fun c => D_no m wx rfl (go_n c)⟩)
  have c1 := gout_0.mp c
  rw [c]
  refine D_210 m wx vx (by omega) fun r6 Z5 b1 b2 l5 => ?_
  suffices H : ∀ (f : Nat) (x3 x4 x5 : Int) (o6 o7 o8 : Option zV) (Z1 : zM), 6 - x5 < f → 0 ≤ x5 → x5 ≤ 6 → zR x3 → QS Z Z1 a → TZ (d + 6) 234 31 [some (.inr 100), some (.inl x1), some (.inl 0), some (.inl x3), some (.inl x4), some (.inl x5), o6, o7, o8] [] Z1 (zri (QD Z a 0)) from H 7 r6 (-9) 0 none none none Z5 (by decide) (by decide) (by decide) (by unfold zR; omega) l5
  intro f
  induction f with
  | zero => intro x3 x4 x5 o6 o7 o8 Z1 y1 y2 y3 y4 l; omega
  | succ f ih =>
    intro x3 x4 x5 o6 o7 o8 Z1 y1 y2 y3 y4 l
    have e6 := l.now.2.1
    refine w234_31 ⟨by unfold zR; omega, by unfold zR; omega, fun _ => D_ok l rfl, fun cW => ⟨by omega, ?_⟩⟩
    have w0 : Z1 102 x5 = a.1.2.2.2.2.2.2 x5 := l.1.1.2.2.2.2 x5 y2 (by omega)
    rw [w0]
    suffices H : ∀ (g : Nat) (x3 x4 x7 : Int) (o8 : Option zV) (Z1 : zM), 12 - x7 < g → 0 ≤ x7 → x7 ≤ 12 → zR x3 → QS Z Z1 a → TZ (d + 6) 234 52 [some (.inr 100), some (.inl x1), some (.inl 0), some (.inl x3), some (.inl x4), some (.inl x5), some (.inl (a.1.2.2.2.2.2.2 x5)), some (.inl x7), o8] [] Z1 (zri (QD Z a 0)) from H 13 x3 x4 0 o8 Z1 (by decide) (by decide) (by decide) y4 l
    intro g
    induction g with
    | zero => intro x3 x4 x7 o8 Z1 z1 z2 z3 z4 l; omega
    | succ g ihg =>
      intro x3 x4 x7 o8 Z1 z1 z2 z3 z4 l
      refine w234_52 ⟨by unfold zR; omega, fun _ => ih _ _ _ _ _ _ Z1 (by omega) (by omega) (by omega) z4 l, fun c7 => ⟨by omega, fun Z4 e4 => ?_⟩⟩
      have ry : ∀ (Z2 : zM) (v : Int), RY Z2 a → RY (zup Z2 102 x5 v) a := fun Z2 v h => h.keep wx fun q p hs => by rw [zup_cell _ _ _ _ (by unfold SY at hs; omega)]
      have l4 : QSb Z Z4 (gwt x5 x7 a.1) a := by
        subst e4
        exact ⟨⟨RFs.weigh l.1.1 (by omega), ry _ _ l.1.2⟩, fun q hq => by rw [← l.2 q hq]; funext p; exact zup_cell _ _ _ _ (by omega)⟩
      have wf4 : WFs (gwt x5 x7 a.1) := by
        obtain ⟨v1, v2, v3, v4, v5⟩ := wx.1.1
        refine ⟨v1, v2, v3, v4, fun w w1 w2 => ?_⟩
        show 0 ≤ gup a.1.2.2.2.2.2.2 x5 x7 w ∧ gup a.1.2.2.2.2.2.2 x5 x7 w ≤ 11
        by_cases e : w = x5
        · subst e; rw [gup_same]; omega
        · rw [gup_ne _ _ e]; exact v5 w w1 w2
      refine E_210 l4 wx wf4 wx.1.2 vx.1 (by omega) fun r Z6 q1 q2 l6 => ⟨by omega, fun Z8 e8 => ?_⟩
      have l8 : QS Z Z8 a := by
        subst e8
        refine ⟨⟨?_, ry _ _ l6.1.2⟩, fun q hq => by rw [← l6.2 q hq]; funext p; exact zup_cell _ _ _ _ (by omega)⟩
        have R := RFs.weigh (x := x5) (v := a.1.2.2.2.2.2.2 x5) l6.1.1 (by omega)
        refine ⟨R.1, R.2.1, R.2.2.1, R.2.2.2.1, fun w w1 w2 => ?_⟩
        have := R.2.2.2.2 w w1 w2
        rw [this]
        show gup (gup a.1.2.2.2.2.2.2 x5 x7) x5 (a.1.2.2.2.2.2.2 x5) w = a.1.2.2.2.2.2.2 w
        by_cases e : w = x5
        · subst e; rw [gup_same]
        · rw [gup_ne _ _ e, gup_ne _ _ e]
      exact ⟨by unfold zR; omega, z4, fun _ => ihg _ _ _ _ Z8 (by omega) (by omega) (by omega) (by unfold zR; omega) l8, fun _ => ihg _ _ _ _ Z8 (by omega) (by omega) (by omega) z4 l8⟩
end
