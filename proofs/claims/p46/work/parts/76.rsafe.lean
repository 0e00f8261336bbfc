/-! THE REFERENCE's looks: they end, refuse as they must, and leave the state as it was -/
def QD (Z : zM) (a : gX) (c r : Int) (Z' : zM) : Prop := ∃ v, PostR Z (oq a c v) r Z'
def QS (Z Z1 : zM) (a : gX) : Prop := RX Z1 a ∧ ∀ q, q < 100 → Z1 q = Z q
def QK (Z Z1 : zM) (a : gX) (B : Int) : Prop := (∃ s : gS, RK Z1 a s ∧ WFs s ∧ s.1 = a.1.1 ∧ s.2.1 = a.1.2.1 ∧ s.2.2.1 ≤ B ∧ W4 s.1 s.2.2.2.2.2.1) ∧ ∀ q, q < 100 → Z1 q = Z q
/-- the scratch is the same -/
def same (Z1 Z2 : zM) : Prop := ∀ q, ((107 ≤ q ∧ q ≤ 109) ∨ 111 ≤ q) → Z2 q = Z1 q
def scq (q : Nat) : Prop := (107 ≤ q ∧ q ≤ 109) ∨ (111 ≤ q ∧ q ≤ 115) ∨ 117 ≤ q
theorem same.refl (Z : zM) : same Z Z := fun _ _ => rfl
theorem same.trans {Z1 Z2 Z3 : zM} (h1 : same Z1 Z2) (h2 : same Z2 Z3) : same Z1 Z3 := fun q h => (h2 q h).trans (h1 q h)
section
variable {d : Nat} {Z Z1 Z2 : zM} {a : gX} {B : Int}
theorem QK.le {B' : Int} (m : QK Z Z1 a B) (h : B ≤ B') : QK Z Z1 a B' := by
  obtain ⟨⟨s, h1, h2, h3, h4, h5, h6⟩, f⟩ := m
  exact ⟨⟨s, h1, h2, h3, h4, by omega, h6⟩, f⟩
theorem QS.refl (A : RX Z a) : QS Z Z a := ⟨A, fun _ _ => rfl⟩
theorem sc_fR (h : ∀ q, ¬ scq q → Z2 q = Z1 q) : fR (fun q _ => scq q) Z1 Z2 := fun q p hq => by rw [h q hq]
theorem QS.scr (m : QS Z Z1 a) (wx : WX a) (h : ∀ q, ¬ scq q → Z2 q = Z1 q) : QS Z Z2 a :=
  ⟨m.1.scr wx (sc_fR h) fun q p s => by unfold scq at s; omega, fun q hq => by rw [h q (by unfold scq; omega), m.2 q hq]⟩
theorem QK.scr (m : QK Z Z1 a B) (wx : WX a) (h : ∀ q, ¬ scq q → Z2 q = Z1 q) : QK Z Z2 a B := by
  obtain ⟨⟨s, h1, h2⟩, f⟩ := m
  exact ⟨⟨s, h1.scr wx (sc_fR h) fun q p s => by unfold scq at s; omega, h2⟩, fun q hq => by rw [h q (by unfold scq; omega), f q hq]⟩
theorem QS.up {c : Nat} {p v : Int} (m : QS Z Z1 a) (wx : WX a) (hc : scq c) : QS Z (zup Z1 c p v) a :=
  m.scr wx fun q hq => funext fun i => zup_cell _ _ _ _ (fun e => hq (by subst e; exact hc))
theorem QK.up {c : Nat} {p v : Int} (m : QK Z Z1 a B) (wx : WX a) (hc : scq c) : QK Z (zup Z1 c p v) a B :=
  m.scr wx fun q hq => funext fun i => zup_cell _ _ _ _ (fun e => hq (by subst e; exact hc))
theorem D_ok {code r : Int} (m : QS Z Z1 a) (e : code = 0) : QD Z a code r Z1 := ⟨r, RM e m.1 m.2⟩
theorem D_no {code c : Int} (m : QS Z Z1 a) (wx : WX a) (e : code = c) (hc : -6 ≤ c ∧ c ≤ -1) : TI d 154 [.inr 100, .inl c] Z1 (QD Z a code) := by
  refine R_no hc ⟨0, ?_⟩
  obtain ⟨h1, h2, h3⟩ := RRq (v := 0) m.1 wx e hc
  exact ⟨h1, h2, fun q hq => by rw [h3 q hq, m.2 q hq]⟩
theorem D_thinks {Q : zM → Prop} (m : QS Z Z1 a) (wx : WX a) (vx : VX a) (hQ : ∀ Z2, QK Z Z2 a 999 → same Z1 Z2 → Q Z2) : TV (d + 2) 179 [.inr 100] Z1 Q :=
  R_thinks m.1 wx fun Z2 k f => hQ Z2 ⟨⟨a.1, k, wx.1.1, rfl, rfl, wx.1.2, vx.1⟩, fun q hq => by
    rw [← m.2 q hq]; exact funext fun p => f q p (by unfold ST; omega)⟩ fun q hq => funext fun p => f q p (by unfold ST; omega)
theorem D_forgets {Q : zM → Prop} (m : QK Z Z1 a B) (wx : WX a) (hQ : ∀ Z2, QS Z Z2 a → same Z1 Z2 → Q Z2) : TV (d + 2) 180 [.inr 100] Z1 Q := by
  obtain ⟨⟨s, h1, h2⟩, g⟩ := m
  exact R_forgets h1 wx fun Z2 k f => hQ Z2 ⟨k, fun q hq => by
    rw [← g q hq]; exact funext fun p => f q p (by unfold ST; omega)⟩ fun q hq => funext fun p => f q p (by unfold ST; omega)
theorem D_pass {fl : Int} {Q : Int → zM → Prop} (m : QK Z Z1 a B) (wx : WX a) (hf : -1 ≤ fl ∧ fl < a.1.2.1) (hB : B < 1000000) (hQ : ∀ r Z2, zR r → QK Z Z2 a (B + 1) → same Z1 Z2 → Q r Z2) : TI (d + 3) 188 [.inr 100, .inl fl] Z1 Q := by
  obtain ⟨⟨⟨n, W, h, K, F, P, T⟩, h1, h2, h3, h4, h5, h6⟩, g⟩ := m
  have h5 : h ≤ B := h5
  have h4 : W = a.1.2.1 := h4
  have hn : 0 ≤ n ∧ n ≤ 8 := h2.1
  refine R_goes1 h1.1 h2 (by omega) (by omega) fun Z2 C f => hQ _ Z2 (gP2_r _) ⟨⟨gpass fl (n, W, h, K, F, P, T), h1.step wx C f, gpass_wf h2 (by dsimp only; omega) (by dsimp only; omega), h3, h4, by show h + 1 ≤ B + 1; omega, gP_w4 h6 _ (by dsimp only; omega)⟩, fun q hq => ?_⟩ fun q hq => funext fun p => f q p (by unfold SH; omega)
  rw [← g q hq]; exact funext fun p => f q p (by unfold SH; omega)
theorem D_shownK {Q : Int → zM → Prop} (m : QK Z Z1 a B) (hQ : ∀ r, 0 ≤ r → r < 12 → Q r Z1) : TI d 161 [.inr 100] Z1 Q := by
  obtain ⟨⟨⟨n, W, h, K, F, P, T⟩, h1, h2, h3, h4, h5, h6⟩, g⟩ := m
  have b := gshow_b h2
  exact R_shown h1.1 h2 (hQ _ b.1 b.2)
theorem D_wrongK {Q : Int → zM → Prop} (m : QK Z Z1 a B) (hQ : ∀ r, 0 ≤ r → r ≤ 6 → Q r Z1) : TI (d + 1) 162 [.inr 100] Z1 Q := by
  obtain ⟨⟨⟨n, W, h, K, F, P, T⟩, h1, h2, h3, h4, h5, h6⟩, g⟩ := m
  exact R_wrong h1.1 h2 (hQ _ gapart_b.1 gapart_b.2)
theorem D_shownS {Q : Int → zM → Prop} (m : QS Z Z1 a) (wx : WX a) (hQ : ∀ r, 0 ≤ r → r < 12 → Q r Z1) : TI d 161 [.inr 100] Z1 Q := by
  have b := gshow_b wx.1.1
  exact R_shown (n := a.1.1) (W := a.1.2.1) (h := a.1.2.2.1) (K := a.1.2.2.2.1) (F := a.1.2.2.2.2.1) (P := a.1.2.2.2.2.2.1) (T := a.1.2.2.2.2.2.2) m.1.1 wx.1.1 (hQ _ b.1 b.2)
theorem D_wrongS {Q : Int → zM → Prop} (m : QS Z Z1 a) (wx : WX a) (hQ : ∀ r, 0 ≤ r → r ≤ 6 → Q r Z1) : TI (d + 1) 162 [.inr 100] Z1 Q :=
  R_wrong (n := a.1.1) (W := a.1.2.1) (h := a.1.2.2.1) (K := a.1.2.2.2.1) (F := a.1.2.2.2.2.1) (P := a.1.2.2.2.2.2.1) (T := a.1.2.2.2.2.2.2) m.1.1 wx.1.1 (hQ _ gapart_b.1 gapart_b.2)
theorem gthing_w4 {n W t : Int} {P : Int → Int} (hn : 0 ≤ n) (h4 : W4 n P) : W4 n (gthing n W P t) := by
  unfold gthing
  split
  · exact gH_w4 h4 _ (by omega)
  · split
    · exact gR_w4 h4 _ (by omega)
    · split
      · exact gC_w4 h4 _ (by omega)
      · exact h4
theorem D_happens {t : Int} {Q : zM → Prop} (m : QK Z Z1 a B) (wx : WX a) (ht : 0 ≤ t ∧ t ≤ 7) (hQ : ∀ Z2, QK Z Z2 a B → same Z1 Z2 → Q Z2) : TV (d + 4) 195 [.inr 100, .inl t] Z1 Q := by
  obtain ⟨⟨⟨n, W, h, K, F, P, T⟩, h1, h2, h3, h4, h5, h6⟩, g⟩ := m
  refine R_happens0 h1.1 h2 h6 ht fun Z2 C f => hQ Z2 ⟨⟨(n, W, h, K, F, gthing n W P t, T), h1.step2 wx C f, gthing_wf h2 ht, h3, h4, h5, gthing_w4 h2.1.1 h6⟩, fun q hq => ?_⟩ fun q hq => funext fun p => f q p (by unfold SP; omega)
  rw [← g q hq]; exact funext fun p => f q p (by unfold SP; omega)
theorem D_cats {w : Int} {Q : Int → zM → Prop} (m : QK Z Z1 a B) (wx : WX a) (hw : 0 ≤ w ∧ w < a.1.2.1) (hQ : ∀ r Z2, QK Z Z2 a B → same Z1 Z2 → Q r Z2) : TI (d + 3) 191 [.inr 100, .inl w] Z1 Q := by
  obtain ⟨⟨⟨n, W, h, K, F, P, T⟩, h1, h2, h3, h4, h5, h6⟩, g⟩ := m
  have h4 : W = a.1.2.1 := h4
  have hn : 0 ≤ n ∧ n ≤ 8 := h2.1
  refine R_cats0 h1.1 h2 (by omega) fun Z2 C f => hQ _ Z2 ⟨⟨(n, W, h, K, F, (gC n W P w n.toNat).1, T), h1.step2 wx C f, gC_wf h2 hw.1 _ (by omega), h3, h4, h5, gC_w4 h6 _ (by omega)⟩, fun q hq => ?_⟩ fun q hq => funext fun p => f q p (by unfold SP; omega)
  rw [← g q hq]; exact funext fun p => f q p (by unfold SP; omega)
theorem QS.now (m : QS Z Z1 a) : Z1 100 5 = a.1.1 ∧ Z1 100 6 = a.1.2.1 ∧ Z1 100 7 = a.1.2.2.1 ∧ Z1 100 26 = a.2.2.2.2.1.1 := ⟨m.1.1.1, m.1.1.2.1, m.1.1.2.2.1, m.1.2.2.2.2.1.1⟩
theorem QK.now (m : QK Z Z1 a B) : Z1 100 5 = a.1.1 ∧ Z1 100 6 = a.1.2.1 ∧ Z1 100 26 = a.2.2.2.2.1.1 := by
  obtain ⟨⟨s, h1, h2, h3, h4, h5, h6⟩, g⟩ := m
  exact ⟨by rw [← h3]; exact h1.1.1, by rw [← h4]; exact h1.1.2.1, h1.2.2.2.2.2.1.1⟩
theorem QS.row (m : QS Z Z1 a) : (0 ≤ a.2.2.2.2.1.1 ∧ a.2.2.2.2.1.1 ≤ 12) ∧ ∀ j, 0 ≤ j → j < a.2.2.2.2.1.1 → Z1 116 j = a.2.2.2.2.1.2 j ∧ 0 ≤ Z1 116 j ∧ Z1 116 j ≤ 99 := by
  obtain ⟨r1, r2, r3⟩ := m.1.2.2.2.2.1
  refine ⟨r2, fun j h1 h2 => ?_⟩
  obtain ⟨q1, q2, q3⟩ := r3 j h1 h2
  rw [q1]; exact ⟨rfl, q2, q3⟩
theorem QK.row (m : QK Z Z1 a B) : (0 ≤ a.2.2.2.2.1.1 ∧ a.2.2.2.2.1.1 ≤ 12) ∧ ∀ j, 0 ≤ j → j < a.2.2.2.2.1.1 → Z1 116 j = a.2.2.2.2.1.2 j ∧ 0 ≤ Z1 116 j ∧ Z1 116 j ≤ 99 := by
  obtain ⟨⟨s, h1, h2⟩, g⟩ := m
  obtain ⟨r1, r2, r3⟩ := h1.2.2.2.2.2.1
  refine ⟨r2, fun j h1 h2 => ?_⟩
  obtain ⟨q1, q2, q3⟩ := r3 j h1 h2
  rw [q1]; exact ⟨rfl, q2, q3⟩
theorem QS.sits (m : QS Z Z1 a) (wx : WX a) {b : Int} (h : 0 ≤ b ∧ b < a.1.1) : 0 ≤ Z1 105 b ∧ Z1 105 b < a.1.2.1 := by
  have e : Z1 105 b = a.1.2.2.2.2.2.1 b := (m.1.1.2.2.2.1 b h.1 h.2).2.2
  have := (wx.1.1.2.2.2.1 b h.1 h.2).2.2
  rw [e]; exact this
theorem QK.sits (m : QK Z Z1 a B) {b : Int} (h : 0 ≤ b ∧ b < a.1.1) : 0 ≤ Z1 105 b ∧ Z1 105 b < a.1.2.1 := by
  obtain ⟨⟨⟨n, W, hh, K, F, P, T⟩, h1, h2, h3, h4, h5, h6⟩, g⟩ := m
  have h3 : n = a.1.1 := h3
  have h4 : W = a.1.2.1 := h4
  have e : Z1 105 b = P b := (h1.1.2.2.2.1 b h.1 (by dsimp only; omega)).2.2
  have := (h2.2.2.2.1 b h.1 (by dsimp only; omega)).2.2
  dsimp only at this
  rw [e]; omega
theorem QS.wt (m : QS Z Z1 a) (wx : WX a) {w : Int} (h : 0 ≤ w ∧ w < 6) : 0 ≤ Z1 102 w ∧ Z1 102 w ≤ 11 := by
  have e : Z1 102 w = a.1.2.2.2.2.2.2 w := m.1.1.2.2.2.2 w h.1 h.2
  rw [e]; exact wx.1.1.2.2.2.2 w h.1 h.2
theorem D_206 {x : Int} {Q : Int → zM → Prop} (hx : zR x) (hQ : Q (gout x 0 20) Z1) : TI (d + 1) 206 [.inl x] Z1 Q :=
  w206_0 (R_bound hx (by decide) (by decide) hQ)
def HF (Z1 : zM) (x : Int) : Prop := ∀ j, 0 ≤ j → j < x → (0 ≤ Z1 111 j ∧ Z1 111 j < 12) ∧ (0 ≤ Z1 112 j ∧ Z1 112 j ≤ 6) ∧ zR (Z1 113 j)
theorem HF.same {x : Int} (h : HF Z1 x) (s : same Z1 Z2) : HF Z2 x := fun j h1 h2 => by
  rw [s 111 (by decide), s 112 (by decide), s 113 (by decide)]; exact h j h1 h2
theorem D_205s {x1 : Int} {Q : zM → Prop} (m : QS Z Z1 a) (wx : WX a) (vx : VX a) (h1 : 0 ≤ x1 ∧ x1 ≤ 50) (hQ : ∀ Z2, QS Z Z2 a → HF Z2 (x1 + 1) → (∀ q, 114 ≤ q → Z2 q = Z1 q) → Q Z2) : TV (d + 4) 205 [.inr 100, .inl x1] Z1 Q := by
  have hW : 5 ≤ a.1.2.1 ∧ a.1.2.1 ≤ 6 := wx.1.1.2.1
  refine w205_0 (D_thinks m wx vx fun Z2 k s2 => ?_)
  suffices H : ∀ (f : Nat) (x2 : Int) (Z3 : zM), x1 + 1 - x2 < f → 0 ≤ x2 → x2 ≤ x1 + 1 → QK Z Z3 a (999 + x2) → HF Z3 x2 → (∀ q, 114 ≤ q → Z3 q = Z1 q) → TZ (d + 4) 205 6 [some (.inr 100), some (.inl x1), some (.inl x2)] [] Z3 (zrv Q) from H (x1 + 2).toNat 0 Z2 (by omega) (by omega) (by omega) (k.le (by omega)) (fun j h1 h2 => by omega) (fun q hq => s2 q (by omega))
  intro f
  induction f with
  | zero => intro x2 Z0 y1 y2 y3 m1 hf hs; omega
  | succ f ih =>
    intro x2 Z0 y1 y2 y3 m1 hf hs
    refine w205_6 ⟨by unfold zR; omega, by unfold zR; omega, fun y => D_forgets m1 wx fun Z3 l s => hQ Z3 l ?_ (fun q hq => by rw [s q (by omega), hs q hq]), fun y => D_shownK m1 fun r r1 r2 => ⟨by omega, fun Z8 e8 => ?_⟩⟩
    · have e : x2 = x1 + 1 := by omega
      rw [e] at hf
      exact hf.same s
    have m8 : QK Z Z8 a (999 + x2) := by subst e8; exact m1.up wx (by unfold scq; omega)
    refine D_wrongK m8 fun r3 r4 r5 => ⟨by omega, fun Z12 e12 => ?_⟩
    have m12 : QK Z Z12 a (999 + x2) := by subst e12; exact m8.up wx (by unfold scq; omega)
    refine D_pass m12 wx (by omega) (by omega) fun r6 Z13 hr6 m13 s13 => ⟨by omega, fun Z16 e16 => ?_⟩
    have m16 : QK Z Z16 a (999 + x2 + 1) := by subst e16; exact m13.up wx (by unfold scq; omega)
    refine ih _ Z16 (by omega) (by omega) (by omega) (m16.le (by omega)) (fun j h1 h2 => ?_) (fun q hq => by rw [e16, show zup Z13 113 x2 r6 q = Z13 q from funext fun p => zup_cell _ _ _ _ (by omega), s13 q (by omega), e12, show zup Z8 112 x2 r3 q = Z8 q from funext fun p => zup_cell _ _ _ _ (by omega), e8, show zup Z0 111 x2 r q = Z0 q from funext fun p => zup_cell _ _ _ _ (by omega), hs q hq])
    have e1 : Z16 111 j = zup Z0 111 x2 r 111 j := by rw [e16, zup_cell _ _ _ _ (by decide), s13 111 (by decide), e12, zup_cell _ _ _ _ (by decide), e8]
    have e2 : Z16 112 j = zup Z8 112 x2 r3 112 j := by rw [e16, zup_cell _ _ _ _ (by decide), s13 112 (by decide), e12]
    have e3 : Z16 113 j = zup Z13 113 x2 r6 113 j := by rw [e16]
    rw [e1, e2, e3]
    by_cases e : j = x2
    · subst e; rw [zup_same, zup_same, zup_same]; exact ⟨⟨r1, r2⟩, ⟨r4, r5⟩, hr6⟩
    · rw [zup_place _ _ _ _ e, zup_place _ _ _ _ e, zup_place _ _ _ _ e, e8, zup_cell _ _ _ _ (by decide), s13 113 (by decide), e12, zup_cell _ _ _ _ (by decide), e8, zup_cell _ _ _ _ (by decide)]
      exact hf j h1 (by omega)
theorem D_205 {x1 : Int} {Q : zM → Prop} (m : QS Z Z1 a) (wx : WX a) (vx : VX a) (h1 : 0 ≤ x1 ∧ x1 ≤ 50) (hQ : ∀ Z2, QS Z Z2 a → HF Z2 (x1 + 1) → Q Z2) : TV (d + 4) 205 [.inr 100, .inl x1] Z1 Q :=
  D_205s m wx vx h1 fun Z2 l hf _ => hQ Z2 l hf
theorem ge0 {a b : Int} (h : a = 0) : geith a b = b := by unfold geith; rw [if_pos h]
theorem ge1 {a b : Int} (h : a ≠ 0) : geith a b = a := by unfold geith; rw [if_neg h]
theorem gu2 {x m : Int} (h : ¬ (0 ≤ x ∧ x ≤ m)) : gunk x m = -2 := by
  unfold gunk
  repeat' split
  all_goals omega
theorem gi1 {W w : Int} (h : ¬ (0 ≤ w ∧ w < W)) : gin W w = -1 := by unfold gin; rw [if_neg h]
theorem go_n {x lo hi : Int} (h : gout x lo hi ≠ 0) : -6 ≤ gout x lo hi ∧ gout x lo hi ≤ -1 := by
  have := @gb3 x lo hi; omega
theorem U_behind {x1 x2 : Int} (A : RX Z a) (wx : WX a) (vx : VX a) (h1 : zR x1) (h2 : zR x2) : TI (d + 5) 207 [.inr 100, .inl x1, .inl x2] Z (QD Z a (geith (gout x1 0 20) (gunk x2 1))) := by
  have m := QS.refl A
  refine w207_0 (D_206 h1 ⟨zR9 gb3, fun c => ⟨zR9 gb3, fun e => absurd e c, fun _ => D_no m wx (ge1 c) (go_n c)⟩, fun c => ?_⟩)
  have c : gout x1 0 20 = 0 := by omega
  have c1 := gout_0.mp c
  refine R_isIn h2 (by decide) (by decide) (fun i => ⟨by decide, fun _ => ⟨zR9 gb3, fun _ => D_205 m wx vx (by omega) fun Z2 l hf => ?_, fun e => absurd c e⟩, fun e => absurd (show (1 : Int) ≠ 0 by decide) e⟩) (fun i => ⟨by decide, fun e => absurd rfl e, fun _ => D_no m wx (by rw [ge0 c, gu2 i]) (by decide)⟩)
  have ok : ∀ r, QD Z a (geith (gout x1 0 20) (gunk x2 1)) r Z2 := fun r => D_ok l (by rw [ge0 c]; exact gunk_0.mpr i)
  exact ⟨h2, fun _ => ⟨by omega, ok _⟩, fun _ => ⟨by omega, ok _⟩⟩
theorem D_passes {x1 x2 : Int} {Q : zM → Prop} (m : QK Z Z1 a 999) (wx : WX a) (h1 : 0 ≤ x1 ∧ x1 ≤ 99) (h2 : -1 ≤ x2 ∧ x2 < a.1.2.1) (hQ : ∀ Z2, QK Z Z2 a 1100 → same Z1 Z2 → Q Z2) : TV (d + 4) 189 [.inr 100, .inl x1, .inl x2] Z1 Q := by
  refine w189_0 ?_
  suffices H : ∀ (f : Nat) (x3 : Int) (Z2 : zM), x1 - x3 < f → 0 ≤ x3 → x3 ≤ x1 → QK Z Z2 a (999 + x3) → same Z1 Z2 → TZ (d + 4) 189 2 [some (.inr 100), some (.inl x1), some (.inl x2), some (.inl x3)] [] Z2 (zrv Q) from H (x1 + 1).toNat 0 Z1 (by omega) (by omega) (by omega) (m.le (by omega)) (same.refl _)
  intro f
  induction f with
  | zero => intro x3 Z2 y1 y2 y3 m1 s; omega
  | succ f ih => intro x3 Z2 y1 y2 y3 m1 s; exact w189_2 ⟨by unfold zR; omega, by unfold zR; omega, fun _ => hQ Z2 (m1.le (by omega)) s, fun _ => D_pass m1 wx h2 (by omega) fun r Z3 _ m3 s3 => ih _ Z3 (by omega) (by omega) (by omega) (m3.le (by omega)) (s.trans s3)⟩
theorem U_where {x1 x2 : Int} (A : RX Z a) (wx : WX a) (vx : VX a) (h1 : zR x1) (h2 : zR x2) : TI (d + 5) 208 [.inr 100, .inl x1, .inl x2] Z (QD Z a (geith (gin a.1.1 x1) (gout x2 0 20))) := by
  have m := QS.refl A
  have hn : 0 ≤ a.1.1 ∧ a.1.1 ≤ 8 := wx.1.1.1
  have hW : 5 ≤ a.1.2.1 ∧ a.1.2.1 ≤ 6 := wx.1.1.2.1
  refine w208_0 (R_isBird m.now.1 (by unfold zR; omega) h1 (fun i => ⟨by decide, fun _ => D_206 h2 ⟨zR9 gb3, fun c => ?_, fun c => D_no m wx (by rw [ge0 (gin_0.mpr i)]) (go_n c)⟩, fun e => absurd (show (1 : Int) ≠ 0 by decide) e⟩) (fun i => ⟨by decide, fun e => absurd rfl e, fun _ => D_no m wx (by rw [gi1 i]; rfl) (by decide)⟩))
  have c1 := gout_0.mp c
  exact D_thinks m wx vx fun Z2 k _ => D_passes k wx (by omega) (by omega) fun Z3 k3 _ => ⟨by omega, D_forgets k3 wx fun Z4 l _ => D_ok l (by rw [ge0 (gin_0.mpr i)]; exact c)⟩
theorem U_firstWrong (A : RX Z a) (wx : WX a) (vx : VX a) : TI (d + 5) 209 [.inr 100] Z (QD Z a 0) := by
  refine w209_0 (D_205 (QS.refl A) wx vx (by decide) fun Z2 l hf => ?_)
  suffices H : ∀ (f : Nat) (x1 : Int), 21 - x1 < f → 0 ≤ x1 → x1 ≤ 21 → TZ (d + 5) 209 8 [some (.inr 100), some (.inl x1)] [] Z2 (zri (QD Z a 0)) from H 22 0 (by decide) (by decide) (by decide)
  intro f
  induction f with
  | zero => intro x1 y1 y2 y3; omega
  | succ f ih =>
    intro x1 y1 y2 y3
    exact w209_8 ⟨by unfold zR; omega, fun _ => D_ok l rfl, fun _ => ⟨by omega, by have := (hf x1 y2 (by omega)).2.1; unfold zR; omega, fun _ => ih _ (by omega) (by omega) (by omega), fun _ => D_ok l rfl⟩⟩
theorem D_210 {x1 : Int} {Q : Int → zM → Prop} (m : QS Z Z1 a) (wx : WX a) (vx : VX a) (h1 : 0 ≤ x1 ∧ x1 ≤ 50) (hQ : ∀ r Z2, 0 ≤ r → r ≤ 300 → QS Z Z2 a → Q r Z2) : TI (d + 5) 210 [.inr 100, .inl x1] Z1 Q := by
  refine w210_0 (D_205 m wx vx h1 fun Z2 l hf => ?_)
  suffices H : ∀ (f : Nat) (x2 x3 : Int), x1 + 1 - x3 < f → 1 ≤ x3 → x3 ≤ x1 + 1 → 0 ≤ x2 → x2 ≤ 6 * (x3 - 1) → TZ (d + 5) 210 9 [some (.inr 100), some (.inl x1), some (.inl x2), some (.inl x3)] [] Z2 (zri Q) from H (x1 + 1).toNat 0 1 (by omega) (by decide) (by omega) (by decide) (by decide)
  intro f
  induction f with
  | zero => intro x2 x3 y1 y2 y3 y4 y5; omega
  | succ f ih =>
    intro x2 x3 y1 y2 y3 y4 y5
    refine w210_9 ⟨by unfold zR; omega, by unfold zR; omega, fun _ => hQ _ Z2 y4 (by omega) l, fun _ => ⟨by omega, ?_⟩⟩
    have h := (hf x3 (by omega) (by omega)).2.1
    exact ih _ _ (by omega) (by omega) (by omega) (by omega) (by omega)
theorem U_allWrong {x1 : Int} (A : RX Z a) (wx : WX a) (vx : VX a) (h1 : zR x1) : TI (d + 6) 211 [.inr 100, .inl x1] Z (QD Z a (gout x1 0 20)) := by
  refine w211_0 (D_206 h1 ⟨zR9 gb3, fun c => ?_, fun c => D_no (QS.refl A) wx rfl (go_n c)⟩)
  have c1 := gout_0.mp c
  exact D_210 (QS.refl A) wx vx (by omega) fun r Z2 _ _ l => D_ok l c
end
