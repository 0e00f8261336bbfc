/-! THE REFERENCE's whole state; its calls that change it -/
def BF (Z : zM) (w : Int) (s : gS) : Prop := Z 110 (35 * w + 30) = s.1 ∧ Z 110 (35 * w + 31) = s.2.1 ∧ Z 110 (35 * w + 32) = s.2.2.1 ∧ (∀ b, 0 ≤ b → b < s.1 → Z 110 (35 * w + 6 + b) = s.2.2.2.1 b ∧ Z 110 (35 * w + 14 + b) = s.2.2.2.2.1 b ∧ Z 110 (35 * w + 22 + b) = s.2.2.2.2.2.1 b) ∧ ∀ v, 0 ≤ v → v < 6 → Z 110 (35 * w + v) = s.2.2.2.2.2.2 v
def RFs (Z : zM) (s : gS) : Prop := RF Z s.1 s.2.1 s.2.2.1 s.2.2.2.1 s.2.2.2.2.1 s.2.2.2.2.2.1 s.2.2.2.2.2.2
def RT (Z : zM) (L : Int) (t : Int → Int) : Prop := Z 100 12 = L ∧ (0 ≤ L ∧ L ≤ 96) ∧ ∀ p, 0 ≤ p → p < L → Z 106 p = t p ∧ 0 ≤ t p ∧ t p ≤ 255
def RR (Z : zM) (rl : Int) (r : Int → Int) : Prop := Z 100 26 = rl ∧ (0 ≤ rl ∧ rl ≤ 12) ∧ ∀ j, 0 ≤ j → j < rl → Z 116 j = r j ∧ 0 ≤ r j ∧ r j ≤ 99
def RB (Z : zM) (rf : Int → Int) : Prop := ∀ j, 1 ≤ j → j ≤ 6 → Z 101 j = rf j
def RP (Z : zM) (s : gS) (kept : Int) (PA : Int → Int → Int) (HA : Int → Int) : Prop := Z 100 19 = kept ∧ (0 ≤ kept ∧ kept ≤ 8) ∧ ∀ j, 0 ≤ j → j < kept → BF Z (3 + j) (gat s (PA j) (HA j))
def RI (Z : zM) (im : Int) (si : gS) : Prop := Z 100 16 = im ∧ (im = 0 ∨ im = 1) ∧ (im = 1 → BF Z 0 si)
def RY (Z : zM) (a : gX) : Prop := RP Z a.1 a.2.1.1 a.2.1.2.1 a.2.1.2.2 ∧ RI Z a.2.2.1.1 a.2.2.1.2 ∧ RT Z a.2.2.2.1.1 a.2.2.2.1.2 ∧ RR Z a.2.2.2.2.1.1 a.2.2.2.2.1.2 ∧ RB Z a.2.2.2.2.2
def RX (Z : zM) (a : gX) : Prop := RFs Z a.1 ∧ RY Z a
/-- no wire has more than four: now, in the past, in the image -/
def VX (a : gX) : Prop := W4 a.1.1 a.1.2.2.2.2.2.1 ∧ (∀ j, 0 ≤ j → j < a.2.1.1 → W4 a.1.1 (a.2.1.2.1 j)) ∧ (a.2.2.1.1 = 1 → W4 a.2.2.1.2.1 a.2.2.1.2.2.2.2.2.2.1)
/-- in mind: now is kept in the second block -/
def RK (Z : zM) (a : gX) (s : gS) : Prop := RFs Z s ∧ BF Z 2 a.1 ∧ RY Z a
def PostR (Z : zM) (o : Int × gX) (r : Int) (Z' : zM) : Prop := r = o.1 ∧ RX Z' o.2 ∧ ∀ q, q < 100 → Z' q = Z q
/-- what of the reference is no scratch -/
def SY (q : Nat) (p : Int) : Prop := q = 101 ∨ q = 106 ∨ q = 116 ∨ (q = 110 ∧ (p < 35 ∨ 105 ≤ p)) ∨ (q = 100 ∧ (p = 12 ∨ p = 16 ∨ p = 19 ∨ p = 26))
theorem BF.keep {Z Z' : zM} {w : Int} {s : gS} (hn : s.1 ≤ 8) (A : BF Z w s) (h : ∀ p, 35 * w ≤ p → p < 35 * w + 33 → Z' 110 p = Z 110 p) : BF Z' w s := by
  obtain ⟨a1, a2, a3, a4, a5⟩ := A
  refine ⟨by rw [h _ (by omega) (by omega)]; exact a1, by rw [h _ (by omega) (by omega)]; exact a2, by rw [h _ (by omega) (by omega)]; exact a3, fun b h1 h2 => ?_, fun v h1 h2 => by rw [h _ (by omega) (by omega)]; exact a5 v h1 h2⟩
  rw [h _ (by omega) (by omega), h _ (by omega) (by omega), h _ (by omega) (by omega)]
  exact a4 b h1 h2
theorem RT.keep {Z Z' : zM} {L : Int} {t : Int → Int} (A : RT Z L t) (h1 : Z' 100 12 = Z 100 12) (h2 : Z' 106 = Z 106) : RT Z' L t := by unfold RT; rw [h1, h2]; exact A
theorem RR.keep {Z Z' : zM} {L : Int} {t : Int → Int} (A : RR Z L t) (h1 : Z' 100 26 = Z 100 26) (h2 : Z' 116 = Z 116) : RR Z' L t := by unfold RR; rw [h1, h2]; exact A
theorem RB.keep {Z Z' : zM} {rf : Int → Int} (A : RB Z rf) (h1 : Z' 101 = Z 101) : RB Z' rf := by unfold RB; rw [h1]; exact A
theorem RP.keep {Z Z' : zM} {s : gS} {kept : Int} {PA : Int → Int → Int} {HA : Int → Int} (hn : s.1 ≤ 8) (A : RP Z s kept PA HA) (h1 : Z' 100 19 = Z 100 19) (h2 : ∀ p, 105 ≤ p → Z' 110 p = Z 110 p) : RP Z' s kept PA HA :=
  ⟨by rw [h1]; exact A.1, A.2.1, fun j x y => BF.keep hn (A.2.2 j x y) fun p hp _ => h2 p (by omega)⟩
theorem RI.keep {Z Z' : zM} {im : Int} {si : gS} (hn : im = 1 → si.1 ≤ 8) (A : RI Z im si) (h1 : Z' 100 16 = Z 100 16) (h2 : ∀ p, p < 35 → Z' 110 p = Z 110 p) : RI Z' im si :=
  ⟨by rw [h1]; exact A.1, A.2.1, fun e => BF.keep (hn e) (A.2.2 e) fun p _ hp => h2 p (by omega)⟩
theorem fcell {Z Z' : zM} {q : Nat} {S : Nat → Int → Prop} (h : ∀ q p, S q p → Z' q p = Z q p) (hq : ∀ p, S q p) : Z' q = Z q := funext fun p => h q p (hq p)
theorem RY.keep {Z Z' : zM} {a : gX} (wx : WX a) (A : RY Z a) (h : ∀ q p, SY q p → Z' q p = Z q p) : RY Z' a := by
  obtain ⟨a1, a2, a3, a4, a5⟩ := A
  have hn : a.1.1 ≤ 8 := wx.1.1.1.2
  exact ⟨RP.keep hn a1 (h _ _ (by unfold SY; simp)) fun p hp => h _ _ (by unfold SY; omega), RI.keep (fun e => (wx.2.2 e).1.1.2) a2 (h _ _ (by unfold SY; simp)) fun p hp => h _ _ (by unfold SY; omega), RT.keep a3 (h _ _ (by unfold SY; simp)) (fcell h fun p => by unfold SY; simp), RR.keep a4 (h _ _ (by unfold SY; simp)) (fcell h fun p => by unfold SY; simp), RB.keep a5 (fcell h fun p => by unfold SY; simp)⟩
theorem savd.bf {Z Z' : zM} {w : Int} {s : gS} (hn : s.1 ≤ 8) (A : RFs Z s) (h : savd Z Z' w) : BF Z' w s ∧ RFs Z' s := by
  obtain ⟨e5, e6, e7, eb, ew⟩ := A
  obtain ⟨s1, s2, s3, s4, s5, s6⟩ := h
  refine ⟨⟨by rw [s3.1]; exact e5, by rw [s3.2.1]; exact e6, by rw [s3.2.2]; exact e7, fun b h1 h2 => ?_, fun v h1 h2 => by rw [s1 v h1 h2]; exact ew v h1 h2⟩, RF.keep ⟨e5, e6, e7, eb, ew⟩ (s6 102 (by decide) (by decide)) (s6 103 (by decide) (by decide)) (s6 104 (by decide) (by decide)) (s6 105 (by decide) (by decide)) (s5 5 (by decide) (by decide)) (s5 6 (by decide) (by decide)) (s5 7 (by decide) (by decide))⟩
  obtain ⟨t1, t2, t3⟩ := s2 b h1 (by omega)
  rw [t1, t2, t3]
  exact eb b h1 h2
theorem lodd.rf {Z Z' : zM} {w : Int} {s : gS} (hn : s.1 ≤ 8) (A : BF Z w s) (h : lodd Z Z' w) : RFs Z' s := by
  obtain ⟨b1, b2, b3, b4, b5⟩ := A
  obtain ⟨s1, s2, s3, s4, s5, s6⟩ := h
  refine ⟨by rw [s3.1]; exact b1, by rw [s3.2.1]; exact b2, by rw [s3.2.2]; exact b3, fun b h1 h2 => ?_, fun v h1 h2 => by rw [s1 v h1 h2]; exact b5 v h1 h2⟩
  obtain ⟨t1, t2, t3⟩ := s2 b h1 (by omega)
  rw [t1, t2, t3]
  exact b4 b h1 h2
/-- what thinking and forgetting change -/
def ST (q : Nat) (p : Int) : Prop := (q = 110 ∧ 70 ≤ p ∧ p < 105) ∨ (q = 100 ∧ (p = 5 ∨ p = 6 ∨ p = 7 ∨ p = 17 ∨ p = 18)) ∨ (102 ≤ q ∧ q ≤ 105)
theorem ST_SY {q : Nat} {p : Int} (h : SY q p) : ¬ ST q p := by unfold SY at h; unfold ST; omega
theorem savd.fr {Z Z' : zM} (h : savd Z Z' 2) : fR ST Z Z' := by
  obtain ⟨s1, s2, s3, s4, s5, s6⟩ := h
  intro q p hp
  unfold ST at hp
  by_cases e : q = 100
  · subst e; exact s5 p (by omega) (by omega)
  · by_cases e2 : q = 110
    · subst e2; exact s4 p (by omega)
    · rw [s6 q e e2]
theorem lodd.fr {Z Z' : zM} {w : Int} (h : lodd Z Z' w) : fR ST Z Z' := by
  obtain ⟨s1, s2, s3, s4, s5, s6⟩ := h
  intro q p hp
  unfold ST at hp
  by_cases e : q = 100
  · subst e; exact s5 p (by omega) (by omega) (by omega) (by omega) (by omega)
  · by_cases e2 : q = 110
    · subst e2; rw [s4]
    · rw [s6 q e (by omega)]
section
variable {d : Nat} {Z : zM} {a : gX}
theorem R_thinks {Q : zM → Prop} (A : RX Z a) (wx : WX a) (hQ : ∀ Z', RK Z' a a.1 → fR ST Z Z' → Q Z') : TV (d + 2) 179 [.inr 100] Z Q := by
  refine w179_0 (R_save (by decide) fun Z' s => hQ Z' ?_ s.fr)
  obtain ⟨b1, b2⟩ := savd.bf wx.1.1.1.2 A.1 s
  exact ⟨b2, b1, A.2.keep wx fun q p h => s.fr q p (ST_SY h)⟩
theorem R_forgets {s : gS} {Q : zM → Prop} (A : RK Z a s) (wx : WX a) (hQ : ∀ Z', RX Z' a → fR ST Z Z' → Q Z') : TV (d + 2) 180 [.inr 100] Z Q := by
  refine w180_0 (R_load (by decide) fun Z' l => hQ Z' ?_ l.fr)
  exact ⟨lodd.rf wx.1.1.1.2 A.2.1 l, A.2.2.keep wx fun q p h => l.fr q p (ST_SY h)⟩
/-- a step in mind -/
theorem RK.step {Z' : zM} {s s' : gS} (A : RK Z a s) (wx : WX a) (B : RFs Z' s') (f : fR SH Z Z') : RK Z' a s' := by
  refine ⟨B, BF.keep wx.1.1.1.2 A.2.1 fun p _ _ => f _ _ (by unfold SH; omega), A.2.2.keep wx fun q p h => f q p ?_⟩
  unfold SY at h; unfold SH; omega
theorem RK.step2 {Z' : zM} {s s' : gS} (A : RK Z a s) (wx : WX a) (B : RFs Z' s') (f : fR SP Z Z') : RK Z' a s' := A.step wx B (f.mono fun _ _ h => Or.inl h)
theorem RK.scr {Z' : zM} {s : gS} {S : Nat → Int → Prop} (A : RK Z a s) (wx : WX a) (f : fR S Z Z') (hS : ∀ q p, S q p → (107 ≤ q ∧ q ≤ 109) ∨ (111 ≤ q ∧ q ≤ 115) ∨ 117 ≤ q ∨ (q = 100 ∧ (p = 13 ∨ p = 14))) : RK Z' a s := by
  have F : ∀ q p, ¬ ((107 ≤ q ∧ q ≤ 109) ∨ (111 ≤ q ∧ q ≤ 115) ∨ 117 ≤ q ∨ (q = 100 ∧ (p = 13 ∨ p = 14))) → Z' q p = Z q p := fun q p h => f q p fun x => h (hS q p x)
  have C : ∀ q : Nat, 102 ≤ q → q ≤ 105 → Z' q = Z q := fun q h1 h2 => funext fun p => F q p (by omega)
  refine ⟨RF.keep A.1 (C 102 (by decide) (by decide)) (C 103 (by decide) (by decide)) (C 104 (by decide) (by decide)) (C 105 (by decide) (by decide)) (F _ _ (by omega)) (F _ _ (by omega)) (F _ _ (by omega)), BF.keep wx.1.1.1.2 A.2.1 fun p _ _ => F _ _ (by omega), A.2.2.keep wx fun q p h => F q p (by unfold SY at h; omega)⟩
theorem RX.scr {Z' : zM} {S : Nat → Int → Prop} (A : RX Z a) (wx : WX a) (f : fR S Z Z') (hS : ∀ q p, S q p → q < 100 ∨ (107 ≤ q ∧ q ≤ 109) ∨ (111 ≤ q ∧ q ≤ 115) ∨ 117 ≤ q ∨ (q = 100 ∧ (p = 13 ∨ p = 14 ∨ p = 17 ∨ p = 18)) ∨ (q = 110 ∧ 70 ≤ p ∧ p < 105)) : RX Z' a := by
  have F : ∀ q p, ¬ (q < 100 ∨ (107 ≤ q ∧ q ≤ 109) ∨ (111 ≤ q ∧ q ≤ 115) ∨ 117 ≤ q ∨ (q = 100 ∧ (p = 13 ∨ p = 14 ∨ p = 17 ∨ p = 18)) ∨ (q = 110 ∧ 70 ≤ p ∧ p < 105)) → Z' q p = Z q p := fun q p h => f q p fun x => h (hS q p x)
  have C : ∀ q : Nat, 102 ≤ q → q ≤ 105 → Z' q = Z q := fun q h1 h2 => funext fun p => F q p (by omega)
  exact ⟨RF.keep A.1 (C 102 (by decide) (by decide)) (C 103 (by decide) (by decide)) (C 104 (by decide) (by decide)) (C 105 (by decide) (by decide)) (F _ _ (by omega)) (F _ _ (by omega)) (F _ _ (by omega)), A.2.keep wx fun q p h => F q p (by unfold SY at h; omega)⟩
def zbr (Z : zM) (c : Int) : zM := zup Z 101 (-c) (Z 101 (-c) + 1)
theorem R_no {c : Int} {Q : Int → zM → Prop} (hc : -6 ≤ c ∧ c ≤ -1) (hQ : Q c (zbr Z c)) : TI d 154 [.inr 100, .inl c] Z Q :=
  w154_0 ⟨by omega, by omega, fun Z1 z1 => by subst z1; exact hQ⟩
theorem RX.bmp {c : Int} (A : RX Z a) (wx : WX a) (hc : -6 ≤ c ∧ c ≤ -1) : RX (zbr Z c) (bmp a c) := by
  have F : ∀ q, q ≠ 101 → zbr Z c q = Z q := fun q h => funext fun p => zup_cell _ _ _ _ h
  obtain ⟨a0, a1, a2, a3, a4, a5⟩ := A
  refine ⟨RF.keep a0 (F _ (by decide)) (F _ (by decide)) (F _ (by decide)) (F _ (by decide)) (by rw [F _ (by decide)]) (by rw [F _ (by decide)]) (by rw [F _ (by decide)]), RP.keep wx.1.1.1.2 a1 (by rw [F _ (by decide)]) (fun p _ => by rw [F _ (by decide)]), RI.keep (fun e => (wx.2.2 e).1.1.2) a2 (by rw [F _ (by decide)]) (fun p _ => by rw [F _ (by decide)]), RT.keep a3 (by rw [F _ (by decide)]) (F _ (by decide)), RR.keep a4 (by rw [F _ (by decide)]) (F _ (by decide)), fun j h1 h2 => ?_⟩
  show zup Z 101 (-c) (Z 101 (-c) + 1) 101 j = gup a.2.2.2.2.2 (-c) (a.2.2.2.2.2 (-c) + 1) j
  unfold zup gup
  rw [if_pos rfl]
  by_cases e : j = -c
  · rw [if_pos e, if_pos e, a5 _ (by omega) (by omega)]
  · rw [if_neg e, if_neg e]; exact a5 j h1 h2
theorem RRc {c' c v : Int} {a' : gX} (A : RX Z a) (wx : WX a) (e : c' = c) (hc : -6 ≤ c ∧ c ≤ -1) : PostR Z (ores a c' v a') c (zbr Z c) := by
  subst e
  unfold ores
  rw [if_neg (by omega)]
  exact ⟨rfl, A.bmp wx hc, fun q hq => funext fun p => zup_cell _ _ _ _ (by omega)⟩
theorem RM {Z' : zM} {a' : gX} {c v : Int} (hc : c = 0) (A : RX Z' a') (f : ∀ q, q < 100 → Z' q = Z q) : PostR Z (ores a c v a') v Z' := by
  unfold ores
  rw [if_pos hc]
  exact ⟨rfl, A, f⟩
theorem J_feed {x : Int} (A : RX Z a) (wx : WX a) (hx : zR x) : TI (d + 2) 163 [.inr 100, .inl x] Z (PostR Z (oFeed a x)) := by
  obtain ⟨a0, a1, a2, a3, a4, a5⟩ := id A
  obtain ⟨b1, b2, b3⟩ := id a3
  have g := gb3 (x := x) (lo := 0) (hi := 255)
  refine w163_0 (R_bound hx (by decide) (by decide) ⟨zR9 g, fun c => ⟨zR9 g, fun c2 => absurd c2 c, fun _ => R_no (by omega) (RRc A wx (by unfold cfeed; rw [if_neg c]) (by omega))⟩, fun c => ?_⟩)
  have c : gout x 0 255 = 0 := by omega
  rw [b1]
  refine ⟨by unfold zR; omega, fun c2 => ⟨zR9 g, fun _ => ⟨by omega, fun Z1 z1 Z2 z2 => ?_⟩, fun c3 => absurd c c3⟩, fun c2 => R_no (by decide) (RRc A wx (by unfold cfeed; rw [if_pos c, if_neg (by omega)]) (by decide))⟩
  have f1 : Z2 100 12 = a.2.2.2.1.1 + 1 := by subst z2; subst z1; rw [zup_same, zup_cell _ _ _ _ (by decide), b1]
  have F : ∀ q p, ¬ (q = 106 ∨ (q = 100 ∧ p = 12)) → Z2 q p = Z q p := fun q p h => by
    subst z2; subst z1
    by_cases e : q = 100
    · subst e; rw [zup_place _ _ _ _ (by omega), zup_cell _ _ _ _ (by decide)]
    · rw [zup_cell _ _ _ _ e, zup_cell _ _ _ _ (by omega)]
  have C : ∀ q : Nat, q ≠ 106 → q ≠ 100 → Z2 q = Z q := fun q h1 h2 => funext fun p => F q p (by omega)
  rw [f1]
  refine RM (by unfold cfeed; rw [if_pos c, if_pos (by omega)]) ⟨RF.keep a0 (C _ (by decide) (by decide)) (C _ (by decide) (by decide)) (C _ (by decide) (by decide)) (C _ (by decide) (by decide)) (F _ _ (by omega)) (F _ _ (by omega)) (F _ _ (by omega)), RP.keep wx.1.1.1.2 a1 (F _ _ (by omega)) (fun p _ => F _ _ (by omega)), RI.keep (fun e => (wx.2.2 e).1.1.2) a2 (F _ _ (by omega)) (fun p _ => F _ _ (by omega)), ⟨f1, by dsimp only; omega, fun p h1 h2 => ?_⟩, RR.keep a4 (F _ _ (by omega)) (C _ (by decide) (by decide)), RB.keep a5 (C _ (by decide) (by decide))⟩ fun q hq => C q (by omega) (by omega)
  have h2 : p < a.2.2.2.1.1 + 1 := h2
  have c := gout_0.mp c
  show Z2 106 p = gup a.2.2.2.1.2 a.2.2.2.1.1 x p ∧ 0 ≤ gup a.2.2.2.1.2 a.2.2.2.1.1 x p ∧ gup a.2.2.2.1.2 a.2.2.2.1.1 x p ≤ 255
  subst z2; subst z1
  rw [zup_cell _ _ _ _ (by decide)]
  by_cases e : p = a.2.2.2.1.1
  · rw [e, zup_same, gup_same]; exact ⟨rfl, c⟩
  · rw [zup_place _ _ _ _ e, gup_ne _ _ e]; exact b3 p h1 (by omega)
theorem J_row {x : Int} (A : RX Z a) (wx : WX a) (hx : zR x) : TI (d + 2) 269 [.inr 100, .inl x] Z (PostR Z (oRow a x)) := by
  obtain ⟨a0, a1, a2, a3, a4, a5⟩ := id A
  obtain ⟨b1, b2, b3⟩ := id a4
  have g := gb3 (x := x) (lo := 0) (hi := 99)
  refine w269_0 (R_bound hx (by decide) (by decide) ⟨zR9 g, fun c => ⟨zR9 g, fun c2 => absurd c2 c, fun _ => R_no (by omega) (RRc A wx (by unfold crow; rw [if_neg c]) (by omega))⟩, fun c => ?_⟩)
  have c : gout x 0 99 = 0 := by omega
  rw [b1]
  refine ⟨by unfold zR; omega, fun c2 => ⟨zR9 g, fun _ => ⟨by omega, fun Z1 z1 Z2 z2 => ?_⟩, fun c3 => absurd c c3⟩, fun c2 => R_no (by decide) (RRc A wx (by unfold crow; rw [if_pos c, if_neg (by omega)]) (by decide))⟩
  have f1 : Z2 100 26 = a.2.2.2.2.1.1 + 1 := by subst z2; subst z1; rw [zup_same, zup_cell _ _ _ _ (by decide), b1]
  have F : ∀ q p, ¬ (q = 116 ∨ (q = 100 ∧ p = 26)) → Z2 q p = Z q p := fun q p h => by
    subst z2; subst z1
    by_cases e : q = 100
    · subst e; rw [zup_place _ _ _ _ (by omega), zup_cell _ _ _ _ (by decide)]
    · rw [zup_cell _ _ _ _ e, zup_cell _ _ _ _ (by omega)]
  have C : ∀ q : Nat, q ≠ 116 → q ≠ 100 → Z2 q = Z q := fun q h1 h2 => funext fun p => F q p (by omega)
  rw [f1]
  refine RM (by unfold crow; rw [if_pos c, if_pos (by omega)]) ⟨RF.keep a0 (C _ (by decide) (by decide)) (C _ (by decide) (by decide)) (C _ (by decide) (by decide)) (C _ (by decide) (by decide)) (F _ _ (by omega)) (F _ _ (by omega)) (F _ _ (by omega)), RP.keep wx.1.1.1.2 a1 (F _ _ (by omega)) (fun p _ => F _ _ (by omega)), RI.keep (fun e => (wx.2.2 e).1.1.2) a2 (F _ _ (by omega)) (fun p _ => F _ _ (by omega)), RT.keep a3 (F _ _ (by omega)) (C _ (by decide) (by decide)), ⟨f1, by dsimp only; omega, fun p h1 h2 => ?_⟩, RB.keep a5 (C _ (by decide) (by decide))⟩ fun q hq => C q (by omega) (by omega)
  have h2 : p < a.2.2.2.2.1.1 + 1 := h2
  have c := gout_0.mp c
  show Z2 116 p = gup a.2.2.2.2.1.2 a.2.2.2.2.1.1 x p ∧ 0 ≤ gup a.2.2.2.2.1.2 a.2.2.2.2.1.1 x p ∧ gup a.2.2.2.2.1.2 a.2.2.2.2.1.1 x p ≤ 99
  subst z2; subst z1
  rw [zup_cell _ _ _ _ (by decide)]
  by_cases e : p = a.2.2.2.2.1.1
  · rw [e, zup_same, gup_same]; exact ⟨rfl, c⟩
  · rw [zup_place _ _ _ _ e, gup_ne _ _ e]; exact b3 p h1 (by omega)
theorem RY26 (A : RX Z a) (wx : WX a) : RX (zup Z 100 26 0) (a.1, a.2.1, a.2.2.1, a.2.2.2.1, (0, a.2.2.2.2.1.2), a.2.2.2.2.2) := by
  obtain ⟨a0, a1, a2, a3, a4, a5⟩ := A
  have F : ∀ p, p ≠ 26 → zup Z 100 26 0 100 p = Z 100 p := fun p h => zup_place _ _ _ _ h
  have C : ∀ q : Nat, q ≠ 100 → zup Z 100 26 0 q = Z q := fun q h => funext fun p => zup_cell _ _ _ _ h
  exact ⟨RF.keep a0 (C _ (by decide)) (C _ (by decide)) (C _ (by decide)) (C _ (by decide)) (F _ (by decide)) (F _ (by decide)) (F _ (by decide)), RP.keep wx.1.1.1.2 a1 (F _ (by decide)) (fun p _ => by rw [C _ (by decide)]), RI.keep (fun e => (wx.2.2 e).1.1.2) a2 (F _ (by decide)) (fun p _ => by rw [C _ (by decide)]), RT.keep a3 (F _ (by decide)) (C _ (by decide)), ⟨zup_same _ _ _ _, show (0 : Int) ≤ 0 ∧ (0 : Int) ≤ 12 by decide, fun j h1 h2 => absurd h2 (by show ¬ j < 0; omega)⟩, RB.keep a5 (C _ (by decide))⟩
theorem J_clear (A : RX Z a) (wx : WX a) : TI (d + 1) 271 [.inr 100] Z (PostR Z (oClear a)) := by
  have b1 : Z 100 26 = a.2.2.2.2.1.1 := A.2.2.2.2.1.1
  refine w271_0 fun Z1 z1 => ?_
  rw [b1]
  subst z1
  exact ⟨rfl, RY26 A wx, fun q hq => funext fun p => zup_cell _ _ _ _ (by omega)⟩
theorem RY12 (A : RX Z a) (wx : WX a) : RX (zup Z 100 12 0) (a.1, a.2.1, a.2.2.1, (0, a.2.2.2.1.2), a.2.2.2.2) := by
  obtain ⟨a0, a1, a2, a3, a4, a5⟩ := A
  have F : ∀ p, p ≠ 12 → zup Z 100 12 0 100 p = Z 100 p := fun p h => zup_place _ _ _ _ h
  have C : ∀ q : Nat, q ≠ 100 → zup Z 100 12 0 q = Z q := fun q h => funext fun p => zup_cell _ _ _ _ h
  exact ⟨RF.keep a0 (C _ (by decide)) (C _ (by decide)) (C _ (by decide)) (C _ (by decide)) (F _ (by decide)) (F _ (by decide)) (F _ (by decide)), RP.keep wx.1.1.1.2 a1 (F _ (by decide)) (fun p _ => by rw [C _ (by decide)]), RI.keep (fun e => (wx.2.2 e).1.1.2) a2 (F _ (by decide)) (fun p _ => by rw [C _ (by decide)]), ⟨zup_same _ _ _ _, show (0 : Int) ≤ 0 ∧ (0 : Int) ≤ 96 by decide, fun j h1 h2 => absurd h2 (by show ¬ j < 0; omega)⟩, RR.keep a4 (F _ (by decide)) (C _ (by decide)), RB.keep a5 (C _ (by decide))⟩
/-- the past is forgotten -/
theorem RY19 {s' : gS} {p : (Int → Int → Int) × (Int → Int)} (A : RFs Z s') (B : RY Z a) (hn : a.2.2.1.1 = 1 → a.2.2.1.2.1 ≤ 8) : RX (zup Z 100 19 0) (s', (0, p), a.2.2) := by
  obtain ⟨a1, a2, a3, a4, a5⟩ := B
  have F : ∀ p, p ≠ 19 → zup Z 100 19 0 100 p = Z 100 p := fun p h => zup_place _ _ _ _ h
  have C : ∀ q : Nat, q ≠ 100 → zup Z 100 19 0 q = Z q := fun q h => funext fun p => zup_cell _ _ _ _ h
  exact ⟨RF.keep A (C _ (by decide)) (C _ (by decide)) (C _ (by decide)) (C _ (by decide)) (F _ (by decide)) (F _ (by decide)) (F _ (by decide)), ⟨zup_same _ _ _ _, show (0 : Int) ≤ 0 ∧ (0 : Int) ≤ 8 by decide, fun j h1 h2 => absurd h2 (by show ¬ j < 0; omega)⟩, RI.keep hn a2 (F _ (by decide)) (fun p _ => by rw [C _ (by decide)]), RT.keep a3 (F _ (by decide)) (C _ (by decide)), RR.keep a4 (F _ (by decide)) (C _ (by decide)), RB.keep a5 (C _ (by decide))⟩
end
