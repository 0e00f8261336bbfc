/-! THE WHOLE STATE as a picture; what each call makes of it; the class's calls that change it -/
abbrev gX : Type := gS × (Int × (Int → Int → Int) × (Int → Int)) × (Int × gS) × (Int × (Int → Int)) × (Int × (Int → Int)) × (Int → Int)
def CR (Z : zM) (rl : Int) (r : Int → Int) : Prop := Z 39 3 = rl ∧ (0 ≤ rl ∧ rl ≤ 12) ∧ ∀ j, 0 ≤ j → j < rl → Z 40 j = r j ∧ 0 ≤ r j ∧ r j ≤ 99
def CX (Z : zM) (a : gX) : Prop := CFs 1 Z a.1 ∧ CP Z a.1.1 a.2.1.1 a.2.1.2.1 a.2.1.2.2 ∧ (Z 0 17 = a.2.2.1.1 ∧ (a.2.2.1.1 = 0 ∨ a.2.2.1.1 = 1) ∧ (a.2.2.1.1 = 1 → CFs 7 Z a.2.2.1.2)) ∧ CT Z a.2.2.2.1.1 a.2.2.2.1.2 ∧ CR Z a.2.2.2.2.1.1 a.2.2.2.2.1.2 ∧ ∀ j, 1 ≤ j → j ≤ 6 → Z 43 j = a.2.2.2.2.2 j
def gat (s : gS) (P : Int → Int) (h : Int) : gS := (s.1, s.2.1, h, s.2.2.2.1, s.2.2.2.2.1, P, s.2.2.2.2.2.2)
def WX (a : gX) : Prop := (WFs a.1 ∧ a.1.2.2.1 ≤ 999) ∧ (∀ j, 0 ≤ j → j < a.2.1.1 → WFs (gat a.1 (a.2.1.2.1 j) (a.2.1.2.2 j)) ∧ a.2.1.2.2 j ≤ 999) ∧ (a.2.2.1.1 = 1 → WFs a.2.2.1.2 ∧ a.2.2.1.2.2.2.1 ≤ 999)
def bmp (a : gX) (c : Int) : gX := (a.1, a.2.1, a.2.2.1, a.2.2.2.1, a.2.2.2.2.1, gup a.2.2.2.2.2 (-c) (a.2.2.2.2.2 (-c) + 1))
def ores (a : gX) (c v : Int) (a' : gX) : Int × gX := if c = 0 then (v, a') else (c, bmp a c)
def oq (a : gX) (c v : Int) : Int × gX := ores a c v a
def PostC (Z : zM) (o : Int × gX) (r : Int) (Z' : zM) : Prop := r = o.1 ∧ CX Z' o.2 ∧ ∀ q, 100 ≤ q → Z' q = Z q
def CI (Z : zM) (im : Int) (si : gS) : Prop := Z 0 17 = im ∧ (im = 0 ∨ im = 1) ∧ (im = 1 → CFs 7 Z si)
def CB (Z : zM) (rf : Int → Int) : Prop := ∀ j, 1 ≤ j → j ≤ 6 → Z 43 j = rf j
theorem CP.keep {Z Z' : zM} {n kept : Int} {PA : Int → Int → Int} {HA : Int → Int} (a2 : CP Z n kept PA HA) (f : ∀ q, 26 ≤ q → q ≤ 36 → Z' q = Z q) : CP Z' n kept PA HA := by
  obtain ⟨b1, b2, b3, b4⟩ := a2
  refine ⟨by rw [f 26 (by omega) (by omega)]; exact b1, b2, by rw [f 26 (by omega) (by omega)]; exact b3, fun j h1 h2 => ?_⟩
  have ps : 0 ≤ pslot (Z 26 2) kept j ∧ pslot (Z 26 2) kept j < 8 := by unfold pslot; omega
  rw [f 26 (by omega) (by omega), f 36 (by omega) (by omega), f (28 + (pslot (Z 26 2) kept j).toNat) (by omega) (by omega)]
  exact b4 j h1 h2
theorem CI.keep {Z Z' : zM} {im : Int} {si : gS} (a : CI Z im si) (f : ∀ q, (q = 0 ∨ (7 ≤ q ∧ q ≤ 12)) → Z' q = Z q) : CI Z' im si :=
  ⟨by rw [f 0 (by omega)]; exact a.1, a.2.1, fun e => CF.keep (a.2.2 e) fun q _ _ => f q (by omega)⟩
theorem CR.keep {Z Z' : zM} {rl : Int} {r : Int → Int} (a : CR Z rl r) (h1 : Z' 39 = Z 39) (h2 : Z' 40 = Z 40) : CR Z' rl r := by
  unfold CR; rw [h1, h2]; exact a
theorem CB.keep {Z Z' : zM} {rf : Int → Int} (a : CB Z rf) (h : Z' 43 = Z 43) : CB Z' rf := by
  unfold CB; rw [h]; exact a
theorem CX.frame {Z Z' : zM} {a : gX} (A : CX Z a) (f : ∀ q, (q ≤ 12 ∨ (26 ≤ q ∧ q ≤ 40) ∨ q = 43) → Z' q = Z q) : CX Z' a := by
  obtain ⟨a1, a2, a3, a6, a7, a8⟩ := A
  exact ⟨CF.keep a1 fun q _ _ => f q (by omega), a2.keep fun q _ _ => f q (by omega), CI.keep a3 fun q _ => f q (by omega), CT.keep a6 (f 37 (by omega)) (f 38 (by omega)), CR.keep a7 (f 39 (by omega)) (f 40 (by omega)), CB.keep a8 (f 43 (by omega))⟩
/-- what a look may change -/
def SQ (q : Nat) : Prop := (13 ≤ q ∧ q ≤ 25) ∨ (41 ≤ q ∧ q ≤ 42) ∨ (44 ≤ q ∧ q ≤ 99)
theorem PQ {Z Z' : zM} {a : gX} {c v : Int} (A : CX Z a) (hc : c = 0) (f : frs SQ Z Z') : PostC Z (oq a c v) v Z' := by
  unfold oq ores
  rw [if_pos hc]
  exact ⟨rfl, A.frame fun q hq => f q (by unfold SQ; omega), fun q hq => f q (by unfold SQ; omega)⟩
theorem CX.bmp {Z : zM} {a : gX} {c : Int} (A : CX Z a) (hc : -6 ≤ c ∧ c ≤ -1) : CX (zbp Z c) (bmp a c) := by
  have A0 := A
  obtain ⟨a1, a2, a3, a6, a7, a8⟩ := A
  have F : ∀ q, q ≠ 43 → zbp Z c q = Z q := fun q hq => funext fun p => zup_cell _ _ _ _ hq
  refine ⟨CF.keep a1 fun q _ _ => F q (by omega), a2.keep fun q _ _ => F q (by omega), CI.keep a3 fun q _ => F q (by omega), CT.keep a6 (F 37 (by omega)) (F 38 (by omega)), CR.keep a7 (F 39 (by omega)) (F 40 (by omega)), fun j h1 h2 => ?_⟩
  · show zup Z 43 (-c) (Z 43 (-c) + 1) 43 j = gup a.2.2.2.2.2 (-c) (a.2.2.2.2.2 (-c) + 1) j
    unfold zup gup
    rw [if_pos rfl]
    by_cases e : j = -c
    · rw [if_pos e, if_pos e, a8 _ (by omega) (by omega)]
    · rw [if_neg e, if_neg e]; exact a8 j h1 h2
theorem PR {Z : zM} {a a' : gX} {c v : Int} (A : CX Z a) (hc : ¬ c = 0) (hb : -6 ≤ c ∧ c ≤ 0) : PostC Z (ores a c v a') c (zbp Z c) := by
  unfold ores
  rw [if_neg hc]
  exact ⟨rfl, A.bmp (by omega), fun q hq => funext fun p => zup_cell _ _ _ _ (by omega)⟩
theorem PRq {Z : zM} {a : gX} {c v : Int} (A : CX Z a) (hc : ¬ c = 0) (hb : -6 ≤ c ∧ c ≤ 0) : PostC Z (oq a c v) c (zbp Z c) := PR A hc hb
theorem PM {Z Z' : zM} {a a' : gX} {c v : Int} (hc : c = 0) (A : CX Z' a') (f : ∀ q, 100 ≤ q → Z' q = Z q) : PostC Z (ores a c v a') v Z' := by
  unfold ores
  rw [if_pos hc]
  exact ⟨rfl, A, f⟩
def cfeed (L x : Int) : Int := if gout x 0 255 = 0 then (if L < 96 then 0 else -6) else gout x 0 255
def oFeed (a : gX) (x : Int) : Int × gX := ores a (cfeed a.2.2.2.1.1 x) (a.2.2.2.1.1 + 1) (a.1, a.2.1, a.2.2.1, (a.2.2.2.1.1 + 1, gup a.2.2.2.1.2 a.2.2.2.1.1 x), a.2.2.2.2.1, a.2.2.2.2.2)
def oBird (a : gX) (x1 x2 : Int) : Int × gX := oq a (geith (gin a.1.1 x1) (gunk x2 2)) (if x2 = 0 then a.1.2.2.2.1 x1 else if x2 = 1 then a.1.2.2.2.2.1 x1 else a.1.2.2.2.2.2.1 x1)
def ccomes (s : gS) (x1 x2 x3 : Int) : Int := if geith (gin s.2.1 x3) (geith (gunk x1 5) (gout x2 0 9)) = 0 then (if s.1 < 8 then (if roomb s.2.2.2.2.2.1 s.1 s.2.1 x3 = true then 0 else -3) else -6) else geith (gin s.2.1 x3) (geith (gunk x1 5) (gout x2 0 9))
def oComes (a : gX) (x1 x2 x3 : Int) : Int × gX := ores a (ccomes a.1 x1 x2 x3) a.1.1 (gadd x1 x2 x3 a.1, (0, a.2.1.2), a.2.2)
def oWire (a : gX) (x1 x2 : Int) : Int × gX := oq a (geith (gin a.1.2.1 x1) (gunk x2 1)) (if x2 = 0 then a.1.2.2.2.2.2.2 x1 else cnt a.1.2.2.2.2.2.1 x1 a.1.1.toNat)
def oWeight (a : gX) (x1 x2 : Int) : Int × gX := ores a (geith (gin a.1.2.1 x1) (gout x2 0 11)) (a.1.2.2.2.2.2.2 x1) (gwt x1 x2 a.1, (0, a.2.1.2), a.2.2)
def oSixth (a : gX) (x : Int) : Int × gX := ores a (gunk x 1) (if a.1.2.1 = 6 then 1 else 0) (ghung x a.1, (0, a.2.1.2), a.2.2)
def gkeep (a : gX) : Int × (Int → Int → Int) × (Int → Int) := (gkn a.2.1.1, gkP a.2.1.1 a.2.1.2.1 a.1.2.2.2.2.2.1, gkH a.2.1.1 a.2.1.2.2 a.1.2.2.1)
def cfeeds (s : gS) (x : Int) : Int := if x = -1 ∨ gin s.2.1 x = 0 then (if s.2.2.1 < 999 then 0 else -6) else gin s.2.1 x
def gshows (s : gS) : Int := gshow s.1 s.2.1 s.2.2.2.2.2.1 s.2.2.2.2.2.2
def gerrs (s : gS) : Int := gapart (gshows s) s.2.2.1
def oFeeds (a : gX) (x : Int) : Int × gX := ores a (cfeeds a.1 x) (gshows (gpass x a.1)) (gpass x a.1, gkeep a, a.2.2)
def oCat (a : gX) (x : Int) : Int × gX := ores a (gin a.1.2.1 x) (gC a.1.1 a.1.2.1 a.1.2.2.2.2.2.1 x a.1.1.toNat).2 (gcat x a.1, gkeep a, a.2.2)
def oHawk (a : gX) : Int × gX := ((gH a.1.1 a.1.2.1 a.1.2.2.2.2.2.1 a.1.1.toNat).2, (ghawk a.1, gkeep a, a.2.2))
def oRain (a : gX) : Int × gX := ((gR a.1.1 a.1.2.1 a.1.2.2.2.2.2.1 a.1.1.toNat).2, (grain a.1, gkeep a, a.2.2))
def oBack (a : gX) : Int × gX := ores a (if a.2.1.1 = 0 then -3 else 0) (a.2.1.2.2 (a.2.1.1 - 1)) (gat a.1 (a.2.1.2.1 (a.2.1.1 - 1)) (a.2.1.2.2 (a.2.1.1 - 1)), (a.2.1.1 - 1, a.2.1.2), a.2.2)
def oImage (a : gX) : Int × gX := (a.1.2.2.1, (a.1, a.2.1, (1, a.1), a.2.2.2))
def oRestore (a : gX) : Int × gX := ores a (if a.2.2.1.1 = 0 then -3 else 0) a.2.2.1.2.2.2.1 (a.2.2.1.2, (0, a.2.1.2), a.2.2)
def crow (rl x : Int) : Int := if gout x 0 99 = 0 then (if rl < 12 then 0 else -6) else gout x 0 99
def oRow (a : gX) (x : Int) : Int × gX := ores a (crow a.2.2.2.2.1.1 x) (a.2.2.2.2.1.1 + 1) (a.1, a.2.1, a.2.2.1, a.2.2.2.1, (a.2.2.2.2.1.1 + 1, gup a.2.2.2.2.1.2 a.2.2.2.2.1.1 x), a.2.2.2.2.2)
def oClear (a : gX) : Int × gX := (a.2.2.2.2.1.1, (a.1, a.2.1, a.2.2.1, a.2.2.2.1, (0, a.2.2.2.2.1.2), a.2.2.2.2.2))
def oTown (a : gX) : Int × gX :=
  if 0 ≤ gOdd a.2.2.2.1.1 a.2.2.2.1.2 100 0 then (-1000 - gOdd a.2.2.2.1.1 a.2.2.2.1.2 100 0, (a.1, a.2.1, a.2.2.1, (0, a.2.2.2.1.2), a.2.2.2.2))
  else match gTown a.2.2.2.1.1 a.2.2.2.1.2 100 0 a.1 0 with
    | (c, none) => (c, (a.1, a.2.1, a.2.2.1, (0, a.2.2.2.1.2), a.2.2.2.2))
    | (c, some s') => (c, (s', (0, a.2.1.2), a.2.2.1, (0, a.2.2.2.1.2), a.2.2.2.2))
def gcount (a : gX) (x : Int) : Int := if 11 ≤ x ∧ x ≤ 16 then a.2.2.2.2.2 (x - 10) else if x = 0 then a.1.1 else if x = 1 then a.1.2.1 else if x = 2 then a.1.2.2.1 else if x = 3 then gshows a.1 else if x = 4 then gerrs a.1 else if x = 5 then a.2.2.2.1.1 else if x = 6 then a.2.2.2.2.1.1 else if x = 7 then a.2.1.1 else -9
def oCount (a : gX) (x : Int) : Int × gX := (gcount a x, a)
section
variable {d : Nat} {Z : zM} {a : gX}
theorem zR9 {c : Int} (h : -6 ≤ c ∧ c ≤ 0) : zR c := ⟨by omega, by omega⟩
theorem gb1 {W w : Int} : -6 ≤ gin W w ∧ gin W w ≤ 0 := by rcases gin_b (W := W) (w := w) with h | h <;> omega
theorem gb2 {x m : Int} : -6 ≤ gunk x m ∧ gunk x m ≤ 0 := by rcases gunk_b (x := x) (m := m) with h | h <;> omega
theorem gb3 {x lo hi : Int} : -6 ≤ gout x lo hi ∧ gout x lo hi ≤ 0 := by rcases gout_b (x := x) (lo := lo) (hi := hi) with h | h | h <;> omega
theorem gb4 {x lo : Int} : -6 ≤ gund x lo ∧ gund x lo ≤ 0 := by rcases gund_b (x := x) (lo := lo) with h | h <;> omega
theorem K_feed {x : Int} (A : CX Z a) (hx : zR x) : TI (d + 2) 79 [.inr 0, .inl x] Z (PostC Z (oFeed a x)) := by
  have B : CT Z a.2.2.2.1.1 a.2.2.2.1.2 := A.2.2.2.1
  have B0 := B
  obtain ⟨b1, b2, b3⟩ := B
  have g := gb3 (x := x) (lo := 0) (hi := 255)
  refine w79_0 (C_outside hx (by decide) (by decide) ⟨zR9 g, fun c => ⟨zR9 g, fun c2 => absurd c2 c, fun _ => ?_⟩, fun c => ?_⟩)
  · have hc : cfeed a.2.2.2.1.1 x = gout x 0 255 := by unfold cfeed; rw [if_neg c]
    refine C_refuse (by omega) ?_
    have := PR (a := a) (v := a.2.2.2.1.1 + 1) (a' := (a.1, a.2.1, a.2.2.1, (a.2.2.2.1.1 + 1, gup a.2.2.2.1.2 a.2.2.2.1.1 x), a.2.2.2.2.1, a.2.2.2.2.2)) A (c := cfeed a.2.2.2.1.1 x) (by rw [hc]; exact c) (by rw [hc]; exact g)
    rw [hc] at this
    unfold oFeed
    rw [hc]
    exact this
  · have c : gout x 0 255 = 0 := by omega
    rw [b1]
    refine ⟨by unfold zR; omega, fun c2 => ⟨zR9 g, fun _ => ?_, fun c3 => absurd c c3⟩, fun c2 => ?_⟩
    · have hc : cfeed a.2.2.2.1.1 x = 0 := by unfold cfeed; rw [if_pos c, if_pos c2]
      refine C_put (gout_0.mp c) B0 c2 fun Z' B' f' => PM hc ?_ fun q hq => f' q (by omega)
      obtain ⟨a1, a2, a3, a6, a7, a8⟩ := A
      exact ⟨CF.keep a1 fun q _ _ => f' q (by omega), a2.keep fun q _ _ => f' q (by omega), CI.keep a3 fun q _ => f' q (by omega), B', CR.keep a7 (f' 39 (by omega)) (f' 40 (by omega)), CB.keep a8 (f' 43 (by omega))⟩
    · have hc : cfeed a.2.2.2.1.1 x = -6 := by unfold cfeed; rw [if_pos c, if_neg c2]
      refine C_refuse (by decide) ?_
      have := PR (a := a) (v := a.2.2.2.1.1 + 1) (a' := (a.1, a.2.1, a.2.2.1, (a.2.2.2.1.1 + 1, gup a.2.2.2.1.2 a.2.2.2.1.1 x), a.2.2.2.2.1, a.2.2.2.2.2)) A (c := cfeed a.2.2.2.1.1 x) (by rw [hc]; decide) (by rw [hc]; decide)
      rw [hc] at this
      unfold oFeed
      rw [hc]
      exact this
theorem PRc {c' c v : Int} {a' : gX} (A : CX Z a) (e : c' = c) (hc : -6 ≤ c ∧ c ≤ -1) : PostC Z (ores a c' v a') c (zbp Z c) := by
  subst e
  exact PR A (by omega) (by omega)
theorem K_bird {x1 x2 : Int} (A : CX Z a) (wx : WX a) (h1 : zR x1) (h2 : zR x2) : TI (d + 3) 87 [.inr 0, .inl x1, .inl x2] Z (PostC Z (oBird a x1 x2)) := by
  have A1 : CFs 1 Z a.1 := A.1
  obtain ⟨e5, e6, e7, eb, ew⟩ := A1
  have hn : 0 ≤ a.1.1 ∧ a.1.1 ≤ 8 := wx.1.1.1
  have g := geith_b (gb1 (W := a.1.1) (w := x1)) (gb2 (x := x2) (m := 2))
  refine w87_0 (C_noBird h1 e5 (by unfold zR; omega) (C_unknown h2 (by decide) (C_either (zR9 gb1) ⟨zR9 g, fun c => ?_, fun c => C_refuse (by omega) (PRq A c g)⟩)))
  obtain ⟨c1, c2⟩ := geith_0.mp c
  have c1 := gin_0.mp c1
  obtain ⟨q1, q2, q3⟩ := eb x1 c1.1 c1.2
  have q1 : Z 2 x1 = _ := q1
  have q2 : Z 3 x1 = _ := q2
  have q3 : Z 4 x1 = _ := q3
  rw [q1, q2, q3]
  have P := fun v => PQ (v := v) (c := geith (gin a.1.1 x1) (gunk x2 2)) A c (frs.refl _ _)
  refine ⟨h2, fun x => ⟨h2, fun y => ⟨by omega, ?_⟩, fun y => ⟨by omega, ?_⟩⟩, fun x => ⟨by omega, ?_⟩⟩
  · have := P (a.1.2.2.2.2.2.1 x1)
    unfold oBird; rw [if_neg x, if_neg y]; exact this
  · have := P (a.1.2.2.2.2.1 x1)
    unfold oBird; rw [if_neg x, if_pos (by omega)]; exact this
  · have := P (a.1.2.2.2.1 x1)
    unfold oBird; rw [if_pos (by omega)]; exact this
theorem K_wire {x1 x2 : Int} (A : CX Z a) (wx : WX a) (h1 : zR x1) (h2 : zR x2) : TI (d + 3) 89 [.inr 0, .inl x1, .inl x2] Z (PostC Z (oWire a x1 x2)) := by
  have A1 : CFs 1 Z a.1 := A.1
  obtain ⟨e5, e6, e7, eb, ew⟩ := A1
  have hW : 5 ≤ a.1.2.1 ∧ a.1.2.1 ≤ 6 := wx.1.1.2.1
  have g := geith_b (gb1 (W := a.1.2.1) (w := x1)) (gb2 (x := x2) (m := 1))
  refine w89_0 (C_noWire h1 e6 (by unfold zR; omega) (C_unknown h2 (by decide) (C_either (zR9 gb1) ⟨zR9 g, fun c => ?_, fun c => C_refuse (by omega) (PRq A c g)⟩)))
  obtain ⟨c1, c2⟩ := geith_0.mp c
  have c1 := gin_0.mp c1
  obtain ⟨q1, q2⟩ := ew x1 c1.1 (by omega)
  have q1 : Z 6 x1 = _ := q1
  have q2 : Z 5 x1 = _ := q2
  rw [q1, q2]
  have P := fun v => PQ (v := v) (c := geith (gin a.1.2.1 x1) (gunk x2 1)) A c (frs.refl _ _)
  refine ⟨h2, fun x => ⟨by omega, ?_⟩, fun x => ⟨by omega, ?_⟩⟩
  · have := P (cnt a.1.2.2.2.2.2.1 x1 a.1.1.toNat)
    unfold oWire; rw [if_neg x]; exact this
  · have := P (a.1.2.2.2.2.2.2 x1)
    unfold oWire; rw [if_pos (by omega)]; exact this
theorem K_weight {x1 x2 : Int} (A : CX Z a) (wx : WX a) (h1 : zR x1) (h2 : zR x2) : TI (d + 3) 90 [.inr 0, .inl x1, .inl x2] Z (PostC Z (oWeight a x1 x2)) := by
  obtain ⟨A1, a2, a3, a6, a7, a8⟩ := id A
  have A1' := A1
  obtain ⟨e5, e6, e7, eb, ew⟩ := A1
  have hW : 5 ≤ a.1.2.1 ∧ a.1.2.1 ≤ 6 := wx.1.1.2.1
  have g := geith_b (gb1 (W := a.1.2.1) (w := x1)) (gb3 (x := x2) (lo := 0) (hi := 11))
  refine w90_0 (C_noWire h1 e6 (by unfold zR; omega) (C_outside h2 (by decide) (by decide) (C_either (zR9 gb1) ⟨zR9 g, fun c => ?_, fun c => C_refuse (by omega) (PR A c g)⟩)))
  obtain ⟨c1, c2⟩ := geith_0.mp c
  have c1 := gin_0.mp c1
  have q1 : Z 6 x1 = _ := (ew x1 c1.1 (by omega)).1
  rw [q1]
  refine ⟨by omega, by omega, fun Z1 z1 => C_forget (PM c ?_ fun q hq => ?_)⟩
  · have F : ∀ q, q ≠ 6 → q ≠ 26 → zup Z1 26 3 0 q = Z q := fun q h1 h2 => by
      subst z1; funext p; rw [zup_cell _ _ _ _ h2, zup_cell _ _ _ _ h1]
    have c26 : Z1 26 2 = Z 26 2 := by subst z1; simp [zup]
    refine ⟨?_, CP0 (by rw [c26]; exact a2.2.2.1), CI.keep a3 fun q _ => F q (by omega) (by omega), CT.keep a6 (F 37 (by omega) (by omega)) (F 38 (by omega) (by omega)), CR.keep a7 (F 39 (by omega) (by omega)) (F 40 (by omega) (by omega)), CB.keep a8 (F 43 (by omega) (by omega))⟩
    show CF 1 _ a.1.1 a.1.2.1 a.1.2.2.1 a.1.2.2.2.1 a.1.2.2.2.2.1 a.1.2.2.2.2.2.1 (gup a.1.2.2.2.2.2.2 x1 x2)
    subst z1
    refine ⟨by simp [zup, e5], by simp [zup, e6], by simp [zup, e7], fun b x y => by simpa [zup] using eb b x y, fun q x y => ?_⟩
    have := ew q x y
    by_cases e : q = x1
    · subst e; simp [zup, gup, this.2]
    · simp [zup, gup, e, this.1, this.2]
  · subst z1; funext p; rw [zup_cell _ _ _ _ (by omega), zup_cell _ _ _ _ (by omega)]
theorem CP.p2 {n kept : Int} {PA : Int → Int → Int} {HA : Int → Int} (a2 : CP Z n kept PA HA) : 0 ≤ Z 26 2 ∧ Z 26 2 < 8 := a2.2.2.1
/-- now has become another, nothing is kept of the past -/
theorem CXnow {Z1 : zM} {s' : gS} {p : (Int → Int → Int) × (Int → Int)} (A : CX Z a) (f : fr 1 Z Z1) (B : CFs 1 Z1 s') : CX (zup Z1 26 3 0) (s', (0, p), a.2.2) := by
  obtain ⟨A1, a2, a3, a6, a7, a8⟩ := A
  have F : ∀ q, (q < 1 ∨ 6 < q) → q ≠ 26 → zup Z1 26 3 0 q = Z q := fun q h1 h2 => by
    funext p; rw [zup_cell _ _ _ _ h2, f q (by omega)]
  refine ⟨CF.keep B fun q h1 h2 => funext fun p => zup_cell _ _ _ _ (by omega), CP0 (by rw [f 26 (by omega)]; exact a2.2.2.1), CI.keep a3 fun q _ => F q (by omega) (by omega), CT.keep a6 (F 37 (by omega) (by omega)) (F 38 (by omega) (by omega)), CR.keep a7 (F 39 (by omega) (by omega)) (F 40 (by omega) (by omega)), CB.keep a8 (F 43 (by omega) (by omega))⟩
theorem K_sixth {x : Int} (A : CX Z a) (wx : WX a) (hx : zR x) : TI (d + 4) 91 [.inr 0, .inl x] Z (PostC Z (oSixth a x)) := by
  have A1 : CFs 1 Z a.1 := A.1
  have e6 : Z 1 6 = a.1.2.1 := A1.2.1
  have hW : 5 ≤ a.1.2.1 ∧ a.1.2.1 ≤ 6 := wx.1.1.2.1
  have g := gb2 (x := x) (m := 1)
  refine w91_0 (C_unknown hx (by decide) ⟨zR9 g, fun c => ?_, fun c => C_refuse (by omega) (PR A c g)⟩)
  have c1 := gunk_0.mp c
  rw [e6]
  have H : ∀ v y : Int, (y = 0 ∨ y = 1) → y = x → v = (if a.1.2.1 = 6 then 1 else 0) → TV (d + 3) 21 [.inr 1, .inl y] Z (fun Z9 => TV (d + 3) 46 [.inr 26] Z9 (fun Z10 => PostC Z (oSixth a x) v Z10)) := by
    intro v y hy e ev
    subst e
    refine C_hang (n := a.1.1) (W := a.1.2.1) (h := a.1.2.2.1) (K := a.1.2.2.2.1) (F := a.1.2.2.2.2.1) (P := a.1.2.2.2.2.2.1) (T := a.1.2.2.2.2.2.2) zF1 A1 wx.1.1 hy fun Z1 B f => C_forget ?_
    subst ev
    exact PM c (CXnow (s' := ghung y a.1) A f B) fun q hq => by funext p; rw [zup_cell _ _ _ _ (by omega), f q (by omega)]
  refine ⟨by unfold zR; omega, fun c2 => ⟨hx, fun c3 => H 0 0 (by omega) (by omega) (by rw [if_neg c2]), fun c3 => H 0 1 (by omega) (by omega) (by rw [if_neg c2])⟩, fun c2 => ⟨hx, fun c3 => H 1 0 (by omega) (by omega) (by rw [if_pos (by omega)]), fun c3 => H 1 1 (by omega) (by omega) (by rw [if_pos (by omega)])⟩⟩
theorem K_comes {x1 x2 x3 : Int} (A : CX Z a) (wx : WX a) (h1 : zR x1) (h2 : zR x2) (h3 : zR x3) : TI (d + 3) 88 [.inr 0, .inl x1, .inl x2, .inl x3] Z (PostC Z (oComes a x1 x2 x3)) := by
  have A1 : CF 1 Z a.1.1 a.1.2.1 a.1.2.2.1 a.1.2.2.2.1 a.1.2.2.2.2.1 a.1.2.2.2.2.2.1 a.1.2.2.2.2.2.2 := A.1
  have wf : WF a.1.1 a.1.2.1 a.1.2.2.1 a.1.2.2.2.1 a.1.2.2.2.2.1 a.1.2.2.2.2.2.1 a.1.2.2.2.2.2.2 := wx.1.1
  have e5 := A1.1
  have e6 := A1.2.1
  have hW := wf.2.1
  have hn := wf.1
  have g0 := geith_b (gb2 (x := x1) (m := 5)) (gb3 (x := x2) (lo := 0) (hi := 9))
  have g := geith_b (gb1 (W := a.1.2.1) (w := x3)) g0
  refine w88_0 (C_noWire h3 e6 (by unfold zR; omega) (C_unknown h1 (by decide) (C_outside h2 (by decide) (by decide) (C_either (zR9 gb2) (C_either (zR9 gb1) ⟨zR9 g, fun c => ⟨zR9 g, fun _ => ⟨zR9 g, fun c2 => absurd c2 c, fun _ => C_refuse (by omega) (PRc A (by unfold ccomes; rw [if_neg c]) (by omega))⟩, fun c2 => absurd c c2⟩, fun c => ?_⟩)))))
  have c : geith (gin a.1.2.1 x3) (geith (gunk x1 5) (gout x2 0 9)) = 0 := by omega
  rw [e5]
  refine ⟨by unfold zR; omega, fun c2 => ⟨zR9 g, fun c3 => absurd c c3, fun _ => C_room zF1 A1 wf h3 (fun r => ?_) (fun r => ?_)⟩, fun c2 => C_refuse (by decide) (PRc A (by unfold ccomes; rw [if_pos c, if_neg c2]) (by decide))⟩
  · refine ⟨by decide, fun _ => ⟨zR9 g, fun _ => C_forget ?_, fun c3 => absurd c c3⟩, fun x => absurd (show (1 : Int) ≠ 0 by decide) x⟩
    have hc : ccomes a.1 x1 x2 x3 = 0 := by unfold ccomes; rw [if_pos c, if_pos c2, if_pos (roomb_iff.mpr r)]
    have F : ∀ q, q ≠ 26 → zup Z 26 3 0 q = Z q := fun q h => funext fun p => zup_cell _ _ _ _ h
    refine C_add (n := a.1.1) (h := a.1.2.2.1) (K := a.1.2.2.2.1) (F := a.1.2.2.2.2.1) (T := a.1.2.2.2.2.2.2) zF1 (A1.keep fun q _ _ => F q (by omega)) wf c2 r fun Z' B f => PM hc ?_ fun q hq => by rw [f q (by omega), F q (by omega)]
    have F' : ∀ q, (q < 1 ∨ 6 < q) → q ≠ 26 → Z' q = Z q := fun q h1 h2 => by rw [f q (by omega), F q h2]
    obtain ⟨_, a2, a3, a6, a7, a8⟩ := A
    refine ⟨B, ?_, CI.keep a3 fun q _ => F' q (by omega) (by omega), CT.keep a6 (F' 37 (by omega) (by omega)) (F' 38 (by omega) (by omega)), CR.keep a7 (F' 39 (by omega) (by omega)) (F' 40 (by omega) (by omega)), CB.keep a8 (F' 43 (by omega) (by omega))⟩
    have := CP0 (Z := Z) (n' := a.1.1 + 1) (PA := a.2.1.2.1) (HA := a.2.1.2.2) a2.2.2.1
    exact this.keep fun q h1 h2 => f q (by omega)
  · exact ⟨by decide, fun x => absurd rfl x, fun _ => C_refuse (by decide) (PRc A (by unfold ccomes; rw [if_pos c, if_pos c2, if_neg (fun x => r (roomb_iff.mp x))]) (by decide))⟩
end
