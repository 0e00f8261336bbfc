/-! THE REFERENCE's calls that change the state: birds, weights, hours, cats, hawks, rain, what is taken back, the image -/
section
variable {d : Nat} {Z : zM} {a : gX}
theorem oq_eq {a : gX} {c c' v v' : Int} (h1 : c = c') (h2 : v = v') : oq a c v = oq a c' v' := by rw [h1, h2]
theorem RMq {c v : Int} {Z' : zM} (hc : c = 0) (A : RX Z' a) (f : ∀ q, q < 100 → Z' q = Z q) : PostR Z (oq a c v) v Z' := RM hc A f
theorem RRq {c' c v : Int} (A : RX Z a) (wx : WX a) (e : c' = c) (hc : -6 ≤ c ∧ c ≤ -1) : PostR Z (oq a c' v) c (zbr Z c) := RRc A wx e hc
theorem J_bird {x1 x2 : Int} (A : RX Z a) (wx : WX a) (h1 : zR x1) (h2 : zR x2) : TI (d + 3) 196 [.inr 100, .inl x1, .inl x2] Z (PostR Z (oBird a x1 x2)) := by
  have A1 : RFs Z a.1 := A.1
  obtain ⟨e5, e6, e7, eb, ew⟩ := A1
  have hn : 0 ≤ a.1.1 ∧ a.1.1 ≤ 8 := wx.1.1.1
  refine w196_0 (R_isBird e5 (by unfold zR; omega) h1 (fun c => ?_) (fun c => ?_))
  · have g1 : gin a.1.1 x1 = 0 := gin_0.mpr c
    obtain ⟨q1, q2, q3⟩ := eb x1 c.1 c.2
    rw [q1, q2, q3]
    have P : ∀ v, (x2 = 0 ∨ x2 = 1 ∨ x2 = 2) → PostR Z (oq a (geith (gin a.1.1 x1) (gunk x2 2)) v) v Z := fun v hv => RMq (geith_0.mpr ⟨g1, gunk_0.mpr (by omega)⟩) A fun _ _ => rfl
    refine ⟨by decide, fun _ => ⟨h2, fun x => ⟨h2, fun y => ⟨h2, fun z => R_no (by decide) (RRq A wx ?_ (by decide)), fun z => ⟨by omega, ?_⟩⟩, fun y => ⟨by omega, ?_⟩⟩, fun x => ⟨by omega, ?_⟩⟩, fun x => absurd (show (1 : Int) ≠ 0 by decide) x⟩
    · unfold geith; rw [if_pos g1]; unfold gunk; split
      · rfl
      · rw [if_pos (by omega)]
    · have := P (a.1.2.2.2.2.2.1 x1) (by omega)
      unfold oBird; rw [if_neg x, if_neg y]; exact this
    · have := P (a.1.2.2.2.2.1 x1) (by omega)
      unfold oBird; rw [if_neg x, if_pos (by omega)]; exact this
    · have := P (a.1.2.2.2.1 x1) (by omega)
      unfold oBird; rw [if_pos (by omega)]; exact this
  · have g1 : gin a.1.1 x1 = -1 := by unfold gin; rw [if_neg c]
    exact ⟨by decide, fun x => absurd rfl x, fun _ => R_no (by decide) (RRq A wx (by unfold geith; rw [g1]; rfl) (by decide))⟩
theorem J_wire {x1 x2 : Int} (A : RX Z a) (wx : WX a) (h1 : zR x1) (h2 : zR x2) : TI (d + 3) 198 [.inr 100, .inl x1, .inl x2] Z (PostR Z (oWire a x1 x2)) := by
  have A1 : RFs Z a.1 := A.1
  obtain ⟨e5, e6, e7, eb, ew⟩ := id A1
  have hW : 5 ≤ a.1.2.1 ∧ a.1.2.1 ≤ 6 := wx.1.1.2.1
  refine w198_0 (R_isWire e6 (by unfold zR; omega) h1 (fun c => ?_) (fun c => ?_))
  · have g1 : gin a.1.2.1 x1 = 0 := gin_0.mpr c
    rw [ew x1 c.1 (by omega)]
    have P : ∀ v, (x2 = 0 ∨ x2 = 1) → PostR Z (oq a (geith (gin a.1.2.1 x1) (gunk x2 1)) v) v Z := fun v hv => RMq (geith_0.mpr ⟨g1, gunk_0.mpr (by omega)⟩) A fun _ _ => rfl
    refine ⟨by decide, fun _ => ⟨h2, fun x => ⟨h2, fun y => R_no (by decide) (RRq A wx ?_ (by decide)), fun y => R_many (n := a.1.1) (W := a.1.2.1) (h := a.1.2.2.1) (K := a.1.2.2.2.1) (F := a.1.2.2.2.2.1) (P := a.1.2.2.2.2.2.1) (T := a.1.2.2.2.2.2.2) A1 (WF.pb wx.1.1) h1 ?_⟩, fun x => ⟨by omega, ?_⟩⟩, fun x => absurd (show (1 : Int) ≠ 0 by decide) x⟩
    · unfold geith; rw [if_pos g1]; unfold gunk; split
      · rfl
      · rw [if_pos (by omega)]
    · have := P (cnt a.1.2.2.2.2.2.1 x1 a.1.1.toNat) (by omega)
      unfold oWire; rw [if_neg x]; exact this
    · have := P (a.1.2.2.2.2.2.2 x1) (by omega)
      unfold oWire; rw [if_pos (by omega)]; exact this
  · have g1 : gin a.1.2.1 x1 = -1 := by unfold gin; rw [if_neg c]
    exact ⟨by decide, fun x => absurd rfl x, fun _ => R_no (by decide) (RRq A wx (by unfold geith; rw [g1]; rfl) (by decide))⟩
theorem RYk {Z' : zM} (A : RX Z a) (wx : WX a) (h : ∀ q p, SY q p → Z' q p = Z q p) : RY Z' a := A.2.keep wx h
theorem J_weight {x1 x2 : Int} (A : RX Z a) (wx : WX a) (h1 : zR x1) (h2 : zR x2) : TI (d + 3) 199 [.inr 100, .inl x1, .inl x2] Z (PostR Z (oWeight a x1 x2)) := by
  have A1 : RFs Z a.1 := A.1
  obtain ⟨e5, e6, e7, eb, ew⟩ := id A1
  have hW : 5 ≤ a.1.2.1 ∧ a.1.2.1 ≤ 6 := wx.1.1.2.1
  have g := gb3 (x := x2) (lo := 0) (hi := 11)
  refine w199_0 (R_isWire e6 (by unfold zR; omega) h1 (fun c => ?_) (fun c => ?_))
  · have g1 : gin a.1.2.1 x1 = 0 := gin_0.mpr c
    refine ⟨by decide, fun _ => R_bound h2 (by decide) (by decide) ⟨zR9 g, fun c2 Z1 z1 => ⟨by omega, by omega, fun Z2 z2 => ?_⟩, fun c2 => R_no (by omega) (RRc A wx (by unfold geith; rw [if_pos g1]) (by omega))⟩, fun x => absurd (show (1 : Int) ≠ 0 by decide) x⟩
    have v1 : Z1 102 x1 = a.1.2.2.2.2.2.2 x1 := by subst z1; rw [zup_cell _ _ _ _ (by decide)]; exact ew x1 c.1 (by omega)
    rw [v1]
    have e2 : Z2 = zup (zup Z 102 x1 x2) 100 19 0 := by
      subst z2; subst z1
      funext q p
      unfold zup
      by_cases e1 : q = 102
      · simp [e1]
      · by_cases e3 : q = 100 <;> simp [e1, e3]
    rw [e2]
    refine RM (geith_0.mpr ⟨g1, c2⟩) (RY19 (s' := gwt x1 x2 a.1) ?_ (RYk A wx fun q p h => ?_) fun e => (wx.2.2 e).1.1.2) fun q hq => funext fun p => by rw [zup_cell _ _ _ _ (by omega), zup_cell _ _ _ _ (by omega)]
    · show RF _ a.1.1 a.1.2.1 a.1.2.2.1 a.1.2.2.2.1 a.1.2.2.2.2.1 a.1.2.2.2.2.2.1 (gup a.1.2.2.2.2.2.2 x1 x2)
      refine ⟨by simp [zup, e5], by simp [zup, e6], by simp [zup, e7], fun b x y => by simpa [zup] using eb b x y, fun q x y => ?_⟩
      have := ew q x y
      by_cases e : q = x1
      · subst e; simp [zup, gup]
      · simp [zup, gup, e, this]
    · unfold SY at h; exact congrFun (funext fun p => zup_cell _ _ _ _ (by omega)) p
  · have g1 : gin a.1.2.1 x1 = -1 := by unfold gin; rw [if_neg c]
    exact ⟨by decide, fun x => absurd rfl x, fun _ => R_no (by decide) (RRc A wx (by unfold geith; rw [g1]; rfl) (by decide))⟩
theorem R_adds {kd fg w n W h : Int} {K F P T : Int → Int} {Q : zM → Prop} (A : RF Z n W h K F P T) (hn : 0 ≤ n ∧ n < 8) (hQ : ∀ Z', RF Z' (n + 1) W h (gup K n kd) (gup F n fg) (gup P n w) T → fR (fun q p => (103 ≤ q ∧ q ≤ 105) ∨ (q = 100 ∧ p = 5)) Z Z' → Q Z') : TV d 181 [.inr 100, .inl kd, .inl fg, .inl w] Z Q := by
  obtain ⟨e5, e6, e7, eb, ew⟩ := A
  refine w181_0 ?_
  rw [e5]
  refine ⟨by omega, fun Z1 z1 => ?_⟩
  have f1 : Z1 100 5 = n := by subst z1; rw [zup_cell _ _ _ _ (by decide)]; exact e5
  rw [f1]
  refine ⟨by omega, fun Z2 z2 => ?_⟩
  have f2 : Z2 100 5 = n := by subst z2; rw [zup_cell _ _ _ _ (by decide)]; exact f1
  rw [f2]
  refine ⟨by omega, fun Z3 z3 Z4 z4 => hQ Z4 ?_ ?_⟩
  · subst z4; subst z3; subst z2; subst z1
    refine ⟨by simp [zup, e5], by simp [zup, e6], by simp [zup, e7], fun b h1 h2 => ?_, fun v h1 h2 => by simp [zup, ew v h1 h2]⟩
    by_cases e : b = n
    · subst e; simp [zup, gup]
    · obtain ⟨q1, q2, q3⟩ := eb b h1 (by omega)
      exact ⟨by simp [zup, gup, e, q1], by simp [zup, gup, e, q2], by simp [zup, gup, e, q3]⟩
  · subst z4; subst z3; subst z2; subst z1
    exact fR.trans (fR.trans (fR.trans (fR_up (by omega)) (fR_up (by omega))) (fR_up (by omega))) (fR_up (by omega))
theorem J_comes {x1 x2 x3 : Int} (A : RX Z a) (wx : WX a) (h1 : zR x1) (h2 : zR x2) (h3 : zR x3) : TI (d + 3) 197 [.inr 100, .inl x1, .inl x2, .inl x3] Z (PostR Z (oComes a x1 x2 x3)) := by
  have A1 : RFs Z a.1 := A.1
  obtain ⟨e5, e6, e7, eb, ew⟩ := id A1
  have hW : 5 ≤ a.1.2.1 ∧ a.1.2.1 ≤ 6 := wx.1.1.2.1
  have hn : 0 ≤ a.1.1 ∧ a.1.1 ≤ 8 := wx.1.1.1
  have g := gb3 (x := x2) (lo := 0) (hi := 9)
  refine w197_0 (R_isWire e6 (by unfold zR; omega) h3 (fun c => ?_) (fun c => ?_))
  · have g1 : gin a.1.2.1 x3 = 0 := gin_0.mpr c
    refine ⟨by decide, fun _ => R_isIn h1 (by decide) (by decide) (fun c2 => ?_) (fun c2 => ?_), fun x => absurd (show (1 : Int) ≠ 0 by decide) x⟩
    · have g2 : gunk x1 5 = 0 := gunk_0.mpr c2
      refine ⟨by decide, fun _ => R_bound h2 (by decide) (by decide) ⟨zR9 g, fun c3 => ⟨zR9 g, fun _ => ⟨zR9 g, fun c4 => absurd c4 c3, fun _ => R_no (by omega) (RRc A wx ?_ (by omega))⟩, fun c4 => absurd c3 c4⟩, fun c3 => ?_⟩, fun x => absurd (show (1 : Int) ≠ 0 by decide) x⟩
      · have ec : geith (gin a.1.2.1 x3) (geith (gunk x1 5) (gout x2 0 9)) = gout x2 0 9 := by unfold geith; rw [if_pos g1, if_pos g2]
        unfold ccomes; rw [ec, if_neg c3]
      · have c3 : gout x2 0 9 = 0 := by omega
        have ec : geith (gin a.1.2.1 x3) (geith (gunk x1 5) (gout x2 0 9)) = 0 := by unfold geith; rw [if_pos g1, if_pos g2, c3]
        rw [e5]
        refine ⟨by unfold zR; omega, fun c4 => ⟨zR9 g, fun c5 => absurd c3 c5, fun _ => R_room (n := a.1.1) (W := a.1.2.1) (h := a.1.2.2.1) (K := a.1.2.2.2.1) (F := a.1.2.2.2.2.1) (P := a.1.2.2.2.2.2.1) (T := a.1.2.2.2.2.2.2) A1 (WF.pb wx.1.1) h3 (fun r => ?_) (fun r => ?_)⟩, fun c4 => R_no (by decide) (RRc A wx (by unfold ccomes; rw [if_pos ec, if_neg (by omega)]) (by decide))⟩
        · have hr : roomb a.1.2.2.2.2.2.1 a.1.1 a.1.2.1 x3 = true := roomb_iff.mpr ⟨c.1, c.2, r⟩
          refine ⟨by decide, fun _ => ⟨zR9 g, fun _ Z1 z1 => ?_, fun c5 => absurd c3 c5⟩, fun x => absurd (show (1 : Int) ≠ 0 by decide) x⟩
          have A2 := RY19 (p := a.2.1.2) A.1 A.2 fun e => (wx.2.2 e).1.1.2
          rw [← z1] at A2
          refine R_adds (n := a.1.1) (W := a.1.2.1) (h := a.1.2.2.1) (K := a.1.2.2.2.1) (F := a.1.2.2.2.2.1) (P := a.1.2.2.2.2.2.1) (T := a.1.2.2.2.2.2.2) A2.1 (by omega) fun Z2 A3 f => ?_
          have e5' := A3.1
          rw [e5', show a.1.1 + 1 - 1 = a.1.1 by omega]
          have f1 : ∀ q, q < 100 → Z1 q = Z q := fun q hq => by subst z1; funext p; exact zup_cell _ _ _ _ (by omega)
          have C : ∀ q : Nat, q ≠ 100 → (q < 103 ∨ 105 < q) → Z2 q = Z1 q := fun q y z => funext fun p => f q p (by omega)
          have F : ∀ p, p ≠ 5 → Z2 100 p = Z1 100 p := fun p y => f 100 p (by omega)
          refine RM (by unfold ccomes; rw [if_pos ec, if_pos (by omega), if_pos hr]) ⟨A3, ?_⟩ fun q hq => by rw [C q (by omega) (by omega), f1 q hq]
          obtain ⟨b1, b2, b3, b4, b5⟩ := A2.2
          exact ⟨⟨by rw [F _ (by decide)]; exact b1.1, b1.2.1, fun j y z => absurd z (by show ¬ j < 0; omega)⟩, RI.keep (fun e => (wx.2.2 e).1.1.2) b2 (F _ (by decide)) (fun p _ => by rw [C _ (by decide) (by omega)]), RT.keep b3 (F _ (by decide)) (C _ (by decide) (by omega)), RR.keep b4 (F _ (by decide)) (C _ (by decide) (by omega)), RB.keep b5 (C _ (by decide) (by omega))⟩
        · have hr : ¬ roomb a.1.2.2.2.2.2.1 a.1.1 a.1.2.1 x3 = true := fun y => r (roomb_iff.mp y).2.2
          exact ⟨by decide, fun x => absurd rfl x, fun _ => R_no (by decide) (RRc A wx (by unfold ccomes; rw [if_pos ec, if_pos (by omega), if_neg hr]) (by decide))⟩
    · have g2 : gunk x1 5 = -2 := by
        rcases gunk_b (x := x1) (m := 5) with y | y
        · exact absurd (gunk_0.mp y) c2
        · exact y
      have ec : geith (gin a.1.2.1 x3) (geith (gunk x1 5) (gout x2 0 9)) = -2 := by unfold geith; rw [if_pos g1, g2]; rfl
      exact ⟨by decide, fun x => absurd rfl x, fun _ => R_no (by decide) (RRc A wx (by unfold ccomes; rw [ec]; rfl) (by decide))⟩
  · have g1 : gin a.1.2.1 x3 = -1 := by unfold gin; rw [if_neg c]
    have ec : geith (gin a.1.2.1 x3) (geith (gunk x1 5) (gout x2 0 9)) = -1 := by unfold geith; rw [g1]; rfl
    exact ⟨by decide, fun x => absurd rfl x, fun _ => R_no (by decide) (RRc A wx (by unfold ccomes; rw [ec]; rfl) (by decide))⟩
theorem J_sixth {x : Int} (A : RX Z a) (wx : WX a) (hx : zR x) : TI (d + 5) 200 [.inr 100, .inl x] Z (PostR Z (oSixth a x)) := by
  have A1 : RFs Z a.1 := A.1
  have e6 : Z 100 6 = a.1.2.1 := A1.2.1
  have hW : 5 ≤ a.1.2.1 ∧ a.1.2.1 ≤ 6 := wx.1.1.2.1
  refine w200_0 (R_isIn hx (by decide) (by decide) (fun c => ?_) (fun c => ?_))
  · rw [e6]
    refine ⟨by decide, fun _ Z1 z1 => ?_, fun y => absurd (show (1 : Int) ≠ 0 by decide) y⟩
    have A2 := RY19 (p := a.2.1.2) A.1 A.2 fun e => (wx.2.2 e).1.1.2
    rw [← z1] at A2
    have f1 : ∀ q, q < 100 → Z1 q = Z q := fun q hq => by subst z1; funext p; exact zup_cell _ _ _ _ (by omega)
    have ev : a.1.2.1 - 5 = if a.1.2.1 = 6 then 1 else 0 := by split <;> omega
    refine ⟨by unfold zR; omega, by unfold zR; omega, fun c2 => ?_, fun c2 => ?_⟩
    · have es : ghung x a.1 = a.1 := by
        show (a.1.1, (if x = 1 then 6 else 5), a.1.2.2.1, a.1.2.2.2.1, a.1.2.2.2.2.1, ghang a.1.1 a.1.2.1 a.1.2.2.2.2.2.1 x, a.1.2.2.2.2.2.2) = a.1
        have h1 : (if x = 1 then (6 : Int) else 5) = a.1.2.1 := by split <;> omega
        have h2 : ghang a.1.1 a.1.2.1 a.1.2.2.2.2.2.1 x = a.1.2.2.2.2.2.1 := by unfold ghang; rw [if_neg (by omega)]
        rw [h1, h2]
      unfold oSixth
      rw [ev, es]
      exact RM (gunk_0.mpr c) A2 f1
    · refine R_hangs0 (n := a.1.1) (W := a.1.2.1) (h := a.1.2.2.1) (K := a.1.2.2.2.1) (F := a.1.2.2.2.2.1) (P := a.1.2.2.2.2.2.1) (T := a.1.2.2.2.2.2.2) A2.1 wx.1.1 fun Z2 A3 f => ?_
      have C : ∀ q : Nat, q ≠ 100 → q ≠ 105 → Z2 q = Z1 q := fun q y z => funext fun p => f q p (by unfold SW; omega)
      have F : ∀ p, p ≠ 6 → Z2 100 p = Z1 100 p := fun p y => f 100 p (by unfold SW; omega)
      unfold oSixth
      rw [ev]
      refine RM (gunk_0.mpr c) ⟨?_, ?_⟩ fun q hq => by rw [C q (by omega) (by omega), f1 q hq]
      · have h1 : (if a.1.2.1 = 6 then (5 : Int) else 6) = (if x = 1 then 6 else 5) := by split <;> split <;> omega
        have h2 : (if a.1.2.1 = 6 then (0 : Int) else 1) = x := by split <;> omega
        rw [h1, h2] at A3
        exact A3
      · obtain ⟨b1, b2, b3, b4, b5⟩ := A2.2
        exact ⟨⟨by rw [F _ (by decide)]; exact b1.1, b1.2.1, fun j y z => absurd z (by show ¬ j < 0; omega)⟩, RI.keep (fun e => (wx.2.2 e).1.1.2) b2 (F _ (by decide)) (fun p _ => by rw [C _ (by decide) (by decide)]), RT.keep b3 (F _ (by decide)) (C _ (by decide) (by decide)), RR.keep b4 (F _ (by decide)) (C _ (by decide) (by decide)), RB.keep b5 (C _ (by decide) (by decide))⟩
  · have g2 : gunk x 1 = -2 := by
      rcases gunk_b (x := x) (m := 1) with y | y
      · exact absurd (gunk_0.mp y) c
      · exact y
    exact ⟨by decide, fun y => absurd rfl y, fun _ => R_no (by decide) (RRc A wx g2 (by decide))⟩
/-- places that keepsBack writes -/
def SKB (q : Nat) (p : Int) : Prop := (q = 110 ∧ 105 ≤ p) ∨ (q = 100 ∧ (p = 17 ∨ p = 18 ∨ p = 19))
theorem R_shift {Q : zM → Prop} (hQ : ∀ Z', (∀ p, Z' 110 p = if 105 ≤ p ∧ p < 350 then Z 110 (p + 35) else Z 110 p) → (∀ q, q ≠ 110 → Z' q = Z q) → TZ (d + 1) 175 12 [some (.inr 100), some (.inl 350)] [] Z' (zrv Q)) : ∀ f : Nat, f ≤ 245 → ∀ Z1 : zM, (∀ p, Z1 110 p = if 105 ≤ p ∧ p < 350 - (f : Int) then Z 110 (p + 35) else Z 110 p) → (∀ q, q ≠ 110 → Z1 q = Z q) → TZ (d + 1) 175 12 [some (.inr 100), some (.inl (350 - (f : Int)))] [] Z1 (zrv Q)
  | 0, _, Z1, h1, h2 => by
    have := hQ Z1 (fun p => by rw [h1 p]; simp) h2
    simpa using this
  | f + 1, hf, Z1, h1, h2 => by
    refine w175_12 ⟨by unfold zR; omega, fun c => absurd c (by omega), fun _ => ⟨by omega, by omega, fun Z2 z2 => ?_⟩⟩
    rw [show 350 - ((f + 1 : Nat) : Int) + 1 = 350 - (f : Int) by omega]
    refine R_shift hQ f (by omega) Z2 (fun p => ?_) (fun q hq => ?_)
    · subst z2
      by_cases e : p = 350 - ((f + 1 : Nat) : Int)
      · rw [e, zup_same, h1, if_neg (by omega), if_pos (by omega)]
      · rw [zup_place _ _ _ _ e, h1]
        by_cases e2 : 105 ≤ p ∧ p < 350 - ((f + 1 : Nat) : Int)
        · rw [if_pos e2, if_pos (by omega)]
        · rw [if_neg e2, if_neg (by omega)]
    · subst z2; funext p; rw [zup_cell _ _ _ _ hq, h2 q hq]
theorem R_keepsBack {Q : zM → Prop} (A : RX Z a) (wx : WX a) (hQ : ∀ Z', RFs Z' a.1 → RP Z' a.1 (gkeep a).1 (gkeep a).2.1 (gkeep a).2.2 → fR SKB Z Z' → Q Z') : TV (d + 2) 175 [.inr 100] Z Q := by
  obtain ⟨a0, a1, a2, a3, a4, a5⟩ := id A
  obtain ⟨p1, p2, p3⟩ := a1
  have hn : a.1.1 ≤ 8 := wx.1.1.1.2
  refine w175_0 ?_
  rw [p1]
  refine ⟨by unfold zR; omega, fun c => R_save (by omega) fun Z1 s Z2 z2 => ?_, fun c => ?_⟩
  · obtain ⟨b1, b2⟩ := savd.bf hn a0 s
    obtain ⟨s1, s2, s3, s4, s5, s6⟩ := s
    have gk : gkn a.2.1.1 = a.2.1.1 + 1 := by unfold gkn; omega
    have e19 : Z1 100 19 = a.2.1.1 := by rw [s5 19 (by decide) (by decide)]; exact p1
    have F : ∀ p, p ≠ 19 → Z2 100 p = Z1 100 p := fun p h => by subst z2; exact zup_place _ _ _ _ h
    have C : ∀ q : Nat, q ≠ 100 → Z2 q = Z1 q := fun q h => by subst z2; funext p; exact zup_cell _ _ _ _ h
    refine hQ Z2 (RF.keep b2 (C _ (by decide)) (C _ (by decide)) (C _ (by decide)) (C _ (by decide)) (F _ (by decide)) (F _ (by decide)) (F _ (by decide))) ⟨?_, ?_, fun j h1 h2 => ?_⟩ fun q p h => ?_
    · show Z2 100 19 = gkn a.2.1.1
      rw [gk]; subst z2; rw [zup_same, e19]
    · show 0 ≤ gkn a.2.1.1 ∧ gkn a.2.1.1 ≤ 8
      omega
    · have h2 : j < gkn a.2.1.1 := h2
      show BF Z2 (3 + j) (gat a.1 (gkP a.2.1.1 a.2.1.2.1 a.1.2.2.2.2.2.1 j) (gkH a.2.1.1 a.2.1.2.2 a.1.2.2.1 j))
      unfold gkP gkH
      have k8 : a.2.1.1 < 8 := by omega
      simp only [if_pos k8]
      by_cases e : j = a.2.1.1
      · simp only [if_pos e]
        rw [e]
        exact BF.keep hn (show BF Z1 (3 + a.2.1.1) a.1 from b1) fun p _ _ => by rw [C 110 (by decide)]
      · simp only [if_neg e]
        exact BF.keep hn (p3 j h1 (by omega)) fun p y z => by rw [C 110 (by decide), s4 p (by omega)]
    · unfold SKB at h
      by_cases e : q = 100
      · subst e; rw [F p (by omega), s5 p (by omega) (by omega)]
      · rw [C q e]
        by_cases e2 : q = 110
        · subst e2; exact s4 p (by omega)
        · rw [s6 q e e2]
  · have k8 : a.2.1.1 = 8 := by omega
    have gk : gkn a.2.1.1 = 8 := by unfold gkn; omega
    have H := R_shift (d := d + 1) (Z := Z) (Q := Q) (fun Z1 h1 h2 => ?_) 245 (by decide) Z (fun p => by rw [if_neg (by omega)]) (fun _ _ => rfl)
    · simpa using H
    · have r1 : RFs Z1 a.1 := RF.keep a0 (h2 _ (by decide)) (h2 _ (by decide)) (h2 _ (by decide)) (h2 _ (by decide)) (by rw [h2 _ (by decide)]) (by rw [h2 _ (by decide)]) (by rw [h2 _ (by decide)])
      refine w175_12 ⟨by decide, fun _ Z2 z2 => ?_, fun y => absurd (show (350 : Int) ≤ 350 by decide) y⟩
      have e19 : Z2 100 19 = 7 := by subst z2; rw [zup_same, h2 100 (by decide), p1]; omega
      rw [e19]
      have F2 : ∀ p, p ≠ 19 → Z2 100 p = Z1 100 p := fun p h => by subst z2; exact zup_place _ _ _ _ h
      have C2 : ∀ q : Nat, q ≠ 100 → Z2 q = Z1 q := fun q h => by subst z2; funext p; exact zup_cell _ _ _ _ h
      have r2 : RFs Z2 a.1 := RF.keep r1 (C2 _ (by decide)) (C2 _ (by decide)) (C2 _ (by decide)) (C2 _ (by decide)) (F2 _ (by decide)) (F2 _ (by decide)) (F2 _ (by decide))
      refine R_save (by decide) fun Z3 s Z4 z4 => ?_
      obtain ⟨b1, b2⟩ := savd.bf hn r2 s
      obtain ⟨s1, s2, s3, s4, s5, s6⟩ := s
      have e19' : Z3 100 19 = 7 := by rw [s5 19 (by decide) (by decide)]; exact e19
      have F : ∀ p, p ≠ 19 → Z4 100 p = Z3 100 p := fun p h => by subst z4; exact zup_place _ _ _ _ h
      have C : ∀ q : Nat, q ≠ 100 → Z4 q = Z3 q := fun q h => by subst z4; funext p; exact zup_cell _ _ _ _ h
      refine hQ Z4 (RF.keep b2 (C _ (by decide)) (C _ (by decide)) (C _ (by decide)) (C _ (by decide)) (F _ (by decide)) (F _ (by decide)) (F _ (by decide))) ⟨?_, ?_, fun j y1 y2 => ?_⟩ fun q p h => ?_
      · show Z4 100 19 = gkn a.2.1.1
        rw [gk]; subst z4; rw [zup_same, e19']; rfl
      · show 0 ≤ gkn a.2.1.1 ∧ gkn a.2.1.1 ≤ 8
        omega
      · have y2 : j < gkn a.2.1.1 := y2
        show BF Z4 (3 + j) (gat a.1 (gkP a.2.1.1 a.2.1.2.1 a.1.2.2.2.2.2.1 j) (gkH a.2.1.1 a.2.1.2.2 a.1.2.2.1 j))
        unfold gkP gkH
        have k9 : ¬ a.2.1.1 < 8 := by omega
        simp only [if_neg k9]
        by_cases e : j = 7
        · simp only [if_pos e]
          rw [e]
          exact BF.keep hn (show BF Z3 (3 + 7) a.1 from b1) fun p _ _ => by rw [C 110 (by decide)]
        · simp only [if_neg e]
          obtain ⟨g1, g2, g3, g4, g5⟩ := p3 (j + 1) (by omega) (by omega)
          have V : ∀ p, 35 * (3 + j) ≤ p → p < 35 * (3 + j) + 33 → Z4 110 p = Z 110 (p + 35) := fun p y z => by
            rw [C 110 (by decide), s4 p (by omega), C2 110 (by decide), h1 p, if_pos (by omega)]
          refine ⟨by rw [V _ (by omega) (by omega), ← g1]; congr 1; omega, by rw [V _ (by omega) (by omega), ← g2]; congr 1; omega, by rw [V _ (by omega) (by omega), ← g3]; congr 1; omega, fun b x1 x2 => ?_, fun v x1 x2 => by rw [V _ (by omega) (by omega), ← g5 v x1 x2]; congr 1; omega⟩
          have x2 : b < a.1.1 := x2
          obtain ⟨t1, t2, t3⟩ := g4 b x1 x2
          exact ⟨by rw [V _ (by omega) (by omega), ← t1]; congr 1; omega, by rw [V _ (by omega) (by omega), ← t2]; congr 1; omega, by rw [V _ (by omega) (by omega), ← t3]; congr 1; omega⟩
      · unfold SKB at h
        by_cases e : q = 100
        · subst e; rw [F p (by omega), s5 p (by omega) (by omega), F2 p (by omega), h2 100 (by decide)]
        · rw [C q e]
          by_cases e2 : q = 110
          · subst e2; rw [s4 p (by omega), C2 110 (by decide), h1 p, if_neg (by omega)]
          · rw [s6 q e e2, C2 q e, h2 q e2]
/-- past kept, then now moved on -/
theorem RXkeep {Z1 Z2 : zM} {s' : gS} (A : RX Z a) (wx : WX a) (B : RP Z1 a.1 (gkeep a).1 (gkeep a).2.1 (gkeep a).2.2) (f1 : fR SKB Z Z1) (f2 : fR SH Z1 Z2) (C : RFs Z2 s') (hs : ∀ P h, gat s' P h = gat a.1 P h) : RX Z2 (s', gkeep a, a.2.2) ∧ ∀ q, q < 100 → Z2 q = Z q := by
  obtain ⟨a0, a1, a2, a3, a4, a5⟩ := A
  have F : ∀ q p, ¬ SKB q p → ¬ SH q p → Z2 q p = Z q p := fun q p h1 h2 => by rw [f2 q p h2, f1 q p h1]
  have D : ∀ q : Nat, q ≠ 105 → q ≠ 100 → q ≠ 110 → Z2 q = Z q := fun q h1 h2 h3 => funext fun p => F q p (by unfold SKB; omega) (by unfold SH; omega)
  refine ⟨⟨C, ⟨?_, B.2.1, fun j h1 h2 => ?_⟩, RI.keep (fun e => (wx.2.2 e).1.1.2) a2 (F _ _ (by unfold SKB; omega) (by unfold SH; omega)) (fun p _ => F _ _ (by unfold SKB; omega) (by unfold SH; omega)), RT.keep a3 (F _ _ (by unfold SKB; omega) (by unfold SH; omega)) (D _ (by decide) (by decide) (by decide)), RR.keep a4 (F _ _ (by unfold SKB; omega) (by unfold SH; omega)) (D _ (by decide) (by decide) (by decide)), RB.keep a5 (D _ (by decide) (by decide) (by decide))⟩, fun q hq => D q (by omega) (by omega) (by omega)⟩
  · rw [f2 _ _ (by unfold SH; omega)]; exact B.1
  · show BF Z2 (3 + j) (gat s' _ _)
    rw [hs]
    exact BF.keep wx.1.1.1.2 (B.2.2 j h1 h2) fun p _ _ => f2 _ _ (by unfold SH; omega)
theorem J_feeds {x : Int} (A : RX Z a) (wx : WX a) (hx : zR x) : TI (d + 4) 201 [.inr 100, .inl x] Z (PostR Z (oFeeds a x)) := by
  have A1 : RFs Z a.1 := A.1
  have e6 : Z 100 6 = a.1.2.1 := A1.2.1
  have e7 : Z 100 7 = a.1.2.2.1 := A1.2.2.1
  have hW : 5 ≤ a.1.2.1 ∧ a.1.2.1 ≤ 6 := wx.1.1.2.1
  have hh : 0 ≤ a.1.2.2.1 ∧ a.1.2.2.1 ≤ 1000000 := wx.1.1.2.2.1
  have hh9 := wx.1.2
  have H : cfeeds a.1 x = 0 → (-1 ≤ x ∧ x < a.1.2.1) → TV (d + 3) 175 [.inr 100] Z (fun Z9 => TI (d + 3) 188 [.inr 100, .inl x] Z9 (fun r11 Z10 => TI (d + 3) 161 [.inr 100] Z10 (fun r13 Z12 => PostR Z (oFeeds a x) r13 Z12))) := by
    intro hc hf
    refine R_keepsBack A wx fun Z1 A2 B f1 => ?_
    refine R_goes1 (n := a.1.1) (W := a.1.2.1) (h := a.1.2.2.1) (K := a.1.2.2.2.1) (F := a.1.2.2.2.2.1) (P := a.1.2.2.2.2.2.1) (T := a.1.2.2.2.2.2.2) A2 wx.1.1 hf (by omega) fun Z2 C f2 => ?_
    have wf2 := gpass_wf (fl := x) wx.1.1 hf (by omega)
    refine R_shown (n := a.1.1) (W := a.1.2.1) (h := a.1.2.2.1 + 1) (K := a.1.2.2.2.1) (F := a.1.2.2.2.2.1) (T := a.1.2.2.2.2.2.2) C wf2 ?_
    obtain ⟨h1, h2⟩ := RXkeep (s' := gpass x a.1) A wx B f1 f2 C fun _ _ => rfl
    exact RM hc h1 h2
  refine w201_0 ⟨hx, fun c => ?_, fun c => R_isWire e6 (by unfold zR; omega) hx (fun c2 => ?_) (fun c2 => ?_)⟩
  · rw [e7]
    exact ⟨by unfold zR; omega, fun c4 => H (by unfold cfeeds; rw [if_pos (Or.inl c), if_pos (by omega)]) (by omega), fun c4 => R_no (by decide) (RRc A wx (by unfold cfeeds; rw [if_pos (Or.inl c), if_neg (by omega)]) (by decide))⟩
  · have c3 : gin a.1.2.1 x = 0 := gin_0.mpr c2
    rw [e7]
    exact ⟨by decide, fun _ => ⟨by unfold zR; omega, fun c4 => H (by unfold cfeeds; rw [if_pos (Or.inr c3), if_pos (by omega)]) (by omega), fun c4 => R_no (by decide) (RRc A wx (by unfold cfeeds; rw [if_pos (Or.inr c3), if_neg (by omega)]) (by decide))⟩, fun y => absurd (show (1 : Int) ≠ 0 by decide) y⟩
  · have c3 : gin a.1.2.1 x = -1 := by unfold gin; rw [if_neg c2]
    exact ⟨by decide, fun y => absurd rfl y, fun _ => R_no (by decide) (RRc A wx (by unfold cfeeds; rw [if_neg (by omega)]; exact c3) (by decide))⟩
theorem J_cat {x : Int} (A : RX Z a) (wx : WX a) (hx : zR x) : TI (d + 4) 202 [.inr 100, .inl x] Z (PostR Z (oCat a x)) := by
  have A1 : RFs Z a.1 := A.1
  have e6 : Z 100 6 = a.1.2.1 := A1.2.1
  have hW : 5 ≤ a.1.2.1 ∧ a.1.2.1 ≤ 6 := wx.1.1.2.1
  refine w202_0 (R_isWire e6 (by unfold zR; omega) hx (fun c => ?_) (fun c => ?_))
  · refine ⟨by decide, fun _ => R_keepsBack A wx fun Z1 A2 B f1 => ?_, fun y => absurd (show (1 : Int) ≠ 0 by decide) y⟩
    refine R_cats0 (n := a.1.1) (W := a.1.2.1) (h := a.1.2.2.1) (K := a.1.2.2.2.1) (F := a.1.2.2.2.2.1) (P := a.1.2.2.2.2.2.1) (T := a.1.2.2.2.2.2.2) A2 wx.1.1 c fun Z2 C f2 => ?_
    obtain ⟨h1, h2⟩ := RXkeep (s' := gcat x a.1) A wx B f1 (f2.mono fun _ _ h => Or.inl h) C fun _ _ => rfl
    exact RM (gin_0.mpr c) h1 h2
  · exact ⟨by decide, fun y => absurd rfl y, fun _ => R_no (by decide) (RRc A wx (by unfold gin; rw [if_neg c]) (by decide))⟩
theorem J_hawk (A : RX Z a) (wx : WX a) (vx : VX a) : TI (d + 4) 203 [.inr 100] Z (PostR Z (oHawk a)) := by
  refine w203_0 (R_keepsBack A wx fun Z1 A2 B f1 => ?_)
  refine R_hawk0 (n := a.1.1) (W := a.1.2.1) (h := a.1.2.2.1) (K := a.1.2.2.2.1) (F := a.1.2.2.2.2.1) (P := a.1.2.2.2.2.2.1) (T := a.1.2.2.2.2.2.2) A2 wx.1.1 vx.1 fun Z2 C f2 => ?_
  obtain ⟨h1, h2⟩ := RXkeep (s' := ghawk a.1) A wx B f1 (f2.mono fun _ _ h => Or.inl h) C fun _ _ => rfl
  exact ⟨rfl, h1, h2⟩
theorem J_rain (A : RX Z a) (wx : WX a) (vx : VX a) : TI (d + 4) 204 [.inr 100] Z (PostR Z (oRain a)) := by
  refine w204_0 (R_keepsBack A wx fun Z1 A2 B f1 => ?_)
  refine R_rain0 (n := a.1.1) (W := a.1.2.1) (h := a.1.2.2.1) (K := a.1.2.2.2.1) (F := a.1.2.2.2.2.1) (P := a.1.2.2.2.2.2.1) (T := a.1.2.2.2.2.2.2) A2 wx.1.1 vx.1 fun Z2 C f2 => ?_
  obtain ⟨h1, h2⟩ := RXkeep (s' := grain a.1) A wx B f1 (f2.mono fun _ _ h => Or.inl h) C fun _ _ => rfl
  exact ⟨rfl, h1, h2⟩
theorem J_back (A : RX Z a) (wx : WX a) : TI (d + 3) 176 [.inr 100] Z (PostR Z (oBack a)) := by
  obtain ⟨a0, a1, a2, a3, a4, a5⟩ := id A
  obtain ⟨p1, p2, p3⟩ := a1
  have hn : a.1.1 ≤ 8 := wx.1.1.1.2
  refine w176_0 ?_
  rw [p1]
  refine ⟨by unfold zR; omega, fun c Z1 z1 => ?_, fun c => R_no (by decide) (RRc A wx (by rw [if_pos (by omega)]) (by decide))⟩
  have e19 : Z1 100 19 = a.2.1.1 - 1 := by subst z1; rw [zup_same]
  have F1 : ∀ p, p ≠ 19 → Z1 100 p = Z 100 p := fun p h => by subst z1; exact zup_place _ _ _ _ h
  have C1 : ∀ q : Nat, q ≠ 100 → Z1 q = Z q := fun q h => by subst z1; funext p; exact zup_cell _ _ _ _ h
  rw [e19]
  refine R_load (by omega) fun Z2 l => ?_
  have b1 := lodd.rf (s := gat a.1 (a.2.1.2.1 (a.2.1.1 - 1)) (a.2.1.2.2 (a.2.1.1 - 1))) hn (BF.keep hn (p3 (a.2.1.1 - 1) (by omega) (by omega)) fun p _ _ => by rw [C1 110 (by decide)]) l
  obtain ⟨s1, s2, s3, s4, s5, s6⟩ := l
  have e7 : Z2 100 7 = a.2.1.2.2 (a.2.1.1 - 1) := b1.2.2.1
  rw [e7]
  have G : ∀ p, p ≠ 5 → p ≠ 6 → p ≠ 7 → p ≠ 17 → p ≠ 18 → p ≠ 19 → Z2 100 p = Z 100 p := fun p h1 h2 h3 h4 h5 h6 => by rw [s5 p h1 h2 h3 h4 h5, F1 p h6]
  have C : ∀ q : Nat, q ≠ 100 → (q < 102 ∨ 105 < q) → Z2 q = Z q := fun q h1 h2 => by rw [s6 q h1 h2, C1 q h1]
  refine RM (by rw [if_neg c]) ⟨b1, ⟨by rw [s5 19 (by decide) (by decide) (by decide) (by decide) (by decide)]; exact e19, by dsimp only; omega, fun j h1 h2 => ?_⟩, RI.keep (fun e => (wx.2.2 e).1.1.2) a2 (G _ (by decide) (by decide) (by decide) (by decide) (by decide) (by decide)) (fun p _ => by rw [C _ (by decide) (by omega)]), RT.keep a3 (G _ (by decide) (by decide) (by decide) (by decide) (by decide) (by decide)) (C _ (by decide) (by omega)), RR.keep a4 (G _ (by decide) (by decide) (by decide) (by decide) (by decide) (by decide)) (C _ (by decide) (by omega)), RB.keep a5 (C _ (by decide) (by omega))⟩ fun q hq => C q (by omega) (by omega)
  have h2 : j < a.2.1.1 - 1 := h2
  exact BF.keep hn (p3 j h1 (by omega)) fun p _ _ => by rw [C _ (by decide) (by omega)]
theorem J_image (A : RX Z a) (wx : WX a) : TI (d + 3) 177 [.inr 100] Z (PostR Z (oImage a)) := by
  obtain ⟨a0, a1, a2, a3, a4, a5⟩ := id A
  have hn : a.1.1 ≤ 8 := wx.1.1.1.2
  refine w177_0 fun Z1 z1 => ?_
  have F1 : ∀ p, p ≠ 16 → Z1 100 p = Z 100 p := fun p h => by subst z1; exact zup_place _ _ _ _ h
  have C1 : ∀ q : Nat, q ≠ 100 → Z1 q = Z q := fun q h => by subst z1; funext p; exact zup_cell _ _ _ _ h
  have r1 : RFs Z1 a.1 := RF.keep a0 (C1 _ (by decide)) (C1 _ (by decide)) (C1 _ (by decide)) (C1 _ (by decide)) (F1 _ (by decide)) (F1 _ (by decide)) (F1 _ (by decide))
  refine R_save (by decide) fun Z2 s => ?_
  obtain ⟨b1, b2⟩ := savd.bf hn r1 s
  obtain ⟨s1, s2, s3, s4, s5, s6⟩ := s
  have e7 : Z2 100 7 = a.1.2.2.1 := b2.2.2.1
  rw [e7]
  have G : ∀ p, p ≠ 17 → p ≠ 18 → p ≠ 16 → Z2 100 p = Z 100 p := fun p h4 h5 h6 => by rw [s5 p h4 h5, F1 p h6]
  have C : ∀ q : Nat, q ≠ 100 → q ≠ 110 → Z2 q = Z q := fun q h1 h2 => by rw [s6 q h1 h2, C1 q h1]
  exact ⟨rfl, ⟨b2, RP.keep hn a1 (G _ (by decide) (by decide) (by decide)) (fun p hp => by rw [s4 p (by omega), C1 _ (by decide)]), ⟨by rw [s5 16 (by decide) (by decide)]; subst z1; rw [zup_same]; rfl, Or.inr rfl, fun _ => b1⟩, RT.keep a3 (G _ (by decide) (by decide) (by decide)) (C _ (by decide) (by decide)), RR.keep a4 (G _ (by decide) (by decide) (by decide)) (C _ (by decide) (by decide)), RB.keep a5 (C _ (by decide) (by decide))⟩, fun q hq => C q (by omega) (by omega)⟩
theorem J_restore (A : RX Z a) (wx : WX a) : TI (d + 3) 178 [.inr 100] Z (PostR Z (oRestore a)) := by
  obtain ⟨a0, a1, a2, a3, a4, a5⟩ := id A
  obtain ⟨i1, i2, i3⟩ := id a2
  refine w178_0 ?_
  rw [i1]
  refine ⟨by unfold zR; omega, fun c => ?_, fun c => R_no (by decide) (RRc A wx (by rw [if_pos (by omega)]) (by decide))⟩
  have im : a.2.2.1.1 = 1 := by omega
  have hs : a.2.2.1.2.1 ≤ 8 := (wx.2.2 im).1.1.2
  refine R_load (by decide) fun Z1 l Z2 z2 => ?_
  have b1 := lodd.rf hs (i3 im) l
  have f := l.fr
  have B : RY Z1 a := A.2.keep wx fun q p h => f q p (ST_SY h)
  have r := RY19 (p := a.2.1.2) b1 B fun _ => hs
  rw [← z2] at r
  have e7 : Z2 100 7 = a.2.2.1.2.2.2.1 := r.1.2.2.1
  rw [e7]
  exact RM (by rw [if_neg c]) r fun q hq => by
    subst z2; funext p; rw [zup_cell _ _ _ _ (by omega)]; exact f q p (by unfold ST; omega)
theorem J_count {x : Int} (A : RX Z a) (wx : WX a) (hx : zR x) : TI (d + 4) 273 [.inr 100, .inl x] Z (PostR Z (oCount a x)) := by
  have A1 : RFs Z a.1 := A.1
  obtain ⟨e5, e6, e7, _, _⟩ := id A1
  have t1 : Z 100 12 = _ := A.2.2.2.1.1
  have r1 : Z 100 26 = _ := A.2.2.2.2.1.1
  have k1 : Z 100 19 = _ := A.2.1.1
  have P : ∀ v, v = gcount a x → PostR Z (oCount a x) v Z := fun v e => ⟨e, A, fun _ _ => rfl⟩
  have S : ∀ Q : Int → zM → Prop, Q (gshows a.1) Z → TI (d + 3) 161 [.inr 100] Z Q := fun Q h => R_shown (n := a.1.1) (W := a.1.2.1) (h := a.1.2.2.1) (K := a.1.2.2.2.1) (F := a.1.2.2.2.2.1) (P := a.1.2.2.2.2.2.1) (T := a.1.2.2.2.2.2.2) A1 wx.1.1 h
  have E : ∀ Q : Int → zM → Prop, Q (gerrs a.1) Z → TI (d + 3) 162 [.inr 100] Z Q := fun Q h => R_wrong (d := d + 2) (n := a.1.1) (W := a.1.2.1) (h := a.1.2.2.1) (K := a.1.2.2.2.1) (F := a.1.2.2.2.2.1) (P := a.1.2.2.2.2.2.1) (T := a.1.2.2.2.2.2.2) A1 wx.1.1 h
  unfold gcount at P
  refine w273_0 (R_isIn hx (by decide) (by decide) (fun c => ?_) (fun c => ?_))
  · refine ⟨by decide, fun y => absurd y (by decide), fun _ => ⟨by omega, ?_⟩⟩
    rw [A.2.2.2.2.2 (x - 10) (by omega) (by omega)]
    exact P _ (by rw [if_pos c])
  · rw [if_neg c] at P
    rw [e5, e6, e7, t1, r1, k1]
    refine ⟨by decide, fun _ => ⟨hx, fun c => P _ (by rw [if_pos c]), fun c => P _ (by subst c; rfl), fun c => P _ (by subst c; rfl), fun c => S _ (P _ (by subst c; rfl)), fun c => E _ (P _ (by subst c; rfl)), fun c => P _ (by subst c; rfl), fun c => P _ (by subst c; rfl), fun c => P _ (by subst c; rfl), fun c => P _ ?_⟩, fun y => absurd rfl y⟩
    rw [if_neg c.1, if_neg c.2.1, if_neg c.2.2.1, if_neg c.2.2.2.1, if_neg c.2.2.2.2.1, if_neg c.2.2.2.2.2.1, if_neg c.2.2.2.2.2.2.1, if_neg c.2.2.2.2.2.2.2]
end
