/-! LOOKS with their very answers: the watch -/
def gwm (a : gX) (k : Int) : Nat → Int
  | 0 => gfl a (-1)
  | m + 1 => if (m : Int) = k then gwm a k m else max (gwm a k m) (gfl a m)
def gwr (a : gX) (k : Int) : Nat → Int
  | 0 => 0
  | m + 1 => max (gwr a k m) (if k = (m : Int) then gfl a (-1) else gfl a m)
theorem gfl_b {a : gX} {w : Int} : 0 ≤ gfl a w ∧ gfl a w ≤ 6 := gerrs_b
theorem gwr_b {a : gX} {k : Int} : ∀ m : Nat, 0 ≤ gwr a k m ∧ gwr a k m ≤ 6
  | 0 => by unfold gwr; decide
  | m + 1 => by
    have := gwr_b (a := a) (k := k) m
    have b1 := @gfl_b a (-1)
    have b2 := @gfl_b a m
    unfold gwr
    split <;> omega
theorem gwm_r {a : gX} {k : Int} : ∀ m : Nat, (k < m ∧ 0 ≤ k → gwm a k m = gwr a k m) ∧ ((m : Int) ≤ k → gwm a k m = max (gfl a (-1)) (gwr a k m))
  | 0 => by
    have b1 := @gfl_b a (-1)
    refine ⟨fun h => by omega, fun _ => ?_⟩
    show gfl a (-1) = max (gfl a (-1)) 0
    omega
  | m + 1 => by
    obtain ⟨i1, i2⟩ := gwm_r (a := a) (k := k) m
    have e1 : gwm a k (m + 1) = if (m : Int) = k then gwm a k m else max (gwm a k m) (gfl a m) := rfl
    have e2 : gwr a k (m + 1) = max (gwr a k m) (if k = (m : Int) then gfl a (-1) else gfl a m) := rfl
    rw [e1, e2]
    refine ⟨fun h => ?_, fun h => ?_⟩
    · by_cases c : (m : Int) = k
      · rw [if_pos c, if_pos c.symm, i2 (by omega)]; omega
      · rw [if_neg c, if_neg (fun x => c x.symm), i1 (by omega)]
    · rw [if_neg (by omega), if_neg (by omega), i2 (by omega)]; omega
def gwA (a : gX) (k : Int) : Int := gwm a k 5
theorem gwA_r {a : gX} {k : Int} (h : 0 ≤ k ∧ k < 5) : gwA a k = gwr a k 5 := (gwm_r 5).1 ⟨h.2, h.1⟩
theorem gwA_b {a : gX} {k : Int} (h : 0 ≤ k ∧ k < 5) : 0 ≤ gwA a k ∧ gwA a k ≤ 6 := by
  rw [gwA_r h]; exact gwr_b 5
def gwi (a : gX) : Nat → Nat
  | 0 => 0
  | m + 1 => if gwA a (gwi a m : Int) ≤ gwA a (m : Int) then gwi a m else m
theorem gwi_b {a : gX} : ∀ m : Nat, gwi a m ≤ m - 1
  | 0 => Nat.le_refl _
  | m + 1 => by
    have := gwi_b (a := a) m
    unfold gwi
    split <;> omega
def gws (a : gX) : Nat → Int
  | 0 => 0
  | m + 1 => max (gws a m) (min (gfl a (-1)) (gfl a m))
theorem gws_b {a : gX} : ∀ m : Nat, 0 ≤ gws a m ∧ gws a m ≤ 6
  | 0 => by unfold gws; decide
  | m + 1 => by
    have := gws_b (a := a) m
    have b1 := @gfl_b a (-1)
    have b2 := @gfl_b a m
    unfold gws
    omega
def vWatch (a : gX) (x1 : Int) : Int := if x1 = 0 then gwA a (gwi a 5 : Int) else if x1 = 1 then (gwi a 5 : Int) else gws a 5
section
variable {d : Nat} {Z Z1 Z2 : zM} {a : gX} {s : gS} {i : Int}
theorem F_most {k : Nat} {Q : Int → zM → Prop} (hk : k < 5) (h4 : ∀ j, 0 ≤ j → j < 5 → Z1 44 j = gfl a j) (hQ : Q (gwA a k) Z1) : TI (d + 1) 121 [.inr 0, .inl (k : Int), .inl (gfl a (-1))] Z1 Q := by
  have zr : ∀ w, zR (gfl a w) := fun w => by have := @gfl_b a w; unfold zR; omega
  refine w121_0 ?_
  suffices H : ∀ (f m : Nat) (x4 : Int), x4 = m → f = 5 - m → m ≤ 5 → zR (gwm a k m) → TZ (d + 1) 121 5 [some (.inr 0), some (.inl (k : Int)), some (.inl (gfl a (-1))), some (.inl (gwm a k m)), some (.inl x4)] [] Z1 (zri Q) from H 5 0 0 rfl rfl (by decide) (zr _)
  intro f
  induction f with
  | zero =>
    intro m x4 e y1 y2 zm
    have em : m = 5 := by omega
    subst em
    exact w121_5 ⟨by unfold zR; omega, fun _ => hQ, fun z => absurd (show 5 ≤ x4 by omega) z⟩
  | succ f ih =>
    intro m x4 e y1 y2 zm
    have st : gwm a k (m + 1) = if (m : Int) = (k : Int) then gwm a k m else max (gwm a k m) (gfl a m) := rfl
    have v := h4 x4 (by omega) (by omega)
    refine w121_5 ⟨by unfold zR; omega, fun c => by omega, fun z => ⟨by unfold zR; omega, by unfold zR; omega, fun c => ?_, fun c => ⟨by omega, zm, by rw [v]; exact zr _, ?_⟩⟩⟩
    · have := ih (m + 1) (x4 + 1) (by omega) (by omega) (by omega)
      rw [st, if_pos (by omega)] at this
      exact this zm
    · have := ih (m + 1) (x4 + 1) (by omega) (by omega) (by omega)
      rw [st, if_neg (by omega)] at this
      rw [v, e]
      rw [← e] at this ⊢
      refine this ?_
      have b := @gfl_b a x4
      unfold zR at zm ⊢; omega
theorem X_watch {x1 : Int} (A : CX Z a) (wx : WX a) (h1 : zR x1) : TI (d + 6) 120 [.inr 0, .inl x1] Z (PostC Z (oq a (gunk x1 2) (vWatch a x1))) := by
  have hW : 5 ≤ a.1.2.1 ∧ a.1.2.1 ≤ 6 := wx.1.1.2.1
  have zr : ∀ w, zR (gfl a w) := fun w => by have := @gfl_b a w; unfold zR; omega
  refine w120_0 (C_unknown h1 (by decide) ⟨zR9 gb2, fun c => ?_, fun c => C_refuse (by have := @gb2 x1 2; omega) (PRq A c gb2)⟩)
  have x1b := gunk_0.mp c
  refine F_fed A wx (frs.refl _ _) (by omega) fun Z2 m _ => ⟨rfl, F_errs m (gpass_w wx (by omega)) ?_⟩
  show TZ (d + 6) 120 28 [some (.inr 0), some (.inl x1), some (.inl (gunk x1 2)), some (.inl (gfl a (-1))), some (.inl 0), none, none, none] [] Z2 _
  suffices H : ∀ (f k : Nat) (x4 : Int) (Z1 : zM), x4 = k → f = 5 - k → k ≤ 5 → frs SQ Z Z1 → (∀ j : Int, 0 ≤ j → j < k → Z1 44 j = gfl a j) → TZ (d + 6) 120 28 [some (.inr 0), some (.inl x1), some (.inl (gunk x1 2)), some (.inl (gfl a (-1))), some (.inl x4), none, none, none] [] Z1 (zri (PostC Z (oq a (gunk x1 2) (vWatch a x1)))) from H 5 0 0 Z2 rfl rfl (by decide) m.1 (fun j y1 y2 => by omega)
  intro f
  induction f with
  | zero =>
    intro k x4 Z1 e y1 y2 f1 h4
    have h4 : ∀ j : Int, 0 ≤ j → j < 5 → Z1 44 j = gfl a j := fun j j1 j2 => h4 j j1 (by omega)
    have ok := PQ (v := vWatch a x1) A c f1
    unfold vWatch at ok ⊢
    refine w120_28 ⟨by unfold zR; omega, fun _ => ⟨h1, fun q => ?_, fun q => ?_⟩, fun y => absurd (show 5 ≤ x4 by omega) y⟩
    · -- the best to keep
      have tail : ∀ (f m : Nat) (x6 : Int) (o7 : Option zV), x6 = (m : Int) + 1 → f = 4 - m → m ≤ 4 → TZ (d + 6) 120 78 [some (.inr 0), some (.inl x1), some (.inl (gunk x1 2)), some (.inl (gfl a (-1))), some (.inl (gwA a (gwi a (m + 1) : Int))), some (.inl (gwi a (m + 1) : Int)), some (.inl x6), o7] [] Z1 (zri (PostC Z (oq a (gunk x1 2) (if x1 = 0 then gwA a (gwi a 5 : Int) else if x1 = 1 then (gwi a 5 : Int) else gws a 5)))) := by
        intro f
        induction f with
        | zero =>
          intro m x6 o7 e z1 z2
          have em : m = 4 := by omega
          subst em
          refine w120_78 ⟨by unfold zR; omega, fun _ => ⟨h1, fun q2 => ?_, fun q2 => ?_⟩, fun z => absurd (show 5 ≤ x6 by omega) z⟩
          · rw [if_neg q2, if_pos (by omega)] at ok ⊢; exact ok
          · rw [if_pos (by omega)] at ok ⊢; exact ok
        | succ f ih =>
          intro m x6 o7 e z1 z2
          have ib := gwi_b (a := a) (m + 1)
          have gA := gwA_b (a := a) (k := (gwi a (m + 1) : Int)) (by omega)
          have gA2 := gwA_b (a := a) (k := x6) (by omega)
          have st : gwi a (m + 1 + 1) = if gwA a (gwi a (m + 1) : Int) ≤ gwA a ((m + 1 : Nat) : Int) then gwi a (m + 1) else m + 1 := rfl
          have e' : x6 = ((m + 1 : Nat) : Int) := by omega
          refine w120_78 ⟨by unfold zR; omega, fun c => by omega, fun z => ?_⟩
          rw [e']
          refine F_most (by omega) h4 ⟨by rw [← e']; unfold zR; omega, by unfold zR; omega, fun q2 => ?_, fun q2 => ?_⟩
          · have := ih (m + 1) (((m + 1 : Nat) : Int) + 1) (some (.inl (gwA a ((m + 1 : Nat) : Int)))) (by omega) (by omega) (by omega)
            rw [st, if_pos q2] at this; exact this
          · have := ih (m + 1) (((m + 1 : Nat) : Int) + 1) (some (.inl (gwA a ((m + 1 : Nat) : Int)))) (by omega) (by omega) (by omega)
            rw [st, if_neg q2] at this; exact this
      have gA := gwA_b (a := a) (k := 0) (by decide)
      have i1 : gwi a 1 = 0 := by
        show (if gwA a ((0 : Nat) : Int) ≤ gwA a ((0 : Nat) : Int) then 0 else 0) = 0
        split <;> rfl
      have t0 := tail 4 0 1 (some (.inl (gwA a 0))) rfl rfl (by decide)
      rw [show (0 : Nat) + 1 = 1 from rfl, i1] at t0
      refine w120_78 ⟨by decide, fun c => absurd c (by decide), fun _ => ?_⟩
      refine F_most (k := 0) (by decide) h4 ⟨by show zR (gwA a 0); unfold zR; omega, by decide, fun q2 => absurd q2 (by show ¬ 1000000 ≤ gwA a 0; omega), fun _ => t0⟩
    · refine w122_0 ?_
      rw [if_neg (by omega), if_neg (by omega)] at ok ⊢
      suffices H : ∀ (f m : Nat) (x3 : Int), x3 = m → f = 5 - m → m ≤ 5 → TZ (d + 5) 122 4 [some (.inr 0), some (.inl (gfl a (-1))), some (.inl (gws a m)), some (.inl x3)] [] Z1 (zri (PostC Z (oq a (gunk x1 2) (gws a 5)))) from H 5 0 0 rfl rfl (by decide)
      intro f
      induction f with
      | zero =>
        intro m x3 e z1 z2
        have em : m = 5 := by omega
        subst em
        exact w122_4 ⟨by unfold zR; omega, fun _ => ok, fun z => absurd (show 5 ≤ x3 by omega) z⟩
      | succ f ih =>
        intro m x3 e z1 z2
        have v := h4 x3 (by omega) (by omega)
        have b1 := @gfl_b a (-1)
        have b2 := @gfl_b a x3
        have b3 := gws_b (a := a) m
        have := ih (m + 1) (x3 + 1) (by omega) (by omega) (by omega)
        have st : gws a (m + 1) = max (gws a m) (min (gfl a (-1)) (gfl a m)) := rfl
        rw [st, ← e] at this
        refine w122_4 ⟨by unfold zR; omega, fun c => by omega, fun z => ⟨by omega, zr _, by rw [v]; exact zr _, by unfold zR; omega, by rw [v]; unfold zR; omega, ?_⟩⟩
        rw [v]; exact this
  | succ f ih =>
    intro k x4 Z1 e y1 y2 f1 h4
    refine w120_28 ⟨by unfold zR; omega, fun z => by omega, fun _ => F_fed A wx f1 (by omega) fun Z3 m3 k3 => ⟨rfl, F_errs m3 (gpass_w wx (by omega)) ⟨by omega, fun Z4 z4 => ih (k + 1) (x4 + 1) Z4 (by omega) (by omega) (by omega) (fun q hq => by subst z4; funext p; rw [zup_cell _ _ _ _ (SQ44 hq), m3.1 q hq]) fun j j1 j2 => ?_⟩⟩⟩
    subst z4
    by_cases e2 : j = x4
    · subst e2; rw [zup_same]; rfl
    · rw [zup_place _ _ _ _ e2, k3 44 (by decide)]; exact h4 j j1 (by omega)
theorem G_245 {x1 x2 : Int} {Q : Int → zM → Prop} (m : QS Z Z1 a) (wx : WX a) (h1 : zR x1) (h2 : 0 ≤ x2 ∧ x2 < 5) (hQ : ∀ Z2, QS Z Z2 a → Q (if x1 = x2 then gfl a (-1) else gfl a x2) Z2) : TI (d + 5) 245 [.inr 100, .inl x1, .inl x2] Z1 Q := by
  have hW : 5 ≤ a.1.2.1 ∧ a.1.2.1 ≤ 6 := wx.1.1.2.1
  refine w245_0 ⟨h1, by unfold zR; omega, fun c => G_220 m wx (by omega) fun Z2 l => ?_, fun c => G_220 m wx (by omega) fun Z2 l => ?_⟩
  · have := hQ Z2 l
    rw [if_neg c] at this; exact this
  · have := hQ Z2 l
    rw [if_pos (by omega)] at this; exact this
theorem G_246 {x1 : Int} {Q : Int → zM → Prop} (m : QS Z Z1 a) (wx : WX a) (h1 : 0 ≤ x1 ∧ x1 < 5) (hQ : ∀ Z2, QS Z Z2 a → Q (gwA a x1) Z2) : TI (d + 6) 246 [.inr 100, .inl x1] Z1 Q := by
  refine w246_0 ?_
  suffices H : ∀ (f k : Nat) (x3 : Int) (Z1 : zM), x3 = k → f = 5 - k → k ≤ 5 → QS Z Z1 a → TZ (d + 6) 246 4 [some (.inr 100), some (.inl x1), some (.inl (gwr a x1 k)), some (.inl x3)] [] Z1 (zri Q) from H 5 0 0 Z1 rfl rfl (by decide) m
  intro f
  induction f with
  | zero =>
    intro k x3 Z1 e y1 y2 l
    have ek : k = 5 := by omega
    subst ek
    have := hQ Z1 l
    rw [gwA_r h1] at this
    exact w246_4 ⟨by unfold zR; omega, fun _ => this, fun z => absurd (show 5 ≤ x3 by omega) z⟩
  | succ f ih =>
    intro k x3 Z1 e y1 y2 l
    have b1 := @gfl_b a (-1)
    have b2 := @gfl_b a x3
    have b3 := gwr_b (a := a) (k := x1) k
    have st : gwr a x1 (k + 1) = max (gwr a x1 k) (if x1 = (k : Int) then gfl a (-1) else gfl a k) := rfl
    rw [← e] at st
    have wb : 0 ≤ (if x1 = x3 then gfl a (-1) else gfl a x3) ∧ (if x1 = x3 then gfl a (-1) else gfl a x3) ≤ 6 := by split <;> omega
    refine w246_4 ⟨by unfold zR; omega, fun c => by omega, fun _ => G_245 l wx (by unfold zR; omega) (by omega) fun Z2 l2 => ⟨by unfold zR; omega, by unfold zR; omega, fun q => ?_, fun q => G_245 l2 wx (by unfold zR; omega) (by omega) fun Z3 l3 => ?_⟩⟩
    · have := ih (k + 1) (x3 + 1) Z2 (by omega) (by omega) (by omega) l2
      rw [st, Int.max_eq_left q] at this; exact this
    · have := ih (k + 1) (x3 + 1) Z3 (by omega) (by omega) (by omega) l3
      rw [st, Int.max_eq_right (by omega)] at this; exact this
theorem G_247 {x1 : Int} {Q : Int → zM → Prop} (m : QS Z Z1 a) (wx : WX a) (h1 : 0 ≤ x1 ∧ x1 < 5) (hQ : ∀ Z2, QS Z Z2 a → Q (min (gfl a (-1)) (gfl a x1)) Z2) : TI (d + 6) 247 [.inr 100, .inl x1] Z1 Q := by
  have b1 := @gfl_b a (-1)
  have b2 := @gfl_b a x1
  refine w247_0 ?_
  suffices H : ∀ (f : Nat) (x2 x3 : Int) (Z1 : zM), f = (5 - x3).toNat → 0 ≤ x3 → x3 ≤ 5 → ((x3 = 0 ∧ x2 = 12) ∨ (1 ≤ x3 ∧ x3 ≤ x1 ∧ x2 = gfl a x1) ∨ (x3 = 1 ∧ x1 = 0 ∧ x2 = gfl a (-1)) ∨ (2 ≤ x3 ∧ x1 < x3 ∧ x2 = min (gfl a (-1)) (gfl a x1))) → QS Z Z1 a → TZ (d + 6) 247 5 [some (.inr 100), some (.inl x1), some (.inl x2), some (.inl x3)] [] Z1 (zri Q) from H 5 12 0 Z1 rfl (by decide) (by decide) (Or.inl ⟨rfl, rfl⟩) m
  intro f
  induction f with
  | zero =>
    intro x2 x3 Z1 ef y1 y2 y3 l
    have := hQ Z1 l
    rw [show min (gfl a (-1)) (gfl a x1) = x2 by omega] at this
    exact w247_5 ⟨by unfold zR; omega, fun _ => this, fun z => absurd (show 5 ≤ x3 by omega) z⟩
  | succ f ih =>
    intro x2 x3 Z1 ef y1 y2 y3 l
    refine w247_5 ⟨by unfold zR; omega, fun c => by omega, fun _ => G_245 l wx (by unfold zR; omega) h1 fun Z2 l2 => ?_⟩
    by_cases c : x3 = x1
    · rw [if_pos c]
      exact R_lesser (by unfold zR; omega) (by unfold zR; omega) (ih _ _ Z2 (by omega) (by omega) (by omega) (by omega) l2)
    · rw [if_neg c]
      exact R_lesser (by unfold zR; omega) (by unfold zR; omega) (ih _ _ Z2 (by omega) (by omega) (by omega) (by omega) l2)
theorem Y_watch {x1 : Int} (A : RX Z a) (wx : WX a) (h1 : zR x1) : TI (d + 7) 248 [.inr 100, .inl x1] Z (PostR Z (oq a (gunk x1 2) (vWatch a x1))) := by
  have m := QS.refl A
  refine w248_0 (R_isIn h1 (by decide) (by decide) (fun i => ⟨by decide, fun _ => ?_, fun e => absurd (show (1 : Int) ≠ 0 by decide) e⟩) (fun i => ⟨by decide, fun e => absurd rfl e, fun _ => G_no m wx (gu2 i) (by decide)⟩))
  have hc := gunk_0.mpr i
  suffices H : ∀ (f k : Nat) (x4 : Int) (Z1 : zM), x4 = k → f = 5 - k → k ≤ 5 → QS Z Z1 a → TZ (d + 7) 248 23 [some (.inr 100), some (.inl x1), some (.inl (gwi a k : Int)), some (.inl (gws a k)), some (.inl x4)] [] Z1 (zri (PostR Z (oq a (gunk x1 2) (vWatch a x1)))) from H 5 0 0 Z rfl rfl (by decide) m
  intro f
  induction f with
  | zero =>
    intro k x4 Z1 e y1 y2 l
    have ek : k = 5 := by omega
    subst ek
    have ib := gwi_b (a := a) 5
    refine w248_23 ⟨by unfold zR; omega, fun _ => ⟨h1, fun q => ⟨h1, fun q2 => ?_, fun q2 => ?_⟩, fun q => G_246 l wx (by omega) fun Z2 l2 => ?_⟩, fun z => absurd (show 5 ≤ x4 by omega) z⟩
    · have ok := G_ok (v := vWatch a x1) l hc
      unfold vWatch at ok ⊢
      rw [if_neg q, if_neg q2] at ok ⊢; exact ok
    · have ok := G_ok (v := vWatch a x1) l hc
      unfold vWatch at ok ⊢
      rw [if_neg q, if_pos (by omega)] at ok ⊢; exact ok
    · have ok := G_ok (v := vWatch a x1) l2 hc
      unfold vWatch at ok ⊢
      rw [if_pos (by omega)] at ok ⊢; exact ok
  | succ f ih =>
    intro k x4 Z1 e y1 y2 l
    have ib := gwi_b (a := a) k
    have gA := gwA_b (a := a) (k := (gwi a k : Int)) (by omega)
    have gA2 := gwA_b (a := a) (k := x4) (by omega)
    have b1 := @gfl_b a (-1)
    have b2 := @gfl_b a x4
    have b3 := gws_b (a := a) k
    have st : gwi a (k + 1) = if gwA a (gwi a k : Int) ≤ gwA a (k : Int) then gwi a k else k := rfl
    have st2 : gws a (k + 1) = max (gws a k) (min (gfl a (-1)) (gfl a k)) := rfl
    rw [← e] at st st2
    refine w248_23 ⟨by unfold zR; omega, fun c => by omega, fun _ => G_246 l wx (by omega) fun Z2 l2 => G_246 l2 wx (by omega) fun Z3 l3 => ⟨by unfold zR; omega, by unfold zR; omega, fun q => G_247 l3 wx (by omega) fun Z4 l4 => ⟨by unfold zR; omega, by unfold zR; omega, fun q2 => ?_, fun q2 => G_247 l4 wx (by omega) fun Z5 l5 => ?_⟩, fun q => G_247 l3 wx (by omega) fun Z4 l4 => ⟨by unfold zR; omega, by unfold zR; omega, fun q2 => ?_, fun q2 => G_247 l4 wx (by omega) fun Z5 l5 => ?_⟩⟩⟩
    · have := ih (k + 1) (x4 + 1) Z4 (by omega) (by omega) (by omega) l4
      rw [st, st2, if_pos q, Int.max_eq_left q2] at this; exact this
    · have := ih (k + 1) (x4 + 1) Z5 (by omega) (by omega) (by omega) l5
      rw [st, st2, if_pos q, Int.max_eq_right (by omega)] at this; exact this
    · have := ih (k + 1) (x4 + 1) Z4 (by omega) (by omega) (by omega) l4
      rw [st, st2, if_neg q, Int.max_eq_left q2, ← e] at this; exact this
    · have := ih (k + 1) (x4 + 1) Z5 (by omega) (by omega) (by omega) l5
      rw [st, st2, if_neg q, Int.max_eq_right (by omega), ← e] at this; exact this
end
