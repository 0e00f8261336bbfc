/-! LOOKS with their very answers, sixth part: the row against the hours -/
def gun (r : Int → Int) : Nat → Int → gS → Int
  | 0, _, _ => -9
  | f + 1, i, s => if gshows s = r i then gun r f (i + 1) (gpass (-1) s) else i
def vJudge (a : gX) : Int := gun a.2.2.2.2.1.2 a.2.2.2.2.1.1.toNat 0 a.1
section
variable {d : Nat} {Z Z1 Z2 : zM} {a : gX} {s : gS} {i : Int}
theorem F_unlike {Q : Int → zM → Prop} (A : CX Z a) (m : MF Z Z1 s) (wf : WFs s) (hh : s.2.2.1 ≤ 999) (hQ : ∀ Z', frs SQ Z Z' → Q (gun a.2.2.2.2.1.2 a.2.2.2.2.1.1.toNat 0 s) Z') : TI (d + 4) 111 [.inr 0, .inr 19] Z1 Q := by
  obtain ⟨_, rb, _⟩ := rowR A (frs.refl SQ Z)
  refine w111_0 zF19 ?_
  suffices H : ∀ (f : Nat) (x2 : Int) (s' : gS) (Z2 : zM), f = (a.2.2.2.2.1.1 - x2).toNat → 0 ≤ x2 → x2 ≤ a.2.2.2.2.1.1 → MF Z Z2 s' → WFs s' → s'.2.2.1 ≤ 999 + x2 → gun a.2.2.2.2.1.2 f x2 s' = gun a.2.2.2.2.1.2 a.2.2.2.2.1.1.toNat 0 s → TZ (d + 4) 111 2 [some (.inr 0), some (.inr 19), some (.inl x2)] [] Z2 (zri Q) from H _ 0 s Z1 rfl (by decide) (by omega) m wf (by omega) (by rw [Int.sub_zero])
  intro f
  induction f with
  | zero =>
    intro x2 s' Z2 ef y1 y2 m2 w2 h2 hv
    obtain ⟨r1, r2, r3⟩ := rowR A m2.1
    have e : a.2.2.2.2.1.1 ≤ x2 := by omega
    have hv : gun a.2.2.2.2.1.2 a.2.2.2.2.1.1.toNat 0 s = -9 := hv.symm
    have hQ := hQ Z2 m2.1
    rw [hv] at hQ
    refine w111_2 zF19 ?_
    rw [r1]
    exact ⟨by unfold zR; omega, by unfold zR; omega, fun _ => hQ, fun y => absurd e y⟩
  | succ f ih =>
    intro x2 s' Z2 ef y1 y2 m2 w2 h2 hv
    obtain ⟨r1, r2, r3⟩ := rowR A m2.1
    have hW : 5 ≤ s'.2.1 ∧ s'.2.1 ≤ 6 := w2.2.1
    have sb : 0 ≤ gshows s' ∧ gshows s' < 12 := gshow_b w2
    have row : Z2 40 x2 = a.2.2.2.2.1.2 x2 := by
      have := ((A.frame (Z' := Z2) fun q hq => m2.1 q (by unfold SQ; omega)).2.2.2.2.1.2.2 x2 y1 (by omega)).1
      exact this
    have st : gun a.2.2.2.2.1.2 (f + 1) x2 s' = if gshows s' = a.2.2.2.2.1.2 x2 then gun a.2.2.2.2.1.2 f (x2 + 1) (gpass (-1) s') else x2 := rfl
    rw [st] at hv
    refine w111_2 zF19 ?_
    rw [r1]
    refine ⟨by unfold zR; omega, by unfold zR; omega, fun q => absurd q (by omega), fun _ => F_shows m2 w2 ⟨by omega, by unfold zR; omega, r3 x2 y1 (by omega), fun q => F_passf m2 w2 (by omega) (by omega) fun r Z3 m3 _ => ?_, fun q => ?_⟩⟩
    · rw [row] at q
      rw [if_pos q] at hv
      have hs : (gpass (-1) s').2.2.1 = s'.2.2.1 + 1 := by obtain ⟨n, W, h, K, F, P, T⟩ := s'; rfl
      exact ih _ _ Z3 (by omega) (by omega) (by omega) m3 (gpass_wf w2 (by omega) (by omega)) (by omega) hv
    · rw [row] at q
      rw [if_neg q] at hv
      rw [hv]; exact hQ Z2 m2.1
theorem X_judge (A : CX Z a) (wx : WX a) : TI (d + 6) 146 [.inr 0] Z (PostC Z (vJudge a, oemp a)) := by
  refine w146_0 (F_think A wx (frs.refl _ _) fun Z' m _ => ⟨rfl, F_unlike A m wx.1.1 wx.1.2 fun Z2 f2 Z3 z3 => ⟨rfl, ?_, fun q hq => ?_⟩⟩)
  · subst z3
    exact CX39 (A.frame fun q hq => f2 q (by unfold SQ; omega))
  · subst z3; funext p; rw [zup_cell _ _ _ _ (by omega), f2 q (by unfold SQ; omega)]
theorem gun_gh {r : Int → Int} (f : Nat) (i : Int) (hi : 0 ≤ i) : gun r (f + 1) i (gh a i) = if gshows (gh a i) = r i then gun r f (i + 1) (gh a (i + 1)) else i := by
  show (if gshows (gh a i) = r i then gun r f (i + 1) (gpass (-1) (gh a i)) else i) = _
  rw [gh_s hi]
theorem Y_judge (A : RX Z a) (wx : WX a) : TI (d + 5) 270 [.inr 100] Z (PostR Z (vJudge a, oemp a)) := by
  obtain ⟨rb, rv⟩ := (QS.refl A).row
  have e26 := (QS.refl A).now.2.2.2
  refine w270_0 fun Z1 z1 => ?_
  have l1 : QS Z Z1 (oemp a) := by
    subst z1
    exact ⟨RY26 A wx, fun q hq => funext fun p => zup_cell _ _ _ _ (by omega)⟩
  rw [e26]
  refine G_205 l1 (oemp_w wx) (by omega) fun Z2 l hf hs => ?_
  suffices H : ∀ (f : Nat) (x2 : Int), f = (a.2.2.2.2.1.1 - x2).toNat → 0 ≤ x2 → x2 ≤ a.2.2.2.2.1.1 → gun a.2.2.2.2.1.2 f x2 (gh a x2) = vJudge a → TZ (d + 5) 270 17 [some (.inr 100), some (.inl a.2.2.2.2.1.1), some (.inl x2)] [] Z2 (zri (PostR Z (vJudge a, oemp a))) from H _ 0 rfl (by decide) (by omega) (by rw [Int.sub_zero]; rfl)
  intro f
  induction f with
  | zero =>
    intro x2 ef y1 y2 hv
    have hv : vJudge a = -9 := hv.symm
    exact w270_17 ⟨by unfold zR; omega, by unfold zR; omega, fun _ => by rw [hv]; exact ⟨rfl, l.1, l.2⟩, fun c => absurd (show a.2.2.2.2.1.1 ≤ x2 by omega) c⟩
  | succ f ih =>
    intro x2 ef y1 y2 hv
    have sh : Z2 111 x2 = gshows (gh a x2) := (hf x2 y1 (by omega)).1
    have sb : 0 ≤ gshows (gh a x2) ∧ gshows (gh a x2) < 12 := gshow_b (gh_w wx (by omega))
    have rw1 := rv x2 y1 (by omega)
    have row : Z2 116 x2 = a.2.2.2.2.1.2 x2 := by rw [hs 116 (by decide), z1, zup_cell _ _ _ _ (by decide)]; exact rw1.1
    have rowb : 0 ≤ a.2.2.2.2.1.2 x2 ∧ a.2.2.2.2.1.2 x2 ≤ 99 := by rw [← rw1.1]; exact rw1.2
    rw [gun_gh f x2 y1] at hv
    refine w270_17 ?_
    rw [sh, row]
    refine ⟨by unfold zR; omega, by unfold zR; omega, fun q => absurd q (by omega), fun _ => ⟨by omega, by omega, by unfold zR; omega, by unfold zR; omega, fun q => ih _ (by omega) (by omega) (by omega) ?_, fun q => ?_⟩⟩
    · rw [if_pos q] at hv; exact hv
    · rw [if_neg q] at hv; rw [hv]; exact ⟨rfl, l.1, l.2⟩
end
