/-! LOOKS with their very answers, fifth part: birds moved for a while -/
theorem rsum_up {P T : Int → Int} {b x : Int} (hb : 0 ≤ b) : ∀ m : Nat, rsum (gup P b x) T m = rsum P T m + (if b < m then (if 0 ≤ x then T x else 0) - (if 0 ≤ P b then T (P b) else 0) else 0)
  | 0 => by
    rw [if_neg (by omega)]
    rfl
  | m + 1 => by
    have ih := rsum_up (P := P) (T := T) (x := x) hb m
    show rsum (gup P b x) T m + (if 0 ≤ gup P b x (m : Int) then T (gup P b x (m : Int)) else 0) = rsum P T m + (if 0 ≤ P (m : Int) then T (P (m : Int)) else 0) + _
    by_cases e : (m : Int) = b
    · rw [ih, if_neg (by omega), if_pos (show b < ((m + 1 : Nat) : Int) by omega), e, gup_same]
      omega
    · rw [ih, gup_ne _ _ e]
      by_cases c : b < (m : Int)
      · rw [if_pos c, if_pos (show b < ((m + 1 : Nat) : Int) by omega)]; omega
      · rw [if_neg c, if_neg (show ¬ b < ((m + 1 : Nat) : Int) by omega)]; omega
def gmv (a : gX) (b x : Int) : Int := gapart (gshows a.1 - a.1.2.2.2.2.2.2 (a.1.2.2.2.2.2.1 b) + (if 0 ≤ x then a.1.2.2.2.2.2.2 x else 0)) a.1.2.2.1
theorem gmv_b {a : gX} {b x : Int} : 0 ≤ gmv a b x ∧ gmv a b x ≤ 6 := gapart_b
section
variable {d : Nat} {Z Z1 Z2 : zM} {a : gX} {s : gS} {i : Int}
theorem gmv_r {b x : Int} (wx : WX a) (hb : 0 ≤ b ∧ b < a.1.1) (hx : -1 ≤ x ∧ x < 6) : gapart (rshow a.1.1 (gup a.1.2.2.2.2.2.1 b x) a.1.2.2.2.2.2.2) a.1.2.2.1 = gmv a b x := by
  have hn : 0 ≤ a.1.1 ∧ a.1.1 ≤ 8 := wx.1.1.1
  have hW : 5 ≤ a.1.2.1 ∧ a.1.2.1 ≤ 6 := wx.1.1.2.1
  have pb := PB.up (b := b) (WF.pb wx.1.1) hx
  have r1 := rsum_b (P := gup a.1.2.2.2.2.2.1 b x) pb.1 (fun c h1 h2 => (pb.2 c h1 h2).2) wx.1.1.2.2.2.2 a.1.1.toNat (by omega)
  have p0 := WF.pb wx.1.1
  have r0 := rsum_b (P := a.1.2.2.2.2.2.1) p0.1 (fun c h1 h2 => (p0.2 c h1 h2).2) wx.1.1.2.2.2.2 a.1.1.toNat (by omega)
  have g := rshow_g wx.1.1
  have up := rsum_up (P := a.1.2.2.2.2.2.1) (T := a.1.2.2.2.2.2.2) (b := b) (x := x) hb.1 a.1.1.toNat
  have p := (wx.1.1.2.2.2.1 b hb.1 hb.2).2.2
  rw [if_pos (show b < ((a.1.1.toNat : Nat) : Int) by omega), if_pos (show 0 ≤ a.1.2.2.2.2.2.1 b from p.1)] at up
  unfold gmv gshows
  rw [← g]
  unfold rshow
  rw [Int.tmod_eq_emod_of_nonneg r1.1, Int.tmod_eq_emod_of_nonneg r0.1, up]
  unfold gapart
  omega
theorem G_235 {x1 x2 : Int} {Q : Int → zM → Prop} (m : QS Z Z1 a) (wx : WX a) (h1 : 0 ≤ x1 ∧ x1 < a.1.1) (h2 : -1 ≤ x2 ∧ x2 < 6) (hQ : Q (gmv a x1 x2) Z1) : TI (d + 2) 235 [.inr 100, .inl x1, .inl x2] Z1 Q := by
  have hn : 0 ≤ a.1.1 ∧ a.1.1 ≤ 8 := wx.1.1.1
  refine w235_0 ⟨by omega, by omega, fun Z3 e3 => ?_⟩
  subst e3
  have R : RF (zup Z1 105 x1 x2) a.1.1 a.1.2.1 a.1.2.2.1 a.1.2.2.2.1 a.1.2.2.2.2.1 (gup a.1.2.2.2.2.2.1 x1 x2) a.1.2.2.2.2.2.2 := RF.sit m.1.1 h1.1
  refine R_wrong0 R (PB.up (b := x1) (WF.pb wx.1.1) h2) wx.1.1.2.2.2.2 wx.1.1.2.2.1 ⟨by omega, fun Z7 e7 => ?_⟩
  rw [e7, zup_back, gmv_r wx h1 h2]; exact hQ
def gwb (a : gX) : Nat → Int × Int
  | 0 => (gerrs a.1, -9)
  | m + 1 => if (gwb a m).1 ≤ gmv a m (-1) then gwb a m else (gmv a m (-1), m)
theorem gwb_b : ∀ m : Nat, 0 ≤ (gwb a m).1 ∧ (gwb a m).1 ≤ 6
  | 0 => gerrs_b
  | m + 1 => by
    unfold gwb
    split
    · exact gwb_b m
    · exact gmv_b
theorem F_without {b : Int} {Q : Int → zM → Prop} (A : CX Z a) (wx : WX a) (hb : 0 ≤ b ∧ b < a.1.1) (hQ : Q (gmv a b (-1)) Z) : TI (d + 2) 140 [.inr 0, .inl b] Z Q := by
  have hW : 5 ≤ a.1.2.1 ∧ a.1.2.1 ≤ 6 := wx.1.1.2.1
  have hn : 0 ≤ a.1.1 ∧ a.1.1 ≤ 8 := wx.1.1.1
  have e3 : Z 4 b = a.1.2.2.2.2.2.1 b := (A.1.2.2.2.1 b hb.1 hb.2).2.2
  have p := (wx.1.1.2.2.2.1 b hb.1 hb.2).2.2
  have e7 : Z 1 7 = a.1.2.2.1 := A.1.2.2.1
  have hh : 0 ≤ a.1.2.2.1 ∧ a.1.2.2.1 ≤ 1000000 := wx.1.1.2.2.1
  have e6 : Z 6 (a.1.2.2.2.2.2.1 b) = a.1.2.2.2.2.2.2 (a.1.2.2.2.2.2.1 b) := (A.1.2.2.2.2 _ p.1 (by omega)).1
  have t := wx.1.1.2.2.2.2 (a.1.2.2.2.2.2.1 b) p.1 (by omega)
  have sb : 0 ≤ gshows a.1 ∧ gshows a.1 < 12 := gshow_b wx.1.1
  refine w140_0 (C_shows (n := a.1.1) (W := a.1.2.1) (h := a.1.2.2.1) (K := a.1.2.2.2.1) (F := a.1.2.2.2.2.1) (P := a.1.2.2.2.2.2.1) (T := a.1.2.2.2.2.2.2) zF1 A.1 wx.1.1 ?_)
  rw [e3, e7, e6]
  refine ⟨by omega, by omega, C_apart (by show zR (gshows a.1 - a.1.2.2.2.2.2.2 (a.1.2.2.2.2.2.1 b) - a.1.2.2.1); unfold zR; omega) ?_⟩
  unfold gmv at hQ
  rw [if_neg (by decide), Int.add_zero] at hQ
  exact hQ
theorem X_worstBird (A : CX Z a) (wx : WX a) : TI (d + 6) 141 [.inr 0] Z (PostC Z (oq a 0 (gwb a a.1.1.toNat).2)) := by
  have hn : 0 ≤ a.1.1 ∧ a.1.1 ≤ 8 := wx.1.1.1
  have e5 : Z 1 5 = a.1.1 := A.1.1
  refine w141_0 (F_errs1 A wx (frs.refl _ _) ?_)
  suffices H : ∀ (f m : Nat) (x3 : Int) (o4 : Option zV), x3 = m → 8 - x3 < f → x3 ≤ a.1.1 → TZ (d + 6) 141 13 [some (.inr 0), some (.inl (gwb a m).1), some (.inl (gwb a m).2), some (.inl x3), o4] [] Z (zri (PostC Z (oq a 0 (gwb a a.1.1.toNat).2))) from H 9 0 0 none rfl (by decide) (by omega)
  intro f
  induction f with
  | zero => intro m x3 o4 e y1 y2; omega
  | succ f ih =>
    intro m x3 o4 e y1 y2
    have gb := gwb_b (a := a) m
    have mb := @gmv_b a x3 (-1)
    have st : gwb a (m + 1) = if (gwb a m).1 ≤ gmv a (m : Int) (-1) then gwb a m else (gmv a (m : Int) (-1), (m : Int)) := rfl
    rw [← e] at st
    refine w141_13 ⟨by unfold zR; omega, by unfold zR; omega, fun _ => ?_, fun y => F_without A wx (by omega) ⟨by unfold zR; omega, by unfold zR; omega, fun q => ?_, fun q => ?_⟩⟩
    · rw [show a.1.1.toNat = m by omega]; exact PQ A rfl (frs.refl _ _)
    · have := ih (m + 1) (x3 + 1) (some (.inl (gmv a x3 (-1)))) (by omega) (by omega) (by omega)
      rw [st, if_pos q] at this; exact this
    · have := ih (m + 1) (x3 + 1) (some (.inl (gmv a x3 (-1)))) (by omega) (by omega) (by omega)
      rw [st, if_neg q] at this; exact this
theorem Y_worstBird (A : RX Z a) (wx : WX a) : TI (d + 3) 267 [.inr 100] Z (PostR Z (oq a 0 (gwb a a.1.1.toNat).2)) := by
  have l := QS.refl A
  have hn : 0 ≤ a.1.1 ∧ a.1.1 ≤ 8 := wx.1.1.1
  have e5 := l.now.1
  refine w267_0 (R_wrong (n := a.1.1) (W := a.1.2.1) (h := a.1.2.2.1) (K := a.1.2.2.2.1) (F := a.1.2.2.2.2.1) (P := a.1.2.2.2.2.2.1) (T := a.1.2.2.2.2.2.2) A.1 wx.1.1 ?_)
  suffices H : ∀ (f m : Nat) (x3 : Int) (o4 : Option zV), x3 = m → 8 - x3 < f → x3 ≤ a.1.1 → TZ (d + 3) 267 10 [some (.inr 100), some (.inl (gwb a m).1), some (.inl (gwb a m).2), some (.inl x3), o4] [] Z (zri (PostR Z (oq a 0 (gwb a a.1.1.toNat).2))) from H 9 0 0 none rfl (by decide) (by omega)
  intro f
  induction f with
  | zero => intro m x3 o4 e y1 y2; omega
  | succ f ih =>
    intro m x3 o4 e y1 y2
    have gb := gwb_b (a := a) m
    have mb := @gmv_b a x3 (-1)
    have st : gwb a (m + 1) = if (gwb a m).1 ≤ gmv a (m : Int) (-1) then gwb a m else (gmv a (m : Int) (-1), (m : Int)) := rfl
    rw [← e] at st
    refine w267_10 ⟨by unfold zR; omega, by unfold zR; omega, fun _ => ?_, fun y => G_235 l wx (by omega) (by decide) ⟨by unfold zR; omega, by unfold zR; omega, fun q => ?_, fun q => ?_⟩⟩
    · rw [show a.1.1.toNat = m by omega]; exact G_ok l rfl
    · have := ih (m + 1) (x3 + 1) (some (.inl (gmv a x3 (-1)))) (by omega) (by omega) (by omega)
      rw [st, if_neg (by omega)] at this; exact this
    · have := ih (m + 1) (x3 + 1) (some (.inl (gmv a x3 (-1)))) (by omega) (by omega) (by omega)
      rw [st, if_pos (by omega)] at this; exact this
end
