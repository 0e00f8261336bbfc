/-! LOOKS with their very answers, third part -/
section
variable {d : Nat} {Z Z1 Z2 : zM} {a : gX} {s : gS} {i : Int}
theorem Y_right {x1 x2 : Int} (A : RX Z a) (wx : WX a) (h1 : zR x1) (h2 : zR x2) : TI (d + 5) 266 [.inr 100, .inl x1, .inl x2] Z (PostR Z (oq a (geith (gout x1 0 20) (gunk x2 1)) (vRight a x1 x2))) := by
  have m := QS.refl A
  refine w266_0 (D_206 h1 ⟨zR9 gb3, fun c => ⟨zR9 gb3, fun e => absurd e c, fun _ => G_no m wx (ge1 c) (go_n c)⟩, fun c => ?_⟩)
  have c : gout x1 0 20 = 0 := by omega
  have c1 := gout_0.mp c
  refine R_isIn h2 (by decide) (by decide) (fun i => ⟨by decide, fun _ => ⟨zR9 gb3, fun _ => G_205 m wx (by omega) fun Z2 l hf _ => ?_, fun e => absurd c e⟩, fun e => absurd (show (1 : Int) ≠ 0 by decide) e⟩) (fun i => ⟨by decide, fun e => absurd rfl e, fun _ => G_no m wx (by rw [ge0 c, gu2 i]) (by decide)⟩)
  have ok := G_ok (v := vRight a x1 x2) (code := geith (gout x1 0 20) (gunk x2 1)) l (by rw [ge0 c]; exact gunk_0.mpr i)
  suffices H : ∀ (f : Nat) (x7 : Int), x1 + 1 - x7 < f → 1 ≤ x7 → x7 ≤ x1 + 1 → TZ (d + 5) 266 48 [some (.inr 100), some (.inl x1), some (.inl x2), some (.inl (gout x1 0 20)), some (.inl (grt a (x7 - 1).toNat).1), some (.inl (grt a (x7 - 1).toNat).2.1), some (.inl (grt a (x7 - 1).toNat).2.2), some (.inl x7)] [] Z2 (zri (PostR Z (oq a (geith (gout x1 0 20) (gunk x2 1)) (vRight a x1 x2)))) from H 22 1 (by omega) (by decide) (by omega)
  intro f
  induction f with
  | zero => intro x7 y1 y2 y3; omega
  | succ f ih =>
    intro x7 y1 y2 y3
    have gb := grt_b (a := a) (x7 - 1).toNat
    refine w266_48 ⟨by unfold zR; omega, h1, fun c7 => ⟨h2, fun e => ?_, fun e => ?_⟩, fun c7 => ?_⟩
    · rw [show (x7 - 1).toNat = x1.toNat by omega]
      unfold vRight at ok ⊢
      rw [if_neg e] at ok ⊢; exact ok
    · rw [show (x7 - 1).toNat = x1.toNat by omega]
      unfold vRight at ok ⊢
      rw [if_pos (by omega)] at ok ⊢; exact ok
    · have v2 := (hf x7 (by omega) (by omega)).2.1
      have eb := @gerrs_b (gh a x7)
      have st : grt a (x7 + 1 - 1).toNat = if gerrs (gh a x7) ≠ 0 then ((grt a (x7 - 1).toNat).1 + 0, 0, max (grt a (x7 - 1).toNat).2.2 0) else ((grt a (x7 - 1).toNat).1 + 1, (grt a (x7 - 1).toNat).2.1 + 1, max (grt a (x7 - 1).toNat).2.2 ((grt a (x7 - 1).toNat).2.1 + 1)) := by
        rw [show (x7 + 1 - 1).toNat = (x7 - 1).toNat + 1 by omega]
        show (if gerrs (gh a (((x7 - 1).toNat : Int) + 1)) ≠ 0 then _ else _) = _
        rw [show (((x7 - 1).toNat : Nat) : Int) + 1 = x7 by omega]
      have ih' := ih (x7 + 1) (by omega) (by omega) (by omega)
      rw [st] at ih'
      rw [v2]
      have ze : zR (gerrs (gh a x7)) := by unfold zR; omega
      refine ⟨by omega, ze, fun e => ⟨by omega, ze, fun _ => ⟨by unfold zR; omega, fun q => ?_, fun q => absurd gb.2.1 q⟩, fun e2 => absurd e e2⟩, fun e => ⟨by omega, ze, fun e2 => absurd e2 e, fun _ => ⟨by unfold zR; omega, by unfold zR; omega, fun q => ?_, fun q => ?_⟩⟩⟩
      · rw [if_pos e] at ih'
        dsimp only at ih'
        rw [Int.max_eq_left gb.2.1] at ih'
        exact ih'
      · rw [if_neg e] at ih'
        dsimp only at ih'
        rw [Int.max_eq_left q] at ih'
        exact ih'
      · rw [if_neg e] at ih'
        dsimp only at ih'
        rw [Int.max_eq_right (by omega)] at ih'
        exact ih'
def gcw (a : gX) : Nat → Int × Int
  | 0 => (gerrs a.1, -9)
  | m + 1 => if (gcw a m).1 ≤ gerrs (gcat m a.1) then gcw a m else (gerrs (gcat m a.1), m)
theorem gcw_b {a : gX} : ∀ m : Nat, 0 ≤ (gcw a m).1 ∧ (gcw a m).1 ≤ 6
  | 0 => gerrs_b
  | m + 1 => by
    unfold gcw
    split
    · exact gcw_b m
    · exact gerrs_b
theorem gcat_wf {w : Int} (wf : WFs s) (hw : 0 ≤ w) : WFs (gcat w s) := by
  obtain ⟨n, W, h, K, F, P, T⟩ := s
  have hn : 0 ≤ n ∧ n ≤ 8 := wf.1
  exact gC_wf wf hw n.toNat (by omega)
theorem F_cat {w : Int} {Q : Int → zM → Prop} (m : MF Z Z1 s) (wf : WFs s) (hw : 0 ≤ w ∧ w ≤ 6) (hQ : ∀ r Z', MF Z Z' (gcat w s) → outm Z1 Z' → Q r Z') : TI (d + 2) 32 [.inr 19, .inl w] Z1 Q := by
  obtain ⟨n, W, h, K, F, P, T⟩ := s
  exact C_scare zF19 m.2 wf hw fun Z' C f' => hQ _ Z' ⟨m.1.trans (fr19 f'), C⟩ fun q hq => f' q (by omega)
theorem F_errs1 {Q : Int → zM → Prop} (A : CX Z a) (wx : WX a) (f : frs SQ Z Z1) (hQ : Q (gerrs a.1) Z1) : TI (d + 2) 23 [.inr 1] Z1 Q :=
  C_errs (n := a.1.1) (W := a.1.2.1) (h := a.1.2.2.1) (K := a.1.2.2.2.1) (F := a.1.2.2.2.2.1) (P := a.1.2.2.2.2.2.1) (T := a.1.2.2.2.2.2.2) zF1 (CFf (k := 0) A.1 f) wx.1.1 hQ
theorem X_catWorth (A : CX Z a) (wx : WX a) : TI (d + 5) 114 [.inr 0] Z (PostC Z (oq a 0 (gcw a a.1.2.1.toNat).2)) := by
  have hW : 5 ≤ a.1.2.1 ∧ a.1.2.1 ≤ 6 := wx.1.1.2.1
  refine w114_0 (F_errs1 A wx (frs.refl _ _) ?_)
  suffices H : ∀ (f m : Nat) (x3 : Int) (o4 : Option zV) (Z1 : zM), x3 = m → 6 - x3 < f → x3 ≤ a.1.2.1 → frs SQ Z Z1 → TZ (d + 5) 114 13 [some (.inr 0), some (.inl (gcw a m).1), some (.inl (gcw a m).2), some (.inl x3), o4] [] Z1 (zri (PostC Z (oq a 0 (gcw a a.1.2.1.toNat).2))) from H 7 0 0 none Z rfl (by decide) (by omega) (frs.refl _ _)
  intro f
  induction f with
  | zero => intro m x3 o4 Z1 e y1 y2 f1; omega
  | succ f ih =>
    intro m x3 o4 Z1 e y1 y2 f1
    have e6 := (now6 A f1).1
    have gb := gcw_b (a := a) m
    refine w114_13 ⟨by unfold zR; omega, by unfold zR; omega, fun _ => ?_, fun y => F_think A wx f1 fun Z2 m2 _ => ⟨rfl, F_cat m2 wx.1.1 (by omega) fun r Z3 m3 _ => F_errs m3 (gcat_wf wx.1.1 (by omega)) ⟨by have := @gerrs_b (gcat x3 a.1); unfold zR; omega, by unfold zR; omega, fun q => ?_, fun q => F_errs m3 (gcat_wf wx.1.1 (by omega)) ?_⟩⟩⟩
    · rw [show a.1.2.1.toNat = m by omega]; exact PQ A rfl f1
    · have := ih (m + 1) (x3 + 1) (some (.inr 19)) Z3 (by omega) (by omega) (by omega) m3.1
      have st : gcw a (m + 1) = if (gcw a m).1 ≤ gerrs (gcat m a.1) then gcw a m else (gerrs (gcat m a.1), (m : Int)) := rfl
      rw [← e] at st
      rw [st, if_pos q] at this
      exact this
    · have := ih (m + 1) (x3 + 1) (some (.inr 19)) Z3 (by omega) (by omega) (by omega) m3.1
      have st : gcw a (m + 1) = if (gcw a m).1 ≤ gerrs (gcat m a.1) then gcw a m else (gerrs (gcat m a.1), (m : Int)) := rfl
      rw [← e] at st
      rw [st, if_neg q] at this
      exact this
theorem G_cats {w : Int} {Q : Int → zM → Prop} (m : QE Z Z1 a s) (wx : WX a) (wf : WFs s) (hw : 0 ≤ w ∧ w < s.2.1) (hQ : ∀ r Z2, QE Z Z2 a (gcat w s) → same Z1 Z2 → Q r Z2) : TI (d + 3) 191 [.inr 100, .inl w] Z1 Q := by
  obtain ⟨n, W, h, K, F, P, T⟩ := s
  refine R_cats0 m.1.1 wf hw fun Z2 C f => hQ _ Z2 ⟨m.1.step2 wx C f, fun q hq => ?_⟩ fun q hq => funext fun p => f q p (by unfold SP; omega)
  rw [← m.2 q hq]; exact funext fun p => f q p (by unfold SP; omega)
theorem Y_catWorth (A : RX Z a) (wx : WX a) : TI (d + 5) 256 [.inr 100] Z (PostR Z (oq a 0 (gcw a a.1.2.1.toNat).2)) := by
  have l0 := QS.refl A
  have hW : 5 ≤ a.1.2.1 ∧ a.1.2.1 ≤ 6 := wx.1.1.2.1
  refine w256_0 (R_wrong (n := a.1.1) (W := a.1.2.1) (h := a.1.2.2.1) (K := a.1.2.2.2.1) (F := a.1.2.2.2.2.1) (P := a.1.2.2.2.2.2.1) (T := a.1.2.2.2.2.2.2) A.1 wx.1.1 ?_)
  suffices H : ∀ (f m : Nat) (x3 : Int) (o4 : Option zV) (Z1 : zM), x3 = m → 6 - x3 < f → x3 ≤ a.1.2.1 → QS Z Z1 a → TZ (d + 5) 256 10 [some (.inr 100), some (.inl (gcw a m).1), some (.inl (gcw a m).2), some (.inl x3), o4] [] Z1 (zri (PostR Z (oq a 0 (gcw a a.1.2.1.toNat).2))) from H 7 0 0 none Z rfl (by decide) (by omega) l0
  intro f
  induction f with
  | zero => intro m x3 o4 Z1 e y1 y2 l; omega
  | succ f ih =>
    intro m x3 o4 Z1 e y1 y2 l
    have e6 := l.now.2.1
    have gb := gcw_b (a := a) m
    refine w256_10 ⟨by unfold zR; omega, by unfold zR; omega, fun _ => ?_, fun y => G_thinks l wx fun Z4 k _ => G_cats k wx wx.1.1 (by omega) fun r Z5 k5 _ => G_wrong k5 (gcat_wf wx.1.1 (by omega)) (G_forgets k5 wx fun Z9 l9 _ => ⟨by have := @gerrs_b (gcat x3 a.1); unfold zR; omega, by unfold zR; omega, fun q => ?_, fun q => ?_⟩)⟩
    · rw [show a.1.2.1.toNat = m by omega]; exact G_ok l rfl
    · have := ih (m + 1) (x3 + 1) (some (.inl (gerrs (gcat x3 a.1)))) Z9 (by omega) (by omega) (by omega) l9
      have st : gcw a (m + 1) = if (gcw a m).1 ≤ gerrs (gcat m a.1) then gcw a m else (gerrs (gcat m a.1), (m : Int)) := rfl
      rw [← e] at st
      rw [st, if_neg (by omega)] at this
      exact this
    · have := ih (m + 1) (x3 + 1) (some (.inl (gerrs (gcat x3 a.1)))) Z9 (by omega) (by omega) (by omega) l9
      have st : gcw a (m + 1) = if (gcw a m).1 ≤ gerrs (gcat m a.1) then gcw a m else (gerrs (gcat m a.1), (m : Int)) := rfl
      rw [← e] at st
      rw [st, if_pos (by omega)] at this
      exact this
end
