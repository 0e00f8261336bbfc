/-! LOOKS with their very answers, second part -/
def gor (a : gX) : Nat → Int
  | 0 => 0
  | m + 1 => zbit 4 (gor a m) (gone (gh a m))
def vStayed (a : gX) (x1 : Int) : Int := zbit 3 ((zbit 6 1 a.1.1) - 1) (zbit 5 (gor a x1.toNat) (-1))
def vLater (a : gX) (x1 x2 : Int) : Int := if x2 = 0 then (a.1.2.2.1 + x1 - gshows (gh a x1)) % 12 else Int.tmod (12 - (a.1.2.2.1 + x1 - gshows (gh a x1)) % 12) 12
/-- right: how many, the run now, the longest -/
def grt (a : gX) : Nat → Int × Int × Int
  | 0 => (0, 0, 0)
  | m + 1 => if gerrs (gh a (m + 1)) ≠ 0 then ((grt a m).1 + 0, 0, max (grt a m).2.2 0) else ((grt a m).1 + 1, (grt a m).2.1 + 1, max (grt a m).2.2 ((grt a m).2.1 + 1))
def vRight (a : gX) (x1 x2 : Int) : Int := if x2 = 0 then (grt a x1.toNat).1 else (grt a x1.toNat).2.2
theorem grt_b {a : gX} : ∀ m : Nat, (0 ≤ (grt a m).2.1 ∧ (grt a m).2.1 ≤ m) ∧ 0 ≤ (grt a m).2.2 ∧ (grt a m).2.2 ≤ m
  | 0 => by unfold grt; decide
  | m + 1 => by
    have := grt_b (a := a) m
    unfold grt
    split
    · dsimp only; omega
    · dsimp only; omega
section
variable {d : Nat} {Z Z1 Z2 : zM} {a : gX} {s : gS} {i : Int}
theorem X_stayed {x1 : Int} (A : CX Z a) (wx : WX a) (h1 : zR x1) : TI (d + 5) 105 [.inr 0, .inl x1] Z (PostC Z (oq a (gout x1 0 20) (vStayed a x1))) := by
  refine w105_0 (C_outside h1 (by decide) (by decide) ⟨zR9 gb3, fun c => ?_, fun c => C_refuse (by have := @gb3 x1 0 20; omega) (PRq A c gb3)⟩)
  have c1 := gout_0.mp c
  refine F_think A wx (frs.refl _ _) fun Z' m _ => ⟨rfl, ?_⟩
  refine F_upto (n := x1) c1.1 (P := fun i Z1 => TZ (d + 5) 105 29 [some (.inr 0), some (.inl x1), some (.inl (gout x1 0 20)), some (.inr 19), some (.inl (gor a i.toNat)), some (.inl i)] [] Z1 (zri (PostC Z (oq a (gout x1 0 20) (vStayed a x1))))) (fun Z1 m1 => ?_) (fun i Z1 i1 i2 m1 ih => ?_) Z' m
  · refine w105_29 ⟨by unfold zR; omega, h1, fun _ => ?_, fun x => absurd (Int.le_refl _) x⟩
    have e5 : Z1 19 5 = a.1.1 := by rw [← (gh_h (a := a) c1.1).2.2]; exact m1.2.1
    rw [e5]
    exact PQ A c m1.1
  · refine w105_29 ⟨by unfold zR; omega, h1, fun x => absurd x (by omega), fun _ => F_pass m1 wx (by omega) fun Z2 m2 _ => ?_⟩
    have := ih Z2 m2
    rw [show (i + 1).toNat = i.toNat + 1 by omega] at this
    have e : gor a (i.toNat + 1) = zbit 4 (gor a i.toNat) (gone (gh a i)) := by
      show zbit 4 (gor a i.toNat) (gone (gh a (i.toNat : Int))) = _
      rw [show ((i.toNat : Nat) : Int) = i by omega]
    rw [e] at this
    exact this
theorem X_later {x1 x2 : Int} (A : CX Z a) (wx : WX a) (h1 : zR x1) (h2 : zR x2) : TI (d + 5) 104 [.inr 0, .inl x1, .inl x2] Z (PostC Z (oq a (geith (gout x1 0 20) (gunk x2 1)) (vLater a x1 x2))) := by
  refine w104_0 (C_outside h1 (by decide) (by decide) (C_unknown h2 (by decide) (C_either (zR9 gb3) ⟨zR9 cb1, fun c => ?_, fun c => C_refuse (by have := @cb1 x1 x2 0 20 1; omega) (PRq A c cb1)⟩)))
  have c1 := gout_0.mp (geith_0.mp c).1
  have hh : 0 ≤ a.1.2.2.1 ∧ a.1.2.2.1 ≤ 999 := ⟨wx.1.1.2.2.1.1, wx.1.2⟩
  refine F_behind A wx (by omega) fun Z' m => ⟨rfl, F_shows m (gh_w wx (by omega)) ?_⟩
  have e7 : Z' 19 7 = a.1.2.2.1 + x1 := by rw [← (gh_h (a := a) c1.1).1]; exact m.2.2.2.1
  have b := gshow_b (gh_w wx (i := x1) (by omega))
  have b : 0 ≤ gshows (gh a x1) ∧ gshows (gh a x1) < 12 := b
  rw [e7]
  have ok := PQ (v := vLater a x1 x2) A c m.1
  unfold vLater at ok ⊢
  refine C_fmod (by unfold zR; omega) ⟨h2, fun e => ⟨by unfold zR; omega, ?_⟩, fun e => ?_⟩
  · rw [if_neg e] at ok ⊢; exact ok
  · rw [if_pos (by omega)] at ok ⊢; exact ok
theorem X_right {x1 x2 : Int} (A : CX Z a) (wx : WX a) (h1 : zR x1) (h2 : zR x2) : TI (d + 5) 103 [.inr 0, .inl x1, .inl x2] Z (PostC Z (oq a (geith (gout x1 0 20) (gunk x2 1)) (vRight a x1 x2))) := by
  refine w103_0 (C_outside h1 (by decide) (by decide) (C_unknown h2 (by decide) (C_either (zR9 gb3) ⟨zR9 cb1, fun c => ?_, fun c => C_refuse (by have := @cb1 x1 x2 0 20 1; omega) (PRq A c cb1)⟩)))
  have c1 := gout_0.mp (geith_0.mp c).1
  refine F_think A wx (frs.refl _ _) fun Z' m _ => ⟨rfl, ?_⟩
  refine F_upto (n := x1) c1.1 (P := fun i Z1 => ∀ o9, TZ (d + 5) 103 44 [some (.inr 0), some (.inl x1), some (.inl x2), some (.inl (geith (gout x1 0 20) (gunk x2 1))), some (.inr 19), some (.inl (grt a i.toNat).1), some (.inl (grt a i.toNat).2.1), some (.inl (grt a i.toNat).2.2), some (.inl i), o9] [] Z1 (zri (PostC Z (oq a (geith (gout x1 0 20) (gunk x2 1)) (vRight a x1 x2))))) (fun Z1 m1 o9 => ?_) (fun i Z1 i1 i2 m1 ih o9 => ?_) Z' m none
  · have ok := PQ (v := vRight a x1 x2) A c m1.1
    unfold vRight at ok ⊢
    refine w103_44 ⟨by unfold zR; omega, h1, fun _ => ⟨h2, fun e => ?_, fun e => ?_⟩, fun x => absurd (Int.le_refl _) x⟩
    · rw [if_neg e] at ok ⊢; exact ok
    · rw [if_pos (by omega)] at ok ⊢; exact ok
  · have gb := grt_b (a := a) i.toNat
    have st : grt a (i + 1).toNat = if gerrs (gh a (i + 1)) ≠ 0 then ((grt a i.toNat).1 + 0, 0, max (grt a i.toNat).2.2 0) else ((grt a i.toNat).1 + 1, (grt a i.toNat).2.1 + 1, max (grt a i.toNat).2.2 ((grt a i.toNat).2.1 + 1)) := by
      rw [show (i + 1).toNat = i.toNat + 1 by omega]
      show (if gerrs (gh a ((i.toNat : Int) + 1)) ≠ 0 then _ else _) = _
      rw [show ((i.toNat : Nat) : Int) = i by omega]
    refine w103_44 ⟨by unfold zR; omega, h1, fun x => absurd x (by omega), fun _ => F_pass m1 wx (by omega) fun Z2 m2 _ => F_errs m2 (gh_w wx (by omega)) ⟨by have := @gerrs_b (gh a (i + 1)); unfold zR; omega, fun e => ⟨by unfold zR; omega, ?_⟩, fun e => ⟨by unfold zR; omega, by unfold zR; omega, ?_⟩⟩⟩
    · have := ih Z2 m2 (some (.inl 0))
      rw [st, if_pos e] at this
      exact this
    · have := ih Z2 m2 (some (.inl 1))
      rw [st, if_neg e] at this
      exact this
theorem G_passes {x1 : Int} {Q : zM → Prop} (m : QE Z Z1 a a.1) (wx : WX a) (h1 : 0 ≤ x1 ∧ x1 ≤ 99) (hQ : ∀ Z2, QE Z Z2 a (gh a x1) → same Z1 Z2 → Q Z2) : TV (d + 4) 189 [.inr 100, .inl x1, .inl (-1)] Z1 Q := by
  refine w189_0 ?_
  suffices H : ∀ (f : Nat) (x3 : Int) (Z2 : zM), x1 - x3 < f → 0 ≤ x3 → x3 ≤ x1 → QE Z Z2 a (gh a x3) → same Z1 Z2 → TZ (d + 4) 189 2 [some (.inr 100), some (.inl x1), some (.inl (-1)), some (.inl x3)] [] Z2 (zrv Q) from H (x1 + 1).toNat 0 Z1 (by omega) (by omega) (by omega) m (same.refl _)
  intro f
  induction f with
  | zero => intro x3 Z2 y1 y2 y3 m1 s; omega
  | succ f ih =>
    intro x3 Z2 y1 y2 y3 m1 s
    refine w189_2 ⟨by unfold zR; omega, by unfold zR; omega, fun _ => hQ Z2 ?_ s, fun _ => G_pass m1 wx (by omega) fun Z3 m3 s3 => ih _ Z3 (by omega) (by omega) (by omega) m3 (s.trans s3)⟩
    rw [show x1 = x3 by omega]; exact m1
theorem Y_where {x1 x2 : Int} (A : RX Z a) (wx : WX a) (h1 : zR x1) (h2 : zR x2) : TI (d + 5) 208 [.inr 100, .inl x1, .inl x2] Z (PostR Z (oq a (geith (gin a.1.1 x1) (gout x2 0 20)) (vWhere a x1 x2))) := by
  have m := QS.refl A
  have hn : 0 ≤ a.1.1 ∧ a.1.1 ≤ 8 := wx.1.1.1
  refine w208_0 (R_isBird m.now.1 (by unfold zR; omega) h1 (fun i => ⟨by decide, fun _ => D_206 h2 ⟨zR9 gb3, fun c => ?_, fun c => G_no m wx (by rw [ge0 (gin_0.mpr i)]) (go_n c)⟩, fun e => absurd (show (1 : Int) ≠ 0 by decide) e⟩) (fun i => ⟨by decide, fun e => absurd rfl e, fun _ => G_no m wx (by rw [gi1 i]; rfl) (by decide)⟩))
  have c1 := gout_0.mp c
  have e := gh_h (a := a) c1.1
  refine G_thinks m wx fun Z2 k _ => G_passes k wx (by omega) fun Z3 k3 _ => ⟨by omega, G_forgets k3 wx fun Z4 l _ => ?_⟩
  have ev : Z3 105 x1 = vWhere a x1 x2 := (k3.1.1.2.2.2.1 x1 i.1 (by rw [e.2.2]; exact i.2)).2.2
  rw [ev]
  exact G_ok l (by rw [ge0 (gin_0.mpr i)]; exact c)
theorem Y_stayed {x1 : Int} (A : RX Z a) (wx : WX a) (h1 : zR x1) : TI (d + 5) 262 [.inr 100, .inl x1] Z (PostR Z (oq a (gout x1 0 20) (vStayed a x1))) := by
  have m := QS.refl A
  refine w262_0 (D_206 h1 ⟨zR9 gb3, fun c => ?_, fun c => G_no m wx rfl (go_n c)⟩)
  have c1 := gout_0.mp c
  refine G_205 m wx (by omega) fun Z2 l hf _ => ?_
  suffices H : ∀ (f : Nat) (x4 : Int), 20 - x4 < f → 0 ≤ x4 → x4 ≤ x1 → TZ (d + 5) 262 25 [some (.inr 100), some (.inl x1), some (.inl (gout x1 0 20)), some (.inl (gor a x4.toNat)), some (.inl x4)] [] Z2 (zri (PostR Z (oq a (gout x1 0 20) (vStayed a x1)))) from H 21 0 (by decide) (by decide) c1.1
  intro f
  induction f with
  | zero => intro x4 y1 y2 y3; omega
  | succ f ih =>
    intro x4 y1 y2 y3
    refine w262_25 ⟨by unfold zR; omega, by unfold zR; omega, fun _ => ?_, fun _ => ⟨by omega, ?_⟩⟩
    · rw [show x4 = x1 by omega, l.now.1]; exact G_ok l c
    · have := ih (x4 + 1) (by omega) (by omega) (by omega)
      rw [show (x4 + 1).toNat = x4.toNat + 1 by omega] at this
      have e : gor a (x4.toNat + 1) = zbit 4 (gor a x4.toNat) (gone (gh a x4)) := by
        show zbit 4 (gor a x4.toNat) (gone (gh a (x4.toNat : Int))) = _
        rw [show ((x4.toNat : Nat) : Int) = x4 by omega]
      rw [e] at this
      rw [(hf x4 y2 (by omega)).2.2]; exact this
theorem Y_later {x1 x2 : Int} (A : RX Z a) (wx : WX a) (h1 : zR x1) (h2 : zR x2) : TI (d + 5) 261 [.inr 100, .inl x1, .inl x2] Z (PostR Z (oq a (geith (gout x1 0 20) (gunk x2 1)) (vLater a x1 x2))) := by
  have m := QS.refl A
  have hh : 0 ≤ a.1.2.2.1 ∧ a.1.2.2.1 ≤ 999 := ⟨wx.1.1.2.2.1.1, wx.1.2⟩
  refine w261_0 (D_206 h1 ⟨zR9 gb3, fun c => ⟨zR9 gb3, fun e => absurd e c, fun _ => G_no m wx (ge1 c) (go_n c)⟩, fun c => ?_⟩)
  have c : gout x1 0 20 = 0 := by omega
  have c1 := gout_0.mp c
  refine R_isIn h2 (by decide) (by decide) (fun i => ⟨by decide, fun _ => ⟨zR9 gb3, fun _ => G_205 m wx (by omega) fun Z2 l hf _ => ?_, fun e => absurd c e⟩, fun e => absurd (show (1 : Int) ≠ 0 by decide) e⟩) (fun i => ⟨by decide, fun e => absurd rfl e, fun _ => G_no m wx (by rw [ge0 c, gu2 i]) (by decide)⟩)
  have ok := G_ok (v := vLater a x1 x2) (code := geith (gout x1 0 20) (gunk x2 1)) l (by rw [ge0 c]; exact gunk_0.mpr i)
  have e7 := l.now.2.2.1
  have v := (hf x1 c1.1 (by omega)).1
  have b : 0 ≤ gshows (gh a x1) ∧ gshows (gh a x1) < 12 := gshow_b (gh_w wx (i := x1) (by omega))
  have t : Int.tmod (Z2 100 7 + x1) 12 = (Z2 100 7 + x1) % 12 := Int.tmod_eq_emod_of_nonneg (by omega)
  rw [t, v, e7]
  have t2 : Int.tmod ((a.1.2.2.1 + x1) % 12 - gshows (gh a x1) + 12) 12 = (a.1.2.2.1 + x1 - gshows (gh a x1)) % 12 := by
    rw [Int.tmod_eq_emod_of_nonneg (by omega)]; omega
  rw [t2]
  unfold vLater at ok ⊢
  refine ⟨by unfold zR; omega, by omega, by unfold zR; omega, h2, fun e => ⟨by unfold zR; omega, ?_⟩, fun e => ?_⟩
  · rw [if_neg e] at ok ⊢; exact ok
  · rw [if_pos (by omega)] at ok ⊢; exact ok
end
