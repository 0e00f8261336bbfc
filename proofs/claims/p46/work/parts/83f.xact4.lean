/-! LOOKS with their very answers, fourth part: flights -/
def gfl (a : gX) (w : Int) : Int := gerrs (gpass w a.1)
def gcl (a : gX) : Nat → Nat
  | 0 => 0
  | m + 1 => if gfl a ((gcl a m : Int) - 1) ≤ gfl a (m : Int) then gcl a m else m + 1
theorem gcl_b {a : gX} : ∀ m : Nat, gcl a m ≤ m
  | 0 => Nat.le_refl _
  | m + 1 => by
    have := gcl_b (a := a) m
    unfold gcl
    split <;> omega
def vClosest (a : gX) (x1 : Int) : Int := if x1 = 0 then (gcl a a.1.2.1.toNat : Int) else gfl a ((gcl a a.1.2.1.toNat : Int) - 1)
/-- hours with the same flight -/
def ghf (a : gX) (fl i : Int) : gS := ghours fl i.toNat a.1
theorem ghf_s {a : gX} {fl i : Int} (h : 0 ≤ i) : ghf a fl (i + 1) = gpass fl (ghf a fl i) := by
  unfold ghf
  rw [show (i + 1).toNat = i.toNat + 1 by omega]
  rfl
theorem ghf_h {a : gX} {fl i : Int} (h : 0 ≤ i) : (ghf a fl i).2.2.1 = a.1.2.2.1 + i ∧ (ghf a fl i).2.1 = a.1.2.1 ∧ (ghf a fl i).1 = a.1.1 := by
  have := ghours_h (fl := fl) i.toNat a.1
  unfold ghf
  exact ⟨by rw [this.1]; omega, this.2⟩
theorem ghf_wf {a : gX} {fl : Int} (wx : WX a) (hf : -1 ≤ fl ∧ fl < a.1.2.1) : ∀ m : Nat, m ≤ 1000 → WFs (ghf a fl m)
  | 0, _ => wx.1.1
  | m + 1, hm => by
    have w := ghf_wf wx hf m (by omega)
    have e := ghf_h (a := a) (fl := fl) (i := m) (by omega)
    have hh := wx.1.2
    have s := ghf_s (a := a) (fl := fl) (i := (m : Int)) (by omega)
    rw [show ((m + 1 : Nat) : Int) = (m : Int) + 1 by omega, s]
    exact gpass_wf w (by rw [e.2.1]; exact hf) (by rw [e.1]; omega)
def gsat (s : gS) (w : Int) : Int := cnt s.2.2.2.2.2.1 w s.1.toNat
def gal (a : gX) (w : Int) : Nat → Int × Int
  | 0 => (gsat a.1 w, 0)
  | m + 1 => if gsat (ghf a w (m + 1)) w ≤ (gal a w m).1 then gal a w m else (gsat (ghf a w (m + 1)) w, m + 1)
def vAlways (a : gX) (x1 x2 : Int) : Int := if x2 = 0 then (gal a x1 20).1 else (gal a x1 20).2
section
variable {d : Nat} {Z Z1 Z2 : zM} {a : gX} {s : gS} {i : Int}
theorem gsat_b (wf : WFs s) {w : Int} : 0 ≤ gsat s w ∧ gsat s w ≤ 8 := by
  have hn : 0 ≤ s.1 ∧ s.1 ≤ 8 := wf.1
  have b := cnt_b s.2.2.2.2.2.1 w s.1.toNat
  unfold gsat
  omega
theorem gal_b {w : Int} (wx : WX a) (hf : -1 ≤ w ∧ w < a.1.2.1) : ∀ m : Nat, m ≤ 30 → 0 ≤ (gal a w m).1 ∧ (gal a w m).1 ≤ 8
  | 0, _ => gsat_b wx.1.1
  | m + 1, hm => by
    unfold gal
    split
    · exact gal_b wx hf m (by omega)
    · have := ghf_wf wx hf (m + 1) (by omega)
      exact gsat_b this
theorem F_passf {fl : Int} {Q : Int → zM → Prop} (m : MF Z Z1 s) (wf : WFs s) (hf : -1 ≤ fl ∧ fl < s.2.1) (hh : s.2.2.1 < 1000000) (hQ : ∀ r Z', MF Z Z' (gpass fl s) → outm Z1 Z' → Q r Z') : TI (d + 3) 25 [.inr 19, .inl fl] Z1 Q := by
  obtain ⟨n, W, h, K, F, P, T⟩ := s
  exact C_pass zF19 m.2 wf hf hh fun Z' C f' => hQ _ Z' ⟨m.1.trans (fr19 f'), C⟩ fun q hq => f' q (by omega)
theorem G_passf {fl : Int} {Q : Int → zM → Prop} (m : QE Z Z1 a s) (wx : WX a) (wf : WFs s) (hf : -1 ≤ fl ∧ fl < s.2.1) (hh : s.2.2.1 < 1000000) (hQ : ∀ r Z2, QE Z Z2 a (gpass fl s) → same Z1 Z2 → Q r Z2) : TI (d + 3) 188 [.inr 100, .inl fl] Z1 Q := by
  obtain ⟨n, W, h, K, F, P, T⟩ := s
  refine R_goes1 m.1.1 wf hf hh fun Z2 C f => hQ _ Z2 ⟨m.1.step wx C f, fun q hq => ?_⟩ fun q hq => funext fun p => f q p (by unfold SH; omega)
  rw [← m.2 q hq]; exact funext fun p => f q p (by unfold SH; omega)
theorem F_fed {fl : Int} {Q : Nat → zM → Prop} (A : CX Z a) (wx : WX a) (f : frs SQ Z Z1) (hf : -1 ≤ fl ∧ fl < a.1.2.1) (hQ : ∀ Z', MF Z Z' (gpass fl a.1) → outm Z1 Z' → Q 19 Z') : TR (d + 4) 116 [.inr 0, .inl fl] Z1 Q :=
  w116_0 (F_think A wx f fun Z2 m e => ⟨rfl, F_passf m wx.1.1 hf (by have := wx.1.2; omega) fun r Z3 m3 e3 => hQ Z3 m3 fun q hq => by rw [e3 q hq, e q hq]⟩)
theorem gpass_w {fl : Int} (wx : WX a) (hf : -1 ≤ fl ∧ fl < a.1.2.1) : WFs (gpass fl a.1) := gpass_wf wx.1.1 hf (by have := wx.1.2; omega)
theorem X_closest {x1 : Int} (A : CX Z a) (wx : WX a) (h1 : zR x1) : TI (d + 5) 117 [.inr 0, .inl x1] Z (PostC Z (oq a (gunk x1 1) (vClosest a x1))) := by
  have hW : 5 ≤ a.1.2.1 ∧ a.1.2.1 ≤ 6 := wx.1.1.2.1
  refine w117_0 (C_unknown h1 (by decide) ⟨zR9 gb2, fun c => ?_, fun c => C_refuse (by have := @gb2 x1 1; omega) (PRq A c gb2)⟩)
  have eb : ∀ w, 0 ≤ gfl a w ∧ gfl a w ≤ 6 := fun w => gerrs_b
  have e6' := (now6 A (frs.refl SQ Z)).1
  refine w117_26 ⟨by decide, by unfold zR; omega, fun y => absurd y (by omega), fun _ => F_fed A wx (frs.refl _ _) (by omega) fun Z2 m _ => ⟨rfl, F_errs m (gpass_w wx (by omega)) ⟨by have := eb (-1); unfold gfl at this; unfold zR; omega, by decide, fun q => absurd q (by have := eb (-1); unfold gfl at this; omega), fun _ => ?_⟩⟩⟩
  suffices H : ∀ (f k : Nat) (x5 : Int) (o6 : Option zV) (Z1 : zM), x5 = k → 6 - x5 < f → x5 ≤ a.1.2.1 → frs SQ Z Z1 → TZ (d + 5) 117 26 [some (.inr 0), some (.inl x1), some (.inl (gunk x1 1)), some (.inl (gfl a ((gcl a k : Int) - 1))), some (.inl (gcl a k : Int)), some (.inl x5), o6] [] Z1 (zri (PostC Z (oq a (gunk x1 1) (vClosest a x1)))) from H 7 0 0 _ Z2 rfl (by decide) (by omega) m.1
  intro f
  induction f with
  | zero => intro k x5 o6 Z1 e y1 y2 f1; omega
  | succ f ih =>
    intro k x5 o6 Z1 e y1 y2 f1
    have e6 := (now6 A f1).1
    have ek := eb ((gcl a k : Int) - 1)
    refine w117_26 ⟨by unfold zR; omega, by unfold zR; omega, fun _ => ?_, fun y => F_fed A wx f1 (by omega) fun Z2 m _ => ⟨rfl, F_errs m (gpass_w wx (by omega)) ⟨by have := eb x5; unfold gfl at this; unfold zR; omega, by unfold zR; omega, fun q => ?_, fun q => ?_⟩⟩⟩
    · have ok := PQ (v := vClosest a x1) A c f1
      unfold vClosest at ok ⊢
      rw [show a.1.2.1.toNat = k by omega] at ok ⊢
      refine ⟨h1, fun e => ?_, fun e => ?_⟩
      · rw [if_neg e] at ok ⊢; exact ok
      · rw [if_pos (by omega)] at ok ⊢; exact ok
    · have st : gcl a (k + 1) = if gfl a ((gcl a k : Int) - 1) ≤ gfl a (k : Int) then gcl a k else k + 1 := rfl
      rw [← e] at st
      have q : gfl a ((gcl a k : Int) - 1) ≤ gfl a x5 := q
      have := ih (k + 1) (x5 + 1) (some (.inl (gerrs (gpass x5 a.1)))) Z2 (by omega) (by omega) (by omega) m.1
      rw [st, if_pos q] at this
      exact this
    · have st : gcl a (k + 1) = if gfl a ((gcl a k : Int) - 1) ≤ gfl a (k : Int) then gcl a k else k + 1 := rfl
      rw [← e] at st
      have q : ¬ gfl a ((gcl a k : Int) - 1) ≤ gfl a x5 := q
      have := ih (k + 1) (x5 + 1) (some (.inl (gerrs (gpass x5 a.1)))) Z2 (by omega) (by omega) (by omega) m.1
      rw [st, if_neg q, show ((k + 1 : Nat) : Int) - 1 = x5 by omega, show ((k + 1 : Nat) : Int) = x5 + 1 by omega] at this
      exact this
theorem G_220 {x1 : Int} {Q : Int → zM → Prop} (m : QS Z Z1 a) (wx : WX a) (h1 : -1 ≤ x1 ∧ x1 < a.1.2.1) (hQ : ∀ Z2, QS Z Z2 a → Q (gfl a x1) Z2) : TI (d + 4) 220 [.inr 100, .inl x1] Z1 Q :=
  w220_0 (G_thinks m wx fun Z2 k s => G_passf k wx wx.1.1 h1 (by have := wx.1.2; omega) fun r Z3 k3 s3 => G_wrong k3 (gpass_w wx h1) (G_forgets k3 wx fun Z4 l s4 => hQ Z4 l))
theorem Y_closest {x1 : Int} (A : RX Z a) (wx : WX a) (h1 : zR x1) : TI (d + 5) 221 [.inr 100, .inl x1] Z (PostR Z (oq a (gunk x1 1) (vClosest a x1))) := by
  have m := QS.refl A
  have hW : 5 ≤ a.1.2.1 ∧ a.1.2.1 ≤ 6 := wx.1.1.2.1
  have eb : ∀ w, 0 ≤ gfl a w ∧ gfl a w ≤ 6 := fun w => gerrs_b
  refine w221_0 (R_isIn h1 (by decide) (by decide) (fun i => ⟨by decide, fun _ => ?_, fun e => absurd (show (1 : Int) ≠ 0 by decide) e⟩) (fun i => ⟨by decide, fun e => absurd rfl e, fun _ => G_no m wx (gu2 i) (by decide)⟩))
  have hc := gunk_0.mpr i
  suffices H : ∀ (f k : Nat) (x3 : Int) (Z1 : zM), x3 = (k : Int) + 1 → 7 - x3 < f → x3 ≤ a.1.2.1 + 1 → QS Z Z1 a → TZ (d + 5) 221 20 [some (.inr 100), some (.inl x1), some (.inl (gcl a k : Int)), some (.inl x3)] [] Z1 (zri (PostR Z (oq a (gunk x1 1) (vClosest a x1)))) from H 8 0 1 Z rfl (by decide) (by omega) m
  intro f
  induction f with
  | zero => intro k x3 Z1 e y1 y2 l; omega
  | succ f ih =>
    intro k x3 Z1 e y1 y2 l
    have e6 := l.now.2.1
    have kb := gcl_b (a := a) k
    refine w221_20 ⟨by unfold zR; omega, by unfold zR; omega, fun _ => ?_, fun _ => G_220 l wx (by omega) fun Z2 l2 => G_220 l2 wx (by omega) fun Z3 l3 => ⟨by have := eb (x3 - 1); unfold zR; omega, by have := eb ((gcl a k : Int) - 1); unfold zR; omega, fun q => ?_, fun q => ?_⟩⟩
    · have ek : a.1.2.1.toNat = k := by omega
      refine ⟨h1, fun e => G_220 l wx (by omega) fun Z2 l2 => ?_, fun e => ?_⟩
      · have ok := G_ok (v := vClosest a x1) l2 hc
        unfold vClosest at ok ⊢
        rw [ek, if_neg e] at ok ⊢
        exact ok
      · have ok := G_ok (v := vClosest a x1) l hc
        unfold vClosest at ok ⊢
        rw [ek, if_pos (by omega)] at ok ⊢
        exact ok
    all_goals
      have st : gcl a (k + 1) = if gfl a ((gcl a k : Int) - 1) ≤ gfl a (k : Int) then gcl a k else k + 1 := rfl
      rw [show (k : Int) = x3 - 1 by omega] at st
      have := ih (k + 1) (x3 + 1) Z3 (by omega) (by omega) (by omega) l3
    · rw [st, if_pos q] at this; exact this
    · rw [st, if_neg q, show ((k + 1 : Nat) : Int) = x3 by omega] at this; exact this
theorem X_always {x1 x2 : Int} (A : CX Z a) (wx : WX a) (h1 : zR x1) (h2 : zR x2) : TI (d + 6) 123 [.inr 0, .inl x1, .inl x2] Z (PostC Z (oq a (geith (gin a.1.2.1 x1) (gunk x2 1)) (vAlways a x1 x2))) := by
  have hW : 5 ≤ a.1.2.1 ∧ a.1.2.1 ≤ 6 := wx.1.1.2.1
  have hh := wx.1.2
  have g := geith_b (gb1 (W := a.1.2.1) (w := x1)) (gb2 (x := x2) (m := 1))
  refine w123_0 (C_noWire h1 A.1.2.1 (by unfold zR; omega) (C_unknown h2 (by decide) (C_either (zR9 gb1) ⟨zR9 g, fun c => ?_, fun c => C_refuse (by omega) (PRq A c g)⟩)))
  have c1 := gin_0.mp (geith_0.mp c).1
  have s23 : ∀ {Z1 : zM} {s : gS}, MF Z Z1 s → Z1 23 x1 = gsat s x1 := fun m => (m.2.2.2.2.2 x1 c1.1 (by omega)).2
  refine F_think A wx (frs.refl _ _) fun Z' m _ => ⟨rfl, by omega, ?_⟩
  rw [s23 m]
  suffices H : ∀ (f k : Nat) (x7 : Int) (Z1 : zM), x7 = (k : Int) + 1 → 21 - x7 < f → x7 ≤ 21 → MF Z Z1 (ghf a x1 k) → TZ (d + 6) 123 45 [some (.inr 0), some (.inl x1), some (.inl x2), some (.inl (geith (gin a.1.2.1 x1) (gunk x2 1))), some (.inr 19), some (.inl (gal a x1 k).1), some (.inl (gal a x1 k).2), some (.inl x7)] [] Z1 (zri (PostC Z (oq a (geith (gin a.1.2.1 x1) (gunk x2 1)) (vAlways a x1 x2)))) from H 21 0 1 Z' rfl (by decide) (by decide) m
  intro f
  induction f with
  | zero => intro k x7 Z1 e y1 y2 m1; omega
  | succ f ih =>
    intro k x7 Z1 e y1 y2 m1
    have gb := gal_b wx (w := x1) ⟨by omega, c1.2⟩ k (by omega)
    have e3 := ghf_h (a := a) (fl := x1) (i := k) (by omega)
    have st0 := ghf_s (a := a) (fl := x1) (i := (k : Int)) (by omega)
    have wk := ghf_wf wx (fl := x1) ⟨by omega, c1.2⟩ k (by omega)
    refine w123_45 ⟨by unfold zR; omega, fun q => ?_, fun q => F_passf m1 wk (by rw [e3.2.1]; omega) (by rw [e3.1]; omega) fun r Z2 m2 _ => ?_⟩
    · have ok := PQ (v := vAlways a x1 x2) A c m1.1
      unfold vAlways at ok ⊢
      rw [show (20 : Nat) = k by omega] at ok ⊢
      refine ⟨h2, fun e => ?_, fun e => ?_⟩
      · rw [if_neg e] at ok ⊢; exact ok
      · rw [if_pos (by omega)] at ok ⊢; exact ok
    · rw [← st0] at m2
      have wk1 := ghf_wf wx (fl := x1) ⟨by omega, c1.2⟩ (k + 1) (by omega)
      have sb := gsat_b wk1 (w := x1)
      have ek : ((k + 1 : Nat) : Int) = (k : Int) + 1 := by omega
      rw [ek] at sb
      have st : gal a x1 (k + 1) = if gsat (ghf a x1 ((k : Int) + 1)) x1 ≤ (gal a x1 k).1 then gal a x1 k else (gsat (ghf a x1 ((k : Int) + 1)) x1, (k : Int) + 1) := rfl
      have ih' := ih (k + 1) (x7 + 1) Z2 (by omega) (by omega) (by omega) (by rw [ek]; exact m2)
      rw [s23 m2]
      refine ⟨by omega, by unfold zR; omega, by unfold zR; omega, fun q2 => ?_, fun q2 => ⟨by omega, ?_⟩⟩
      · rw [st, if_pos q2] at ih'; exact ih'
      · rw [st, if_neg q2, ← e] at ih'; rw [← e]; exact ih'
end
section
variable {d : Nat} {Z Z1 Z2 : zM} {a : gX} {s : gS} {i : Int}
theorem G_many {w : Int} {Q : Int → zM → Prop} (m : QE Z Z1 a s) (wf : WFs s) (hw : zR w) (hQ : Q (gsat s w) Z1) : TI d 159 [.inr 100, .inl w] Z1 Q :=
  R_many (n := s.1) (W := s.2.1) (h := s.2.2.1) (K := s.2.2.2.1) (F := s.2.2.2.2.1) (P := s.2.2.2.2.2.1) (T := s.2.2.2.2.2.2) m.1.1 (WF.pb wf) hw hQ
theorem Y_always {x1 x2 : Int} (A : RX Z a) (wx : WX a) (h1 : zR x1) (h2 : zR x2) : TI (d + 5) 255 [.inr 100, .inl x1, .inl x2] Z (PostR Z (oq a (geith (gin a.1.2.1 x1) (gunk x2 1)) (vAlways a x1 x2))) := by
  have m := QS.refl A
  have hW : 5 ≤ a.1.2.1 ∧ a.1.2.1 ≤ 6 := wx.1.1.2.1
  have hh := wx.1.2
  refine w255_0 (R_isWire m.now.2.1 (by unfold zR; omega) h1 (fun i => ⟨by decide, fun _ => R_isIn h2 (by decide) (by decide) (fun j => ⟨by decide, fun _ => G_thinks m wx fun Z9 k s => ?_, fun e => absurd (show (1 : Int) ≠ 0 by decide) e⟩) (fun j => ⟨by decide, fun e => absurd rfl e, fun _ => G_no m wx (by rw [ge0 (gin_0.mpr i), gu2 j]) (by decide)⟩), fun e => absurd (show (1 : Int) ≠ 0 by decide) e⟩) (fun i => ⟨by decide, fun e => absurd rfl e, fun _ => G_no m wx (by rw [gi1 i]; rfl) (by decide)⟩))
  have hc : geith (gin a.1.2.1 x1) (gunk x2 1) = 0 := geith_0.mpr ⟨gin_0.mpr i, gunk_0.mpr j⟩
  have hfl : -1 ≤ x1 ∧ x1 < a.1.2.1 := ⟨by omega, i.2⟩
  suffices H : ∀ (f k : Nat) (x6 : Int) (Z1 : zM), x6 = (k : Int) + 1 → 21 - x6 < f → x6 ≤ 21 → QE Z Z1 a (ghf a x1 ((k : Int) + 1)) → TZ (d + 5) 255 51 [some (.inr 100), some (.inl x1), some (.inl x2), some (.inl 0), some (.inl (gal a x1 k).1), some (.inl (gal a x1 k).2), some (.inl x6)] [] Z1 (zri (PostR Z (oq a (geith (gin a.1.2.1 x1) (gunk x2 1)) (vAlways a x1 x2)))) by
    have sb := gsat_b wx.1.1 (w := x1)
    have st0 := ghf_s (a := a) (fl := x1) (i := 0) (by decide)
    refine w255_51 ⟨by decide, fun q => absurd q (by decide), fun _ => G_many k wx.1.1 h1 ⟨by unfold zR; omega, by decide, fun q => absurd q (by omega), fun _ => G_many k wx.1.1 h1 (G_passf k wx wx.1.1 hfl (by omega) fun r Z3 k3 _ => H 21 0 1 Z3 rfl (by decide) (by decide) (by
      show QE Z Z3 a (ghf a x1 (0 + 1))
      rw [st0]; exact k3))⟩⟩
  intro f
  induction f with
  | zero => intro k x6 Z1 e y1 y2 m1; omega
  | succ f ih =>
    intro k x6 Z1 e y1 y2 m1
    have gb := gal_b wx (w := x1) hfl k (by omega)
    have e3 := ghf_h (a := a) (fl := x1) (i := (k : Int) + 1) (by omega)
    have st0 := ghf_s (a := a) (fl := x1) (i := (k : Int) + 1) (by omega)
    have wk := ghf_wf wx (fl := x1) hfl (k + 1) (by omega)
    rw [show ((k + 1 : Nat) : Int) = (k : Int) + 1 by omega] at wk
    have sb := gsat_b wk (w := x1)
    have st : gal a x1 (k + 1) = if gsat (ghf a x1 ((k : Int) + 1)) x1 ≤ (gal a x1 k).1 then gal a x1 k else (gsat (ghf a x1 ((k : Int) + 1)) x1, (k : Int) + 1) := rfl
    refine w255_51 ⟨by unfold zR; omega, fun q => G_forgets m1 wx fun Z3 l _ => ?_, fun q => G_many m1 wk h1 ⟨by unfold zR; omega, by unfold zR; omega, fun q2 => G_passf m1 wx wk (by rw [e3.2.1]; exact hfl) (by rw [e3.1]; omega) fun r Z3 k3 _ => ?_, fun q2 => G_many m1 wk h1 (G_passf m1 wx wk (by rw [e3.2.1]; exact hfl) (by rw [e3.1]; omega) fun r Z3 k3 _ => ?_)⟩⟩
    · have ok := G_ok (v := vAlways a x1 x2) l hc
      unfold vAlways at ok ⊢
      rw [show (20 : Nat) = k by omega] at ok ⊢
      refine ⟨h2, fun e => ?_, fun e => ?_⟩
      · rw [if_neg e] at ok ⊢; exact ok
      · rw [if_pos (by omega)] at ok ⊢; exact ok
    · have ih' := ih (k + 1) (x6 + 1) Z3 (by omega) (by omega) (by omega) (by
        rw [show ((k + 1 : Nat) : Int) = (k : Int) + 1 by omega, st0]; exact k3)
      rw [st, if_pos q2] at ih'; exact ih'
    · have ih' := ih (k + 1) (x6 + 1) Z3 (by omega) (by omega) (by omega) (by
        rw [show ((k + 1 : Nat) : Int) = (k : Int) + 1 by omega, st0]; exact k3)
      rw [st, if_neg q2] at ih'; rw [e] at ih' ⊢; exact ih'
end
