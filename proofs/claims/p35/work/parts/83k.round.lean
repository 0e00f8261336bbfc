/-! LOOKS with their very answers: round, trains -/
def gsq (P P' : Int → Int) : Nat → Bool
  | 0 => true
  | m + 1 => gsq P P' m && decide (P m = P' m)
theorem gsq_iff {P P' : Int → Int} : ∀ m : Nat, gsq P P' m = true ↔ ∀ b : Int, 0 ≤ b → b < m → P b = P' b
  | 0 => ⟨fun _ b h1 h2 => by omega, fun _ => rfl⟩
  | m + 1 => by
    unfold gsq
    rw [Bool.and_eq_true, gsq_iff m, decide_eq_true_eq]
    constructor
    · rintro ⟨h1, h2⟩ b b1 b2
      by_cases e : b = m
      · rw [e]; exact h2
      · exact h1 b b1 (by omega)
    · intro h
      exact ⟨fun b b1 b2 => h b b1 (by omega), h m (by omega) (by omega)⟩
def gsm (a : gX) (n : Int) : Bool := gsq (gh a n).2.2.2.2.2.1 a.1.2.2.2.2.2.1 a.1.1.toNat
def grd (a : gX) : Nat → Int → Int
  | 0, _ => -9
  | f + 1, n => if gsm a n = true then n else grd a f (n + 3)
section
variable {d : Nat} {Z Z1 Z2 : zM} {a : gX} {s : gS} {i : Int}
theorem F_same {Q : Int → zM → Prop} (A : CX Z a) (wx : WX a) (m : MF Z Z1 s) (wf : WFs s) (es : s.1 = a.1.1) (h1 : gsq s.2.2.2.2.2.1 a.1.2.2.2.2.2.1 a.1.1.toNat = true → Q 1 Z1) (h0 : ¬ gsq s.2.2.2.2.2.1 a.1.2.2.2.2.2.1 a.1.1.toNat = true → Q 0 Z1) : TI d 14 [.inr 19, .inr 1] Z1 Q := by
  have C1 : CFs 1 Z1 a.1 := CFf (k := 0) A.1 m.1
  have hn : 0 ≤ a.1.1 ∧ a.1.1 ≤ 8 := wx.1.1.1
  have hW : 5 ≤ a.1.2.1 ∧ a.1.2.1 ≤ 6 := wx.1.1.2.1
  have hW2 : 5 ≤ s.2.1 ∧ s.2.1 ≤ 6 := wf.2.1
  have e5 : Z1 19 5 = a.1.1 := by rw [← es]; exact m.2.1
  have g := @gsq_iff s.2.2.2.2.2.1 a.1.2.2.2.2.2.1 a.1.1.toNat
  refine w14_0 zF19 zF1 ?_
  suffices K : ∀ (f : Nat) (i : Int), f = (a.1.1 - i).toNat → 0 ≤ i → i ≤ a.1.1 → (∀ b, 0 ≤ b → b < i → s.2.2.2.2.2.1 b = a.1.2.2.2.2.2.1 b) → TZ d 14 2 [some (.inr 19), some (.inr 1), some (.inl i)] [] Z1 (zri Q) from K _ 0 rfl (by decide) hn.1 (fun b b1 b2 => by omega)
  intro f
  induction f with
  | zero =>
    intro i ef y1 y2 hv
    have e : i = a.1.1 := by omega
    exact w14_2 zF19 zF1 ⟨by unfold zR; omega, by unfold zR; omega, fun _ => h1 (g.mpr fun b b1 b2 => hv b b1 (by omega)), fun y => absurd (show Z1 19 5 ≤ i by omega) y⟩
  | succ f ih =>
    intro i ef y1 y2 hv
    have e3 : Z1 22 i = s.2.2.2.2.2.1 i := (m.2.2.2.2.1 i y1 (by rw [es]; omega)).2.2
    have e4 : Z1 4 i = a.1.2.2.2.2.2.1 i := (C1.2.2.2.1 i y1 (by omega)).2.2
    have b3 := (wf.2.2.2.1 i y1 (by rw [es]; omega)).2.2
    have b4 := (wx.1.1.2.2.2.1 i y1 (by omega)).2.2
    refine w14_2 zF19 zF1 ⟨by unfold zR; omega, by unfold zR; omega, fun y => absurd y (by omega), fun _ => ?_⟩
    show (0 ≤ i ∧ i < 8) ∧ (0 ≤ i ∧ i < 8) ∧ zR (Z1 22 i) ∧ zR (Z1 4 i) ∧ (Z1 22 i = Z1 4 i → _) ∧ (¬ Z1 22 i = Z1 4 i → _)
    rw [e3, e4]
    refine ⟨by omega, by omega, by unfold zR; omega, by unfold zR; omega, fun q => ih (i + 1) (by omega) (by omega) (by omega) fun b b1 b2 => ?_, fun q => h0 fun t => q (g.mp t i y1 (by omega))⟩
    by_cases e : b = i
    · rw [e]; exact q
    · exact hv b b1 (by omega)
theorem X_round (A : CX Z a) (wx : WX a) : TI (d + 5) 107 [.inr 0] Z (PostC Z (oq a 0 (grd a 20 3))) := by
  refine w107_0 (F_think A wx (frs.refl _ _) fun Z' m _ => ⟨rfl, ?_⟩)
  suffices H : ∀ (f : Nat) (x : Int) (Z1 : zM), x = 63 - 3 * (f : Int) → f ≤ 20 → MF Z Z1 (gh a (x - 3)) → grd a f x = grd a 20 3 → TZ (d + 5) 107 7 [some (.inr 0), some (.inr 19), some (.inl x)] [] Z1 (zri (PostC Z (oq a 0 (grd a 20 3)))) from H 20 3 Z' (by decide) (by decide) m rfl
  intro f
  induction f with
  | zero =>
    intro x Z1 ex y1 m1 hv
    refine w107_7 ⟨by unfold zR; omega, fun _ => ?_, fun y => absurd (show 60 < x by omega) y⟩
    have hv : grd a 20 3 = -9 := hv.symm
    rw [hv]; exact PQ A rfl m1.1
  | succ f ih =>
    intro x Z1 ex y1 m1 hv
    have e1 : x - 3 + 1 + 1 + 1 = x := by omega
    refine w107_7 ⟨by unfold zR; omega, fun y => by omega, fun y => F_pass m1 wx (by omega) fun Z2 m2 _ => F_pass m2 wx (by omega) fun Z3 m3 _ => F_pass m3 wx (by omega) fun Z4 m4 _ => ?_⟩
    rw [e1] at m4
    have st : grd a (f + 1) x = if gsm a x = true then x else grd a f (x + 3) := rfl
    rw [st] at hv
    refine F_same A wx m4 (gh_w wx (by omega)) (gh_h (by omega)).2.2 (fun c => ⟨by decide, fun q => absurd q (by decide), fun _ => ?_⟩) (fun c => ⟨by decide, fun _ => ih (x + 3) Z4 (by omega) (by omega) (by rw [show x + 3 - 3 = x by omega]; exact m4) ?_, fun q => absurd rfl q⟩)
    · rw [if_pos (show gsm a x = true from c)] at hv
      rw [← hv]; exact PQ A rfl m4.1
    · rw [if_neg (show ¬ gsm a x = true from c)] at hv; exact hv
theorem G_253 {Q : Int → zM → Prop} (wx : WX a) (m : QE Z Z1 a s) (wf : WFs s) (es : s.1 = a.1.1) (h : ∀ j, 0 ≤ j → j < a.1.1 → Z1 122 j = a.1.2.2.2.2.2.1 j) (h1 : gsq s.2.2.2.2.2.1 a.1.2.2.2.2.2.1 a.1.1.toNat = true → Q 1 Z1) (h0 : ¬ gsq s.2.2.2.2.2.1 a.1.2.2.2.2.2.1 a.1.1.toNat = true → Q 0 Z1) : TI d 253 [.inr 100] Z1 Q := by
  have hn : 0 ≤ a.1.1 ∧ a.1.1 ≤ 8 := wx.1.1.1
  have hW : 5 ≤ a.1.2.1 ∧ a.1.2.1 ≤ 6 := wx.1.1.2.1
  have hW2 : 5 ≤ s.2.1 ∧ s.2.1 ≤ 6 := wf.2.1
  have e5 : Z1 100 5 = a.1.1 := by rw [← es]; exact m.1.1.1
  have g := @gsq_iff s.2.2.2.2.2.1 a.1.2.2.2.2.2.1 a.1.1.toNat
  refine w253_0 ?_
  suffices K : ∀ (f : Nat) (i : Int), f = (a.1.1 - i).toNat → 0 ≤ i → i ≤ a.1.1 → (∀ b, 0 ≤ b → b < i → s.2.2.2.2.2.1 b = a.1.2.2.2.2.2.1 b) → TZ d 253 2 [some (.inr 100), some (.inl i)] [] Z1 (zri Q) from K _ 0 rfl (by decide) hn.1 (fun b b1 b2 => by omega)
  intro f
  induction f with
  | zero =>
    intro i ef y1 y2 hv
    have e : i = a.1.1 := by omega
    exact w253_2 ⟨by unfold zR; omega, by unfold zR; omega, fun _ => h1 (g.mpr fun b b1 b2 => hv b b1 (by omega)), fun y => absurd (show Z1 100 5 ≤ i by omega) y⟩
  | succ f ih =>
    intro i ef y1 y2 hv
    have e3 : Z1 105 i = s.2.2.2.2.2.1 i := (m.1.1.2.2.2.1 i y1 (by rw [es]; omega)).2.2
    have e4 := h i y1 (by omega)
    have b3 := (wf.2.2.2.1 i y1 (by rw [es]; omega)).2.2
    have b4 := (wx.1.1.2.2.2.1 i y1 (by omega)).2.2
    refine w253_2 ⟨by unfold zR; omega, by unfold zR; omega, fun y => absurd y (by omega), fun _ => ?_⟩
    rw [e3, e4]
    refine ⟨by omega, by omega, by unfold zR; omega, by unfold zR; omega, fun q => ih (i + 1) (by omega) (by omega) (by omega) fun b b1 b2 => ?_, fun q => h0 fun t => q (g.mp t i y1 (by omega))⟩
    by_cases e : b = i
    · rw [e]; exact q
    · exact hv b b1 (by omega)
theorem Y_round (A : RX Z a) (wx : WX a) : TI (d + 5) 254 [.inr 100] Z (PostR Z (oq a 0 (grd a 20 3))) := by
  have hn : 0 ≤ a.1.1 ∧ a.1.1 ≤ 8 := wx.1.1.1
  have main : ∀ (f : Nat) (x2 : Int) (Z1 : zM), 61 - x2 < f → 1 ≤ x2 → x2 ≤ 61 → QE Z Z1 a (gh a (x2 - 1)) → (∀ j, 0 ≤ j → j < a.1.1 → Z1 122 j = a.1.2.2.2.2.2.1 j) → grd a ((63 - 3 * ((x2 + 2) / 3)) / 3).toNat (3 * ((x2 + 2) / 3)) = grd a 20 3 → TZ (d + 5) 254 37 [some (.inr 100), some (.inl (-9)), some (.inl x2)] [] Z1 (zri (PostR Z (oq a 0 (grd a 20 3)))) := by
    intro f
    induction f with
    | zero => intro x2 Z1 y1 y2 y3 k h hv; omega
    | succ f ih =>
      intro x2 Z1 y1 y2 y3 k h hv
      have t : Int.tmod x2 3 = x2 % 3 := Int.tmod_eq_emod_of_nonneg (by omega)
      refine w254_37 ⟨by unfold zR; omega, fun c => G_forgets k wx fun Z3 l _ => ?_, fun c => ⟨by decide, fun q => absurd q (by decide), fun _ => G_pass k wx (by omega) fun Z3 k3 s3 => ?_⟩⟩
      · have e : x2 = 61 := by omega
        subst e
        have hv : grd a 20 3 = -9 := hv.symm
        rw [hv]; exact G_ok l rfl
      rw [show x2 - 1 + 1 = x2 by omega] at k3
      have h3 : ∀ j, 0 ≤ j → j < a.1.1 → Z3 122 j = a.1.2.2.2.2.2.1 j := fun j j1 j2 => by rw [s3 122 (by decide)]; exact h j j1 j2
      have k3' : QE Z Z3 a (gh a (x2 + 1 - 1)) := by rw [show x2 + 1 - 1 = x2 by omega]; exact k3
      rw [t]
      refine ⟨by unfold zR; omega, by unfold zR; omega, fun q => ih _ Z3 (by omega) (by omega) (by omega) k3' h3 ?_, fun q => ?_⟩
      · rw [show (x2 + 1 + 2) / 3 = (x2 + 2) / 3 by omega]; exact hv
      have q : x2 % 3 = 0 := by omega
      have e2 : 3 * ((x2 + 2) / 3) = x2 := by omega
      rw [e2] at hv
      have st : grd a ((63 - x2) / 3).toNat x2 = if gsm a x2 = true then x2 else grd a ((63 - (x2 + 3)) / 3).toNat (x2 + 3) := by
        rw [show ((63 - x2) / 3).toNat = ((63 - (x2 + 3)) / 3).toNat + 1 by omega]; rfl
      rw [st] at hv
      refine G_253 wx k3 (gh_w wx (by omega)) (gh_h (by omega)).2.2 h3 (fun c => ⟨by decide, fun e => absurd e (by decide), fun _ => ?_⟩) (fun c => ⟨by decide, fun _ => ih _ Z3 (by omega) (by omega) (by omega) k3' h3 ?_, fun e => absurd rfl e⟩)
      · have hv : x2 = grd a 20 3 := by
          have hv := hv
          rw [if_pos (show gsm a x2 = true from c)] at hv
          exact hv
        have fin : ∀ Z4, QS Z Z4 a → PostR Z (oq a 0 (grd a 20 3)) x2 Z4 := fun Z4 l => by
          have := G_ok (v := grd a 20 3) (code := 0) l rfl
          rw [← hv] at this ⊢; exact this
        exact w254_37 ⟨by unfold zR; omega, fun _ => G_forgets k3 wx fun Z4 l _ => fin Z4 l, fun c2 => ⟨by unfold zR; omega, fun _ => G_forgets k3 wx fun Z4 l _ => fin Z4 l, fun c3 => absurd (show 0 ≤ x2 by omega) c3⟩⟩
      · rw [if_neg (show ¬ gsm a x2 = true from c)] at hv
        rw [show 3 * ((x2 + 1 + 2) / 3) = x2 + 3 by omega]; exact hv
  refine w254_0 ?_
  suffices H : ∀ (f : Nat) (x1 : Int) (Z1 : zM), 8 - x1 < f → 0 ≤ x1 → x1 ≤ a.1.1 → QS Z Z1 a → (∀ j, 0 ≤ j → j < x1 → Z1 122 j = a.1.2.2.2.2.2.1 j) → TZ (d + 5) 254 2 [some (.inr 100), some (.inl x1), none] [] Z1 (zri (PostR Z (oq a 0 (grd a 20 3)))) from H 9 0 Z (by decide) (by decide) hn.1 (QS.refl A) (fun j j1 j2 => by omega)
  intro f
  induction f with
  | zero => intro x1 Z1 y1 y2 y3 l h; omega
  | succ f ih =>
    intro x1 Z1 y1 y2 y3 l h
    have e5 := l.now.1
    refine w254_2 ⟨by unfold zR; omega, by unfold zR; omega, fun c => G_thinks l wx fun Z4 k s => main 61 _ Z4 (by decide) (by decide) (by decide) k (fun j j1 j2 => by rw [s 122 (by decide)]; exact h j j1 (by omega)) rfl, fun c => ⟨by omega, by omega, fun Z7 e7 => ih _ Z7 (by omega) (by omega) (by omega) (by subst e7; exact l.up wx (by unfold scq; omega)) fun j j1 j2 => ?_⟩⟩
    rw [e7]
    by_cases e : j = x1
    · subst e; rw [zup_same]; exact (l.1.1.2.2.2.1 j j1 (by omega)).2.2
    · rw [zup_place _ _ _ _ e]; exact h j j1 (by omega)
end
/-- a train goes at v -/
def gtr (h p v : Int) : Bool := decide (h ≤ v) && decide ((v - h) % p = 0)
def gtn (a : gX) (h p : Int) (q : Bool) : Nat → Int
  | 0 => 0
  | m + 1 => gtn a h p q m + (if gtr h p ((a.1.2.2.1 + m) % 12) ≠ gtr h p (gshows (gh a m)) ∧ gtr h p ((a.1.2.2.1 + m) % 12) = q then 1 else 0)
def vTrains (a : gX) (x1 x2 x3 x4 : Int) : Int := gtn a x1 x2 (decide (x4 = 0)) (x3 + 1).toNat
section
variable {d : Nat} {Z Z1 Z2 : zM} {a : gX} {s : gS} {i : Int}
theorem gtn_s {h p : Int} {q : Bool} (hi : 0 ≤ i) : gtn a h p q (i + 1).toNat = gtn a h p q i.toNat + (if gtr h p ((a.1.2.2.1 + i) % 12) ≠ gtr h p (gshows (gh a i)) ∧ gtr h p ((a.1.2.2.1 + i) % 12) = q then 1 else 0) := by
  rw [show (i + 1).toNat = i.toNat + 1 by omega]
  show gtn a h p q i.toNat + (if gtr h p ((a.1.2.2.1 + ((i.toNat : Nat) : Int)) % 12) ≠ gtr h p (gshows (gh a ((i.toNat : Nat) : Int))) ∧ gtr h p ((a.1.2.2.1 + ((i.toNat : Nat) : Int)) % 12) = q then 1 else 0) = _
  rw [show ((i.toNat : Nat) : Int) = i by omega]
theorem X_trainsL {x1 x2 x3 h p c : Int} (A : CX Z a) (wx : WX a) (h2 : 0 ≤ x2 ∧ x2 ≤ 20) (h3 : x3 = 0 ∨ x3 = 1) (hb : ∀ v, 0 ≤ v → v < 12 → zb x1 v.toNat = gtr h p v) (hc : c = 0) : TI (d + 5) 109 [.inr 0, .inl x1, .inl x2, .inl x3] Z (PostC Z (oq a c (gtn a h p (decide (x3 = 1)) (x2 + 1).toNat))) := by
  have z3 : zR x3 := by rcases h3 with rfl | rfl <;> decide
  have hh : 0 ≤ a.1.2.2.1 ∧ a.1.2.2.1 ≤ 999 := ⟨wx.1.1.2.2.1.1, wx.1.2⟩
  refine w109_0 (F_think A wx (frs.refl _ _) fun Z' m _ => ⟨rfl, ?_⟩)
  refine F_upto (n := x2 + 1) (by omega) (P := fun i Z1 => ∀ o7 o8, TZ (d + 5) 109 12 [some (.inr 0), some (.inl x1), some (.inl x2), some (.inl x3), some (.inr 19), some (.inl (gtn a h p (decide (x3 = 1)) i.toNat)), some (.inl i), o7, o8] [] Z1 (zri (PostC Z (oq a c (gtn a h p (decide (x3 = 1)) (x2 + 1).toNat))))) (fun Z1 m1 o7 o8 => ?_) (fun i Z1 i1 i2 m1 ih o7 o8 => ?_) Z' m none none
  · exact w109_12 ⟨by unfold zR; omega, by unfold zR; omega, fun _ => PQ A hc m1.1, fun y => absurd (show x2 < x2 + 1 by omega) y⟩
  · have e7 : Z1 19 7 = a.1.2.2.1 + i := by rw [← (gh_h (a := a) i1).1]; exact m1.2.2.2.1
    have t : Int.tmod (Z1 19 7) 12 = (a.1.2.2.1 + i) % 12 := by rw [e7]; exact Int.tmod_eq_emod_of_nonneg (by omega)
    have b : 0 ≤ gshows (gh a i) ∧ gshows (gh a i) < 12 := gshow_b (gh_w wx (by omega))
    have Pp : ∀ v o7 o8, v = gtn a h p (decide (x3 = 1)) (i + 1).toNat → TI (d + 4) 25 [.inr 19, .inl (-1)] Z1 (fun _ Z11 => TZ (d + 5) 109 12 [some (.inr 0), some (.inl x1), some (.inl x2), some (.inl x3), some (.inr 19), some (.inl v), some (.inl (i + 1)), o7, o8] [] Z11 (zri (PostC Z (oq a c (gtn a h p (decide (x3 = 1)) (x2 + 1).toNat))))) := fun v o7 o8 e => by subst e; exact F_pass m1 wx (by omega) fun Z2 m2 _ => ih Z2 m2 _ _
    refine w109_12 ⟨by unfold zR; omega, by unfold zR; omega, fun y => absurd y (by omega), fun _ => ⟨by unfold zR; omega, ?_⟩⟩
    have st := gtn_s (a := a) (h := h) (p := p) (q := decide (x3 = 1)) i1
    rw [t, zb_test (by omega), hb _ (by omega) (by omega)]
    have B := hb (gshows (gh a i)) b.1 b.2
    refine ⟨zr01 _, fun c1 => F_shows m1 (gh_w wx (by omega)) ?_, fun c1 => F_shows m1 (gh_w wx (by omega)) ?_⟩
    · have g1 : gtr h p ((a.1.2.2.1 + i) % 12) = false := by
        cases e : gtr h p ((a.1.2.2.1 + i) % 12)
        · rfl
        · rw [e] at c1; exact absurd rfl c1
      rw [zb_test (by omega), B]
      refine ⟨zr01 _, fun c2 => Pp _ _ _ ?_, fun c2 => ⟨z3, fun c3 => Pp _ _ _ ?_, fun c3 => Pp _ _ _ ?_⟩⟩
      all_goals rw [st, g1]
      · have g2 : gtr h p (gshows (gh a i)) = false := by
          cases e : gtr h p (gshows (gh a i))
          · rfl
          · rw [e] at c2; exact absurd rfl c2
        rw [g2, if_neg (fun x => x.1 rfl), Int.add_zero]
      · have e3 : x3 = 1 := by omega
        rw [e3, if_neg (fun x => absurd x.2 (by decide)), Int.add_zero]
      · have e3 : x3 = 0 := by omega
        have g2 : gtr h p (gshows (gh a i)) = true := by
          cases e : gtr h p (gshows (gh a i))
          · rw [e] at c2; exact absurd (by decide) c2
          · rfl
        rw [e3, g2, if_pos ⟨by decide, by decide⟩]
    · have g1 : gtr h p ((a.1.2.2.1 + i) % 12) = true := by
        cases e : gtr h p ((a.1.2.2.1 + i) % 12)
        · rw [e] at c1; exact absurd (by decide) c1
        · rfl
      rw [zb_test (by omega), B]
      refine ⟨zr01 _, fun c2 => ⟨z3, fun c3 => Pp _ _ _ ?_, fun c3 => Pp _ _ _ ?_⟩, fun c2 => Pp _ _ _ ?_⟩
      all_goals rw [st, g1]
      · have e3 : x3 = 0 := by omega
        rw [e3, if_neg (fun x => absurd x.2 (by decide)), Int.add_zero]
      · have e3 : x3 = 1 := by omega
        have g2 : gtr h p (gshows (gh a i)) = false := by
          cases e : gtr h p (gshows (gh a i))
          · rfl
          · rw [e] at c2; exact absurd rfl c2
        rw [e3, g2, if_pos ⟨by decide, by decide⟩]
      · have g2 : gtr h p (gshows (gh a i)) = true := by
          cases e : gtr h p (gshows (gh a i))
          · rw [e] at c2; exact absurd (by decide) c2
          · rfl
        rw [g2, if_neg (fun x => x.1 rfl), Int.add_zero]
theorem gtr_up {h p v x : Int} (hp : 1 ≤ p) (hx : ∃ k : Int, 0 ≤ k ∧ x = h + p * k) : (decide (h ≤ v ∧ v < x ∧ (v - h) % p = 0) || decide (v = x)) = decide (h ≤ v ∧ v < x + p ∧ (v - h) % p = 0) := by
  obtain ⟨k, hk, e⟩ := hx
  rw [← Bool.decide_or]
  refine decide_eq_decide.mpr ⟨?_, ?_⟩
  · rintro (⟨h1, h2, h3⟩ | h1)
    · exact ⟨h1, by omega, h3⟩
    · refine ⟨?_, by omega, ?_⟩
      · rw [h1, e]
        have := Int.mul_nonneg (show 0 ≤ p by omega) hk
        omega
      · rw [h1, e, show h + p * k - h = p * k by omega]
        exact Int.mul_emod_right _ _
  · rintro ⟨h1, h2, h3⟩
    by_cases c : v < x
    · exact Or.inl ⟨h1, c, h3⟩
    · refine Or.inr ?_
      have q := Int.emod_add_mul_ediv (v - h) p
      rw [h3] at q
      have q2 : v - h = p * ((v - h) / p) := by omega
      have : (v - h) / p = k := by
        have l1 : p * k ≤ p * ((v - h) / p) := by omega
        have l2 : p * ((v - h) / p) < p * (k + 1) := by rw [Int.mul_add]; omega
        have a1 := Int.le_of_mul_le_mul_left l1 (by omega)
        have a2 := Int.lt_of_mul_lt_mul_left l2 (by omega)
        omega
      rw [this] at q2
      omega
theorem X_trains {x1 x2 x3 x4 : Int} (A : CX Z a) (wx : WX a) (h1 : zR x1) (h2 : zR x2) (h3 : zR x3) (h4 : zR x4) : TI (d + 6) 108 [.inr 0, .inl x1, .inl x2, .inl x3, .inl x4] Z (PostC Z (oq a (ctrains x1 x2 x3 x4) (vTrains a x1 x2 x3 x4))) := by
  have cb := @ctrains_b x1 x2 x3 x4
  have body : ∀ c0 : Int, ctrains x1 x2 x3 x4 = geith c0 (gunk x4 1) → zR c0 → (c0 = 0 → (0 ≤ x1 ∧ x1 < 12) ∧ (1 ≤ x2 ∧ x2 ≤ 12) ∧ 0 ≤ x3 ∧ x3 ≤ 20) → TI (d + 5) 75 [.inl x4, .inl 1] Z (fun r4 Z3 => TI (d + 5) 72 [.inl c0, .inl r4] Z3 (fun r6 Z5 => zR r6 ∧ (r6 = 0 → TZ (d + 6) 108 76 [some (.inr 0), some (.inl x1), some (.inl x2), some (.inl x3), some (.inl x4), some (.inl r6), some (.inl 0), some (.inl x1)] [] Z5 (zri (PostC Z (oq a (ctrains x1 x2 x3 x4) (vTrains a x1 x2 x3 x4))))) ∧ (¬ r6 = 0 → TI (d + 5) 71 [.inr 0, .inl r6] Z5 (fun r10 Z9 => PostC Z (oq a (ctrains x1 x2 x3 x4) (vTrains a x1 x2 x3 x4)) r10 Z9)))) := by
    intro c0 e hz h0
    refine C_unknown h4 (by decide) (C_either hz ?_)
    rw [← e]
    refine ⟨zR9 cb, fun c => ?_, fun c => C_refuse (by omega) (PRq A c cb)⟩
    rw [e] at c
    obtain ⟨b1, b2, b3⟩ := h0 (geith_0.mp c).1
    have x4b := gunk_0.mp (geith_0.mp c).2
    rw [← e] at c
    suffices H : ∀ (f : Nat) (x6 x7 : Int), 12 - x7 < f → 0 ≤ x7 → x7 ≤ 30 → (∃ k : Int, 0 ≤ k ∧ x7 = x1 + x2 * k) → (∀ v : Int, 0 ≤ v → v < 12 → zb x6 v.toNat = decide (x1 ≤ v ∧ v < x7 ∧ (v - x1) % x2 = 0)) → TZ (d + 6) 108 76 [some (.inr 0), some (.inl x1), some (.inl x2), some (.inl x3), some (.inl x4), some (.inl (ctrains x1 x2 x3 x4)), some (.inl x6), some (.inl x7)] [] Z (zri (PostC Z (oq a (ctrains x1 x2 x3 x4) (vTrains a x1 x2 x3 x4)))) from H 13 0 x1 (by omega) (by omega) (by omega) ⟨0, by decide, by omega⟩ (fun v v1 v2 => by rw [zb_0, decide_eq_false (by omega)])
    intro f
    have fins : ∀ x6 x7 : Int, 12 ≤ x7 → x7 ≤ 30 → (∀ v : Int, 0 ≤ v → v < 12 → zb x6 v.toNat = decide (x1 ≤ v ∧ v < x7 ∧ (v - x1) % x2 = 0)) → TZ (d + 6) 108 76 [some (.inr 0), some (.inl x1), some (.inl x2), some (.inl x3), some (.inl x4), some (.inl (ctrains x1 x2 x3 x4)), some (.inl x6), some (.inl x7)] [] Z (zri (PostC Z (oq a (ctrains x1 x2 x3 x4) (vTrains a x1 x2 x3 x4)))) := by
      intro x6 x7 y2 y3 hb
      have fin : ∀ v, 0 ≤ v → v < 12 → zb x6 v.toNat = gtr x1 x2 v := fun v v1 v2 => by
        rw [hb v v1 v2]
        unfold gtr
        rw [← Bool.decide_and]
        exact decide_eq_decide.mpr ⟨fun x => ⟨x.1, x.2.2⟩, fun x => ⟨x.1, by omega, x.2⟩⟩
      refine w108_76 ⟨by unfold zR; omega, fun c12 => ⟨h4, fun q => ?_, fun q => ?_⟩, fun y => absurd y2 y⟩
      · have := X_trainsL (d := d) (x3 := 0) (c := ctrains x1 x2 x3 x4) A wx b3 (Or.inl rfl) fin c
        unfold vTrains
        rw [decide_eq_false q]
        exact this
      · have := X_trainsL (d := d) (x3 := 1) (c := ctrains x1 x2 x3 x4) A wx b3 (Or.inr rfl) fin c
        unfold vTrains
        rw [decide_eq_true (show x4 = 0 by omega)]
        exact this
    induction f with
    | zero => intro x6 x7 y1 y2 y3 hk hb; exact fins x6 x7 (by omega) y3 hb
    | succ f ih =>
      intro x6 x7 y1 y2 y3 hk hb
      by_cases c12 : 12 ≤ x7
      · exact fins x6 x7 c12 y3 hb
      refine w108_76 ⟨by unfold zR; omega, fun c => absurd c c12, fun y => ih _ _ (by omega) (by omega) (by omega) ?_ ?_⟩
      · obtain ⟨k, k1, k2⟩ := hk
        exact ⟨k + 1, by omega, by rw [Int.mul_add]; omega⟩
      · intro v v1 v2
        rw [zb_or, hb v v1 v2, zb_one (by omega), ← gtr_up b2.1 hk, show ((v.toNat : Nat) : Int) = v by omega]
  have low : (x1 < 0 ∨ x2 < 1 ∨ x3 < 0) → ctrains x1 x2 x3 x4 = geith (-4) (gunk x4 1) := fun h => by unfold ctrains; rw [if_pos h]
  have high : ¬ (x1 < 0 ∨ x2 < 1 ∨ x3 < 0) → (12 ≤ x1 ∨ 12 < x2 ∨ 20 < x3) → ctrains x1 x2 x3 x4 = geith (-6) (gunk x4 1) := fun h g => by unfold ctrains; rw [if_neg h, if_pos g]
  have fine : ¬ (x1 < 0 ∨ x2 < 1 ∨ x3 < 0) → ¬ (12 ≤ x1 ∨ 12 < x2 ∨ 20 < x3) → ctrains x1 x2 x3 x4 = geith 0 (gunk x4 1) := fun h g => by unfold ctrains; rw [if_neg h, if_neg g]
  refine w108_0 ⟨h1, fun c => body (-4) (low (Or.inl c)) (by decide) (fun y => absurd y (by decide)), fun c => ⟨h2, fun c2 => body (-4) (low (by omega)) (by decide) (fun y => absurd y (by decide)), fun c2 => ⟨h3, fun c3 => ⟨h1, fun c4 => body (-6) (high (by omega) (by omega)) (by decide) (fun y => absurd y (by decide)), fun c4 => ⟨h2, fun c5 => body (-6) (high (by omega) (by omega)) (by decide) (fun y => absurd y (by decide)), fun c5 => ⟨h3, fun c6 => body 0 (fine (by omega) (by omega)) (by decide) (fun _ => by omega), fun c6 => body (-6) (high (by omega) (by omega)) (by decide) (fun y => absurd y (by decide))⟩⟩⟩, fun c3 => body (-4) (low (by omega)) (by decide) (fun y => absurd y (by decide))⟩⟩⟩
theorem R_train {x0 x1 x2 : Int} {Q : Int → zM → Prop} (h0 : -20 ≤ x0 ∧ x0 ≤ 20) (h1 : 0 ≤ x1 ∧ x1 ≤ 20) (h2 : 1 ≤ x2 ∧ x2 ≤ 12) (hQ : Q (if gtr x1 x2 x0 = true then 1 else 0) Z1) : TI d 242 [.inl x0, .inl x1, .inl x2] Z1 Q := by
  have b1 := Int.emod_nonneg (x0 - x1) (show x2 ≠ 0 by omega)
  have b2 := Int.emod_lt_of_pos (x0 - x1) (show 0 < x2 by omega)
  refine w242_0 ⟨by unfold zR; omega, by unfold zR; omega, fun c => ?_, fun c => ?_⟩
  · unfold gtr at hQ
    rw [decide_eq_false (show ¬ x1 ≤ x0 by omega)] at hQ
    exact hQ
  · have e : Int.tmod (x0 - x1) x2 = (x0 - x1) % x2 := Int.tmod_eq_emod_of_nonneg (by omega)
    unfold gtr at hQ
    rw [decide_eq_true (show x1 ≤ x0 by omega)] at hQ
    rw [e]
    refine ⟨by unfold zR; omega, by omega, by unfold zR; omega, fun c2 => ?_, fun c2 => ?_⟩
    · rw [decide_eq_false c2] at hQ; exact hQ
    · rw [decide_eq_true (show (x0 - x1) % x2 = 0 by omega)] at hQ; exact hQ
theorem Y_trains {x1 x2 x3 x4 : Int} (A : RX Z a) (wx : WX a) (h1 : zR x1) (h2 : zR x2) (h3 : zR x3) (h4 : zR x4) : TI (d + 5) 243 [.inr 100, .inl x1, .inl x2, .inl x3, .inl x4] Z (PostR Z (oq a (ctrains x1 x2 x3 x4) (vTrains a x1 x2 x3 x4))) := by
  have m := QS.refl A
  refine w243_0 ⟨h1, fun c => G_no m wx (by unfold ctrains; rw [if_pos (Or.inl c)]; rfl) (by decide), fun c1 => ⟨h2, fun c => G_no m wx (by unfold ctrains; rw [if_pos (by omega)]; rfl) (by decide), fun c2 => ⟨h3, fun c3 => ⟨h1, fun c => G_no m wx (by unfold ctrains; rw [if_neg (by omega), if_pos (by omega)]; rfl) (by decide), fun c4 => ⟨h2, fun c => G_no m wx (by unfold ctrains; rw [if_neg (by omega), if_pos (by omega)]; rfl) (by decide), fun c5 => ⟨h3, fun c6 => R_isIn h4 (by decide) (by decide) (fun i => ⟨by decide, fun _ => G_205 m wx (by omega) fun Z2 l hf _ => ?_, fun e => absurd (show (1 : Int) ≠ 0 by decide) e⟩) (fun i => ⟨by decide, fun e => absurd rfl e, fun _ => G_no m wx (by unfold ctrains; rw [if_neg (by omega), if_neg (by omega), ge0 rfl]; exact gu2 i) (by decide)⟩), fun c => G_no m wx (by unfold ctrains; rw [if_neg (by omega), if_pos (by omega)]; rfl) (by decide)⟩⟩⟩, fun c => G_no m wx (by unfold ctrains; rw [if_pos (by omega)]; rfl) (by decide)⟩⟩⟩
  have hc : ctrains x1 x2 x3 x4 = 0 := by unfold ctrains; rw [if_neg (by omega), if_neg (by omega), ge0 rfl]; exact gunk_0.mpr i
  have e7 := l.now.2.2.1
  have hh : 0 ≤ a.1.2.2.1 ∧ a.1.2.2.1 ≤ 999 := ⟨wx.1.1.2.2.1.1, wx.1.2⟩
  suffices H : ∀ (f : Nat) (x7 : Int) (o8 o9 : Option zV), 21 - x7 < f → 0 ≤ x7 → x7 ≤ x3 + 1 → TZ (d + 5) 243 82 [some (.inr 100), some (.inl x1), some (.inl x2), some (.inl x3), some (.inl x4), some (.inl 0), some (.inl (gtn a x1 x2 (decide (x4 = 0)) x7.toNat)), some (.inl x7), o8, o9] [] Z2 (zri (PostR Z (oq a (ctrains x1 x2 x3 x4) (vTrains a x1 x2 x3 x4)))) from H 22 0 none none (by decide) (by decide) (by omega)
  intro f
  induction f with
  | zero => intro x7 o8 o9 y1 y2 y3; omega
  | succ f ih =>
    intro x7 o8 o9 y1 y2 y3
    have t : Int.tmod (Z2 100 7 + x7) 12 = (a.1.2.2.1 + x7) % 12 := by rw [e7]; exact Int.tmod_eq_emod_of_nonneg (by omega)
    have b : 0 ≤ gshows (gh a x7) ∧ gshows (gh a x7) < 12 := gshow_b (gh_w wx (by omega))
    refine w243_82 ⟨by unfold zR; omega, by unfold zR; omega, fun y => ?_, fun y => ⟨by unfold zR; omega, ?_⟩⟩
    · have := G_ok (v := vTrains a x1 x2 x3 x4) l hc
      unfold vTrains at this ⊢
      rw [show (x3 + 1).toNat = x7.toNat by omega] at this ⊢
      exact this
    rw [t]
    refine R_train (by omega) (by omega) (by omega) ⟨by omega, ?_⟩
    rw [(hf x7 y2 (by omega)).1]
    refine R_train (by omega) (by omega) (by omega) ?_
    have st := gtn_s (a := a) (h := x1) (p := x2) (q := decide (x4 = 0)) y2
    have nx : ∀ v r r9, v = gtn a x1 x2 (decide (x4 = 0)) (x7 + 1).toNat → TZ (d + 5) 243 82 [some (.inr 100), some (.inl x1), some (.inl x2), some (.inl x3), some (.inl x4), some (.inl 0), some (.inl v), some (.inl (x7 + 1)), some (.inl r), some (.inl r9)] [] Z2 (zri (PostR Z (oq a (ctrains x1 x2 x3 x4) (vTrains a x1 x2 x3 x4)))) := fun v r r9 e => by subst e; exact ih _ _ _ (by omega) (by omega) (by omega)
    refine ⟨zr01 _, zr01 _, fun c => nx _ _ _ ?_, fun c => ⟨h4, fun q => ⟨zr01 _, fun c2 => nx _ _ _ ?_, fun c2 => nx _ _ _ ?_⟩, fun q => ⟨zr01 _, fun c2 => nx _ _ _ ?_, fun c2 => nx _ _ _ ?_⟩⟩⟩
    all_goals
      rw [st]
      generalize gtr x1 x2 ((a.1.2.2.1 + x7) % 12) = g1 at *
      generalize gtr x1 x2 (gshows (gh a x7)) = g2 at *
    · cases g1 <;> cases g2 <;> first | rfl | exact absurd c (by decide)
    · rw [decide_eq_false q]
      cases g1 <;> cases g2 <;> first | rfl | exact absurd rfl c | exact absurd (by decide) c2 | exact absurd c2 (by decide)
    · rw [decide_eq_false q]
      cases g1 <;> cases g2 <;> first | rfl | exact absurd rfl c | exact absurd (by decide) c2 | exact absurd c2 (by decide)
    · rw [decide_eq_true (show x4 = 0 by omega)]
      cases g1 <;> cases g2 <;> first | rfl | exact absurd rfl c | exact absurd (by decide) c2 | exact absurd c2 (by decide)
    · rw [decide_eq_true (show x4 = 0 by omega)]
      cases g1 <;> cases g2 <;> first | rfl | exact absurd rfl c | exact absurd (by decide) c2 | exact absurd c2 (by decide)
end
