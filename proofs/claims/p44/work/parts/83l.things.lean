/-! LOOKS with their very answers: the eight things -/
theorem ghours_in (fl : Int) : ∀ (k : Nat) (s : gS), ghours fl (k + 1) s = ghours fl k (gpass fl s)
  | 0, _ => rfl
  | k + 1, s => by
    show gpass fl (ghours fl (k + 1) s) = gpass fl (ghours fl k (gpass fl s))
    rw [ghours_in fl k s]
theorem gun_iff {r : Int → Int} : ∀ (f : Nat) (i : Int) (s : gS), 0 ≤ i → (gun r f i s = -9 ↔ ∀ k : Nat, k < f → gshows (ghours (-1) k s) = r (i + k))
  | 0, i, s, _ => ⟨fun _ k hk => by omega, fun _ => rfl⟩
  | f + 1, i, s, hi => by
    have ih := gun_iff (r := r) f (i + 1) (gpass (-1) s) (by omega)
    unfold gun
    split
    · next c =>
      rw [ih]
      constructor
      · intro h k hk
        cases k with
        | zero => rw [show i + ((0 : Nat) : Int) = i by omega]; exact c
        | succ k =>
          rw [ghours_in, h k (by omega), show i + ((k + 1 : Nat) : Int) = i + 1 + (k : Int) by omega]
      · intro h k hk
        rw [← ghours_in, h (k + 1) (by omega), show i + ((k + 1 : Nat) : Int) = i + 1 + (k : Int) by omega]
    · next c =>
      constructor
      · intro h; omega
      · intro h
        have := h 0 (by omega)
        rw [show i + ((0 : Nat) : Int) = i by omega] at this
        exact absurd this c
theorem gun_b {r : Int → Int} : ∀ (f : Nat) (i : Int) (s : gS), gun r f i s = -9 ∨ (i ≤ gun r f i s ∧ gun r f i s < i + f)
  | 0, i, s => Or.inl rfl
  | f + 1, i, s => by
    have ih := gun_b (r := r) f (i + 1) (gpass (-1) s)
    unfold gun
    split
    · omega
    · omega
def gtm (t : Int) (s : gS) : gS := match s with | (n, W, h, K, F, P, T) => (n, W, h, K, F, gthing n W P t, T)
theorem gtm_wf {t : Int} {s : gS} (wf : WFs s) (ht : 0 ≤ t ∧ t ≤ 7) : WFs (gtm t s) := by
  obtain ⟨n, W, h, K, F, P, T⟩ := s
  exact gthing_wf wf ht
theorem gtm_h {t : Int} {s : gS} : (gtm t s).2.2.1 = s.2.2.1 ∧ (gtm t s).2.1 = s.2.1 ∧ (gtm t s).1 = s.1 := by
  obtain ⟨n, W, h, K, F, P, T⟩ := s
  exact ⟨rfl, rfl, rfl⟩
theorem ghours_w1 {s : gS} (wf : WFs s) (hh : s.2.2.1 ≤ 999) : ∀ m : Nat, m ≤ 1000 → WFs (ghours (-1) m s)
  | 0, _ => wf
  | m + 1, hm => by
    have w := ghours_w1 wf hh m (by omega)
    have e := ghours_h (fl := -1) m s
    have hW : 5 ≤ s.2.1 ∧ s.2.1 ≤ 6 := wf.2.1
    exact gpass_wf w (by rw [e.2.1]; omega) (by rw [e.1]; omega)
/-- behind a thing and i hours -/
def gtg (a : gX) (t i : Int) : gS := ghours (-1) i.toNat (gtm t a.1)
theorem gtg_s {a : gX} {t i : Int} (h : 0 ≤ i) : gtg a t (i + 1) = gpass (-1) (gtg a t i) := by
  unfold gtg
  rw [show (i + 1).toNat = i.toNat + 1 by omega]
  rfl
theorem gtg_wf {a : gX} {t i : Int} (wx : WX a) (ht : 0 ≤ t ∧ t ≤ 7) (h : 0 ≤ i ∧ i ≤ 1000) : WFs (gtg a t i) :=
  ghours_w1 (gtm_wf wx.1.1 ht) (by rw [gtm_h.1]; exact wx.1.2) _ (by omega)
theorem gtg_h {a : gX} {t i : Int} (h : 0 ≤ i) : (gtg a t i).2.2.1 = a.1.2.2.1 + i ∧ (gtg a t i).2.1 = a.1.2.1 := by
  have e := ghours_h (fl := -1) i.toNat (gtm t a.1)
  have g := gtm_h (t := t) (s := a.1)
  unfold gtg
  exact ⟨by rw [e.1, g.1]; omega, by rw [e.2.1, g.2.1]⟩
def ghp (a : gX) (t : Int) : Bool := decide (gun a.2.2.2.2.1.2 a.2.2.2.2.1.1.toNat 0 (gtm t a.1) = -9)
def ghap (a : gX) : Nat → Int
  | 0 => 0
  | m + 1 => if ghp a m = true then zbit 4 (ghap a m) (zbit 6 1 m) else ghap a m
theorem ghap_r {a : gX} : ∀ m : Nat, zR (ghap a m)
  | 0 => by unfold ghap; decide
  | m + 1 => by
    unfold ghap
    split
    · exact zbit_r _ _ _
    · exact ghap_r m
theorem ghap_b {a : gX} {i : Nat} : ∀ m : Nat, m ≤ 8 → zb (ghap a m) i = (decide (i < m) && ghp a i)
  | 0, _ => by unfold ghap; rw [zb_0, decide_eq_false (by omega)]; rfl
  | m + 1, hm => by
    have ih := ghap_b (a := a) (i := i) m (by omega)
    unfold ghap
    by_cases e : i = m
    · subst e
      rw [decide_eq_false (by omega)] at ih
      rw [decide_eq_true (by omega)]
      split
      · next c => rw [zb_or, ih, zb_one (by omega), decide_eq_true rfl, c]; rfl
      · next c =>
        rw [ih]
        cases h : ghp a (i : Int)
        · rfl
        · exact absurd h c
    · have e2 : decide (i < m + 1) = decide (i < m) := decide_eq_decide.mpr (by omega)
      rw [e2]
      split
      · next c => rw [zb_or, ih, zb_one (by omega), decide_eq_false (show ¬ (i : Int) = m by omega), Bool.or_false]
      · exact ih
section
variable {d : Nat} {Z Z1 Z2 : zM} {a : gX} {s : gS} {i : Int}
theorem F_und {t : Int} {Q : zM → Prop} (m : MF Z Z1 s) (wf : WFs s) (ht : 0 ≤ t ∧ t ≤ 7) (hQ : ∀ Z', MF Z Z' (gtm t s) → outm Z1 Z' → Q Z') : TV (d + 3) 31 [.inr 19, .inl t] Z1 Q := by
  obtain ⟨n, W, h, K, F, P, T⟩ := s
  exact C_undergo zF19 m.2 wf ht fun Z' C f' => hQ Z' ⟨m.1.trans (fr19 f'), C⟩ fun q hq => f' q (by omega)
theorem X_happened (A : CX Z a) (wx : WX a) : TI (d + 5) 110 [.inr 0] Z (PostC Z (oq a 0 (ghap a 8))) := by
  refine w110_0 ?_
  suffices H : ∀ (f m : Nat) (x2 : Int) (o3 : Option zV) (Z1 : zM), x2 = m → f = 8 - m → m ≤ 8 → frs SQ Z Z1 → TZ (d + 5) 110 4 [some (.inr 0), some (.inl (ghap a m)), some (.inl x2), o3] [] Z1 (zri (PostC Z (oq a 0 (ghap a 8)))) from H 8 0 0 none Z rfl rfl (by decide) (frs.refl _ _)
  intro f
  induction f with
  | zero =>
    intro m x2 o3 Z1 e y1 y2 f1
    have em : m = 8 := by omega
    subst em
    exact w110_4 ⟨by unfold zR; omega, fun _ => PQ A rfl f1, fun y => absurd (show 8 ≤ x2 by omega) y⟩
  | succ f ih =>
    intro m x2 o3 Z1 e y1 y2 f1
    have st : ghap a (m + 1) = if ghp a m = true then zbit 4 (ghap a m) (zbit 6 1 m) else ghap a m := rfl
    rw [← e] at st
    refine w110_4 ⟨by unfold zR; omega, fun c => by omega, fun y => F_think A wx f1 fun Z2 m2 _ => ⟨rfl, F_und m2 wx.1.1 (by omega) fun Z3 m3 _ => F_unlike A m3 (gtm_wf wx.1.1 (by omega)) (by rw [gtm_h.1]; exact wx.1.2) fun Z4 f4 => ⟨?_, fun c => ?_, fun c => ?_⟩⟩⟩
    · have r12 : 0 ≤ a.2.2.2.2.1.1 ∧ a.2.2.2.2.1.1 ≤ 12 := (rowR A (frs.refl SQ Z)).2.1
      have b := gun_b (r := a.2.2.2.2.1.2) a.2.2.2.2.1.1.toNat 0 (gtm x2 a.1)
      unfold zR; omega
    · have := ih (m + 1) (x2 + 1) (some (.inr 19)) Z4 (by omega) (by omega) (by omega) f4
      rw [st, if_neg (by unfold ghp; rw [decide_eq_false c]; decide)] at this
      exact this
    · have := ih (m + 1) (x2 + 1) (some (.inr 19)) Z4 (by omega) (by omega) (by omega) f4
      rw [st, if_pos (by unfold ghp; exact decide_eq_true (by omega))] at this
      exact this
theorem G_happens {t : Int} {Q : zM → Prop} (m : QE Z Z1 a s) (wx : WX a) (wf : WFs s) (h4 : W4 s.1 s.2.2.2.2.2.1) (ht : 0 ≤ t ∧ t ≤ 7) (hQ : ∀ Z2, QE Z Z2 a (gtm t s) → same Z1 Z2 → Q Z2) : TV (d + 4) 195 [.inr 100, .inl t] Z1 Q := by
  obtain ⟨n, W, h, K, F, P, T⟩ := s
  refine R_happens0 m.1.1 wf h4 ht fun Z2 C f => hQ Z2 ⟨m.1.step2 wx C f, fun q hq => ?_⟩ fun q hq => funext fun p => f q p (by unfold SP; omega)
  rw [← m.2 q hq]; exact funext fun p => f q p (by unfold SP; omega)
theorem G_hours {x1 : Int} {Q : zM → Prop} (m : QE Z Z1 a s) (wx : WX a) (wf : WFs s) (hh : s.2.2.1 ≤ 999) (h1 : 0 ≤ x1 ∧ x1 ≤ 99) (hQ : ∀ Z2, QE Z Z2 a (ghours (-1) x1.toNat s) → same Z1 Z2 → Q Z2) : TV (d + 4) 189 [.inr 100, .inl x1, .inl (-1)] Z1 Q := by
  have hW : 5 ≤ s.2.1 ∧ s.2.1 ≤ 6 := wf.2.1
  refine w189_0 ?_
  suffices H : ∀ (f k : Nat) (x3 : Int) (Z2 : zM), x3 = k → f = x1.toNat - k → x3 ≤ x1 → QE Z Z2 a (ghours (-1) k s) → same Z1 Z2 → TZ (d + 4) 189 2 [some (.inr 100), some (.inl x1), some (.inl (-1)), some (.inl x3)] [] Z2 (zrv Q) from H _ 0 0 Z1 rfl rfl (by omega) m (same.refl _)
  intro f
  induction f with
  | zero =>
    intro k x3 Z2 e y1 y2 m1 s1
    refine w189_2 ⟨by unfold zR; omega, by unfold zR; omega, fun _ => hQ Z2 ?_ s1, fun c => absurd (show x1 ≤ x3 by omega) c⟩
    rw [show x1.toNat = k by omega]; exact m1
  | succ f ih =>
    intro k x3 Z2 e y1 y2 m1 s1
    have e3 := ghours_h (fl := -1) k s
    exact w189_2 ⟨by unfold zR; omega, by unfold zR; omega, fun c => by omega, fun _ => G_passf m1 wx (ghours_w1 wf hh k (by omega)) (by rw [e3.2.1]; omega) (by rw [e3.1]; omega) fun r Z3 m3 s3 => ih (k + 1) (x3 + 1) Z3 (by omega) (by omega) (by omega) m3 (s1.trans s3)⟩
theorem G_223 {x1 : Int} {Q : zM → Prop} (m : QS Z Z1 a) (wx : WX a) (vx : VX a) (h1 : 0 ≤ x1 ∧ x1 ≤ 20) (hQ : ∀ Z2, QS Z Z2 a → (∀ j, 0 ≤ j → j < 8 → Z2 117 j = gshows (gtg a j x1)) → Q Z2) : TV (d + 5) 223 [.inr 100, .inl x1] Z1 Q := by
  refine w223_0 ?_
  suffices H : ∀ (f : Nat) (x2 : Int) (Z1 : zM), 8 - x2 < f → 0 ≤ x2 → x2 ≤ 8 → QS Z Z1 a → (∀ j, 0 ≤ j → j < x2 → Z1 117 j = gshows (gtg a j x1)) → TZ (d + 5) 223 2 [some (.inr 100), some (.inl x1), some (.inl x2)] [] Z1 (zrv Q) from H 9 0 Z1 (by decide) (by decide) (by decide) m (fun j z1 z2 => by omega)
  intro f
  induction f with
  | zero => intro x2 Z1 y1 y2 y3 l h; omega
  | succ f ih =>
    intro x2 Z1 y1 y2 y3 l h
    refine w223_2 ⟨by unfold zR; omega, fun _ => hQ Z1 l (fun j j1 j2 => h j j1 (by omega)), fun _ => G_thinks l wx fun Z2 k s => G_happens k wx wx.1.1 vx.1 (by omega) fun Z3 k3 s3 => G_hours k3 wx (gtm_wf wx.1.1 (by omega)) (by rw [gtm_h.1]; exact wx.1.2) (by omega) fun Z4 k4 s4 => G_shown k4 (gtg_wf wx (by omega) (by omega)) ⟨by omega, fun Z9 e9 => G_forgets (by subst e9; exact k4.up wx (by unfold scq; omega)) wx fun Z10 l10 s10 => ih _ Z10 (by omega) (by omega) (by omega) l10 fun j j1 j2 => ?_⟩⟩
    rw [s10 117 (by decide), e9]
    by_cases e : j = x2
    · subst e; rw [zup_same]; rfl
    · rw [zup_place _ _ _ _ e, s4 117 (by decide), s3 117 (by decide), s 117 (by decide)]; exact h j j1 (by omega)
theorem zb_255 : ∀ i : Nat, i < 32 → zb 255 i = decide (i < 8) := by decide +kernel
theorem zb_m1 : ∀ i : Nat, i < 32 → zb (-1) i = true := by decide +kernel
theorem zb_not1 : ∀ k : Nat, k < 8 → ∀ i : Nat, i < 32 → zb (zbit 5 (zbit 6 1 (k : Int)) (-1)) i = !decide (i = k) := by decide +kernel
theorem ghp_iff {t : Int} : ghp a t = true ↔ ∀ k : Nat, k < a.2.2.2.2.1.1.toNat → gshows (gtg a t k) = a.2.2.2.2.1.2 k := by
  unfold ghp
  rw [decide_eq_true_eq, gun_iff _ _ _ (by decide)]
  constructor
  · intro h k hk
    have := h k hk
    rw [Int.zero_add] at this
    exact this
  · intro h k hk
    rw [Int.zero_add]
    exact h k hk
theorem Y_happened (A : RX Z a) (wx : WX a) (vx : VX a) : TI (d + 6) 224 [.inr 100] Z (PostR Z (oq a 0 (ghap a 8))) := by
  refine w224_0 ?_
  -- bits: those things that fit the first m numbers
  suffices H : ∀ (f m : Nat) (x1 x2 : Int) (o3 : Option zV) (Z1 : zM), x2 = m → f = a.2.2.2.2.1.1.toNat - m → x2 ≤ a.2.2.2.2.1.1 → zR x1 → (∀ i : Nat, i < 32 → (zb x1 i = true ↔ i < 8 ∧ ∀ k : Nat, k < m → gshows (gtg a i k) = a.2.2.2.2.1.2 k)) → QS Z Z1 a → TZ (d + 6) 224 6 [some (.inr 100), some (.inl x1), some (.inl x2), o3] [] Z1 (zri (PostR Z (oq a 0 (ghap a 8)))) by
    refine H _ 0 255 0 none Z rfl rfl (QS.refl A).row.1.1 (by decide) (fun i hi => ?_) (QS.refl A)
    rw [zb_255 i hi, decide_eq_true_eq]
    exact ⟨fun h => ⟨h, fun k hk => by omega⟩, fun h => h.1⟩
  intro f
  induction f with
  | zero =>
    intro m x1 x2 o3 Z1 e y1 y2 z1 hb l
    have e26 := l.now.2.2.2
    have rb := l.row.1
    refine w224_6 ⟨by unfold zR; omega, by unfold zR; omega, fun _ => ?_, fun c => absurd (show Z1 100 26 ≤ x2 by omega) c⟩
    have ev : ghap a 8 = x1 := by
      refine zb_ext (ghap_r 8) z1 fun i hi => ?_
      rw [ghap_b 8 (by decide)]
      have h1 := hb i hi
      have h2 := ghp_iff (a := a) (t := (i : Int))
      rw [show a.2.2.2.2.1.1.toNat = m by omega] at h2
      rw [← h2] at h1
      cases c1 : zb x1 i
      · rw [c1] at h1
        cases c2 : ghp a (i : Int)
        · rw [Bool.and_false]
        · rw [c2] at h1
          have : ¬ i < 8 := fun x => by have := h1.mpr ⟨x, rfl⟩; exact absurd this (by decide)
          rw [decide_eq_false this]; rfl
      · have := h1.mp c1
        rw [decide_eq_true this.1, this.2]; rfl
    rw [ev]; exact G_ok l rfl
  | succ f ih =>
    intro m x1 x2 o3 Z1 e y1 y2 z1 hb l
    have e26 := l.now.2.2.2
    have rb := l.row.1
    refine w224_6 ⟨by unfold zR; omega, by unfold zR; omega, fun c => by omega, fun y => G_223 l wx vx (by omega) fun Z4 l4 hv => ?_⟩
    suffices H : ∀ (g : Nat) (x1 x3 : Int), 8 - x3 < g → 0 ≤ x3 → x3 ≤ 8 → zR x1 → (∀ i : Nat, i < 32 → (zb x1 i = true ↔ i < 8 ∧ (∀ k : Nat, k < m → gshows (gtg a i k) = a.2.2.2.2.1.2 k) ∧ ((i : Int) < x3 → gshows (gtg a i m) = a.2.2.2.2.1.2 m))) → TZ (d + 6) 224 21 [some (.inr 100), some (.inl x1), some (.inl x2), some (.inl x3)] [] Z4 (zri (PostR Z (oq a 0 (ghap a 8)))) from H 9 x1 0 (by decide) (by decide) (by decide) z1 (fun i hi => by
      rw [hb i hi]
      exact ⟨fun h => ⟨h.1, h.2, fun x => by omega⟩, fun h => ⟨h.1, h.2.1⟩⟩)
    intro g
    induction g with
    | zero => intro x1 x3 q1 q2 q3 q4 q5; omega
    | succ g ihg =>
      intro x1 x3 q1 q2 q3 q4 q5
      refine w224_21 ⟨by unfold zR; omega, fun c => ih (m + 1) _ _ _ Z4 (by omega) (by omega) (by omega) q4 (fun i hi => ?_) l4, fun c => ?_⟩
      · rw [q5 i hi]
        constructor
        · rintro ⟨h1, h2, h3⟩
          refine ⟨h1, fun k hk => ?_⟩
          by_cases ek : k = m
          · rw [ek]; exact h3 (by omega)
          · exact h2 k (by omega)
        · rintro ⟨h1, h2⟩
          exact ⟨h1, fun k hk => h2 k (by omega), fun _ => h2 m (by omega)⟩
      have v1 := hv x3 q2 (by omega)
      have rw1 := l4.row.2 x2 (by omega) (by omega)
      have sb : 0 ≤ gshows (gtg a x3 x2) ∧ gshows (gtg a x3 x2) < 12 := gshow_b (gtg_wf wx (by omega) (by omega))
      have tn : ((x3.toNat : Nat) : Int) = x3 := by omega
      refine ⟨by omega, by omega, by rw [v1]; unfold zR; omega, by have := rw1.2; unfold zR; omega, fun c2 => ihg _ _ (by omega) (by omega) (by omega) (zbit_r _ _ _) (fun i hi => ?_), fun c2 => ihg _ _ (by omega) (by omega) (by omega) (zbit_r _ _ _) (fun i hi => ?_)⟩
      · rw [v1, rw1.1, e] at c2
        have n1 := zb_not1 x3.toNat (by omega) i hi
        rw [tn] at n1
        rw [zb_and, n1, Bool.and_eq_true, q5 i hi]
        by_cases ei : i = x3.toNat
        · rw [decide_eq_true ei]
          constructor
          · rintro ⟨_, h⟩; exact absurd h (by decide)
          · rintro ⟨_, _, h⟩
            have := h (by omega)
            rw [show ((i : Nat) : Int) = x3 by omega] at this
            exact absurd this c2
        · rw [decide_eq_false ei]
          constructor
          · rintro ⟨⟨h1, h2, h3⟩, _⟩; exact ⟨h1, h2, fun x => h3 (by omega)⟩
          · rintro ⟨h1, h2, h3⟩; exact ⟨⟨h1, h2, fun x => h3 (by omega)⟩, rfl⟩
      · rw [v1, rw1.1, e] at c2
        have c2 : gshows (gtg a x3 m) = a.2.2.2.2.1.2 m := by
          by_cases q : gshows (gtg a x3 m) = a.2.2.2.2.1.2 m
          · exact q
          · exact absurd q c2
        rw [zb_and, zb_m1 i hi, Bool.and_true, q5 i hi]
        constructor
        · rintro ⟨h1, h2, h3⟩
          refine ⟨h1, h2, fun x => ?_⟩
          by_cases ei : (i : Int) = x3
          · rw [ei]; exact c2
          · exact h3 (by omega)
        · rintro ⟨h1, h2, h3⟩; exact ⟨h1, h2, fun x => h3 (by omega)⟩
end
/-- what is shown behind n hours by the first m things: as bits, how many unlike -/
def gsn (a : gX) (n : Int) : Nat → Int × Int
  | 0 => (0, 0)
  | m + 1 => (zbit 4 (gsn a n m).1 (zbit 6 1 (gshows (gtg a m n))), (gsn a n m).2 + (if zb (gsn a n m).1 (gshows (gtg a m n)).toNat = true then 0 else 1))
def gul (a : gX) (n : Int) : Int := (gsn a n 8).2
def gtl (a : gX) : Nat → Nat
  | 0 => 0
  | m + 1 => if gul a ((m + 1 : Nat) : Int) ≤ gul a (gtl a m : Int) then gtl a m else m + 1
def vTells (a : gX) (x1 : Int) : Int := if x1 = 0 then (gtl a 8 : Int) else gul a (gtl a 8 : Int)
theorem gtl_b {a : gX} : ∀ m : Nat, gtl a m ≤ m
  | 0 => Nat.le_refl _
  | m + 1 => by
    have := gtl_b (a := a) m
    unfold gtl
    split <;> omega
theorem gsn_r {a : gX} {n : Int} : ∀ m : Nat, zR (gsn a n m).1
  | 0 => by unfold gsn; decide
  | m + 1 => by
    show zR (zbit 4 _ _)
    exact zbit_r _ _ _
theorem gsn_h {a : gX} {n : Int} (wx : WX a) (hn : 0 ≤ n ∧ n ≤ 20) (i : Nat) (hi : 12 ≤ i) : ∀ m : Nat, m ≤ 8 → zb (gsn a n m).1 i = false
  | 0, _ => zb_0 _
  | m + 1, hm => by
    have b : 0 ≤ gshows (gtg a m n) ∧ gshows (gtg a m n) < 12 := gshow_b (gtg_wf wx (by omega) (by omega))
    show zb (zbit 4 (gsn a n m).1 (zbit 6 1 (gshows (gtg a m n)))) i = false
    rw [zb_or, gsn_h wx hn i hi m (by omega), zb_one (by omega), decide_eq_false (by omega)]
    rfl
theorem gsn_n {a : gX} {n : Int} (wx : WX a) (hn : 0 ≤ n ∧ n ≤ 20) : ∀ m : Nat, m ≤ 8 → (gsn a n m).2 = zcnt (gsn a n m).1 31
  | 0, _ => by
    show (0 : Int) = zcnt 0 31
    have := @zcnt_hi 0 0 (fun i _ => zb_0 i) 31
    rw [show 0 + 31 = 31 from rfl] at this
    rw [this]; rfl
  | m + 1, hm => by
    have b : 0 ≤ gshows (gtg a m n) ∧ gshows (gtg a m n) < 12 := gshow_b (gtg_wf wx (by omega) (by omega))
    show (gsn a n m).2 + (if zb (gsn a n m).1 (gshows (gtg a m n)).toNat = true then 0 else 1) = zcnt (zbit 4 (gsn a n m).1 (zbit 6 1 (gshows (gtg a m n)))) 31
    rw [zcnt_in (by omega), if_pos (show gshows (gtg a m n) < ((31 : Nat) : Int) by omega), gsn_n wx hn m (by omega)]
theorem gul_b {a : gX} {n : Int} : 1 ≤ gul a n ∧ gul a n ≤ 8 := by
  have up : ∀ m : Nat, 0 ≤ (gsn a n m).2 ∧ (gsn a n m).2 ≤ m ∧ (0 < m → 1 ≤ (gsn a n m).2) := by
    intro m
    induction m with
    | zero => exact ⟨Int.le_refl _, Int.le_refl _, fun h => by omega⟩
    | succ m ih =>
      have e : (gsn a n (m + 1)).2 = (gsn a n m).2 + (if zb (gsn a n m).1 (gshows (gtg a m n)).toNat = true then 0 else 1) := rfl
      rw [e]
      cases m with
      | zero =>
        have e0 : zb (gsn a n 0).1 (gshows (gtg a ((0 : Nat) : Int) n)).toNat = false := zb_0 _
        rw [e0, if_neg (by decide)]
        have : (gsn a n 0).2 = 0 := rfl
        omega
      | succ m =>
        split <;> omega
  have := up 8
  unfold gul
  omega
section
variable {d : Nat} {Z Z1 Z2 : zM} {a : gX} {s : gS} {i : Int}
theorem F_fill44 {Q : zM → Prop} (hQ : ∀ Z', (∀ q, q ≠ 44 → Z' q = Z1 q) → (∀ j, 0 ≤ j → j < 12 → Z' 44 j = 0) → Q Z') : TV d 1 [.inr 44, .inl 0] Z1 Q := by
  refine w1_0_44 ?_
  suffices H : ∀ (f : Nat) (x : Int) (Z2 : zM), f = (12 - x).toNat → 0 ≤ x → x ≤ 12 → (∀ q, q ≠ 44 → Z2 q = Z1 q) → (∀ j, 0 ≤ j → j < x → Z2 44 j = 0) → TZ d 1 5 [some (.inr 44), some (.inl 0), some (.inl x), some (.inl 12)] [] Z2 (zrv Q) from H 12 0 Z1 rfl (by decide) (by decide) (fun _ _ => rfl) (fun j j1 j2 => by omega)
  intro f
  induction f with
  | zero => intro x Z2 h1 h2 h3 f1 g1; exact w1_5_44 ⟨by unfold zR; omega, by decide, fun _ => hQ Z2 f1 (fun j j1 j2 => g1 j j1 (by omega)), fun y => absurd (show 12 ≤ x by omega) y⟩
  | succ f ih =>
    intro x Z2 h1 h2 h3 f1 g1
    refine w1_5_44 ⟨by unfold zR; omega, by decide, fun c => by omega, fun y => ⟨by omega, fun Z3 z3 => ih _ Z3 (by omega) (by omega) (by omega) (fun q hq => by subst z3; funext p; rw [zup_cell _ _ _ _ hq, f1 q hq]) fun j j1 j2 => ?_⟩⟩
    rw [z3]
    by_cases e : j = x
    · subst e; rw [zup_same]
    · rw [zup_place _ _ _ _ e]; exact g1 j j1 (by omega)
theorem MF.scr (m : MF Z Z1 s) (h : ∀ q, (19 ≤ q ∧ q ≤ 24) ∨ ¬ SQ q → Z2 q = Z1 q) : MF Z Z2 s :=
  ⟨fun q hq => by rw [h q (Or.inr hq), m.1 q hq], CF.keep m.2 fun q x y => h q (Or.inl ⟨x, y⟩)⟩
theorem F_note {m : Nat} {Q : zM → Prop} (A : CX Z a) (wx : WX a) (f : frs SQ Z Z1) (hm : m < 8) (ht : ∀ j, 0 ≤ j → j < 9 → Z1 44 j = (gsn a j m).1) (hQ : ∀ Z', frs SQ Z Z' → (∀ j, 0 ≤ j → j < 9 → Z' 44 j = (gsn a j (m + 1)).1) → Q Z') : TV (d + 4) 113 [.inr 0, .inl (m : Int)] Z1 Q := by
  refine w113_0 (F_think A wx f fun Z2 m2 o2 => ⟨rfl, F_und m2 wx.1.1 (by omega) fun Z3 m3 o3 => ?_⟩)
  suffices H : ∀ (f : Nat) (i : Int) (Z4 : zM), f = (9 - i).toNat → 0 ≤ i → i ≤ 9 → MF Z Z4 (gtg a m i) → (∀ j, 0 ≤ j → j < 9 → Z4 44 j = if j < i then (gsn a j (m + 1)).1 else (gsn a j m).1) → TZ (d + 4) 113 12 [some (.inr 0), some (.inl (m : Int)), some (.inr 19), some (.inl i)] [] Z4 (zrv Q) from H 9 0 Z3 rfl (by decide) (by decide) m3 (fun j j1 j2 => by rw [if_neg (by omega), o3 44 (by decide), o2 44 (by decide)]; exact ht j j1 j2)
  intro f
  induction f with
  | zero =>
    intro i Z4 ef y1 y2 m4 h4
    exact w113_12 ⟨by unfold zR; omega, fun _ => hQ Z4 m4.1 (fun j j1 j2 => by rw [h4 j j1 j2, if_pos (by omega)]), fun y => absurd (show 8 < i by omega) y⟩
  | succ f ih =>
    intro i Z4 ef y1 y2 m4 h4
    have wf := gtg_wf (t := (m : Int)) wx (by omega) (i := i) (by omega)
    have e3 := gtg_h (a := a) (t := (m : Int)) (i := i) y1
    have hW := wx.1.1.2.1
    have hh := wx.1.2
    have es := gtg_s (a := a) (t := (m : Int)) y1
    refine w113_12 ⟨by unfold zR; omega, fun c => by omega, fun _ => ⟨by omega, F_shows m4 wf ⟨by omega, fun Z7 z7 => ?_⟩⟩⟩
    have m7 : MF Z Z7 (gtg a m i) := m4.scr fun q hq => by subst z7; funext p; exact zup_cell _ _ _ _ (by rcases hq with h | h; omega; exact SQ44 h)
    refine F_passf m7 wf (by rw [e3.2]; omega) (by rw [e3.1]; omega) fun r Z8 m8 o8 => ih (i + 1) Z8 (by omega) (by omega) (by omega) (by rw [es]; exact m8) fun j j1 j2 => ?_
    rw [o8 44 (by decide), z7]
    by_cases e : j = i
    · subst e
      rw [zup_same, if_pos (by omega), h4 j j1 j2, if_neg (by omega)]
      rfl
    · rw [zup_place _ _ _ _ e, h4 j j1 j2]
      by_cases c : j < i
      · rw [if_pos c, if_pos (by omega)]
      · rw [if_neg c, if_neg (by omega)]
theorem X_tells {x1 : Int} (A : CX Z a) (wx : WX a) (h1 : zR x1) : TI (d + 5) 112 [.inr 0, .inl x1] Z (PostC Z (oq a (gunk x1 1) (vTells a x1))) := by
  refine w112_0 (C_unknown h1 (by decide) ⟨zR9 gb2, fun c => ?_, fun c => C_refuse (by have := @gb2 x1 1; omega) (PRq A c gb2)⟩)
  refine F_fill44 fun Z2 f2 g2 => ?_
  have q2 : frs SQ Z Z2 := fun q hq => f2 q (SQ44 hq)
  -- the best of the first k counts is known; the next is n = k + 1
  have tail : ∀ (f k : Nat) (x5 : Int) (o6 : Option zV) (Z1 : zM), x5 = (k : Int) + 1 → f = 8 - k → k ≤ 8 → frs SQ Z Z1 → (∀ j, 0 ≤ j → j < 9 → Z1 44 j = (gsn a j 8).1) → TZ (d + 5) 112 54 [some (.inr 0), some (.inl x1), some (.inl (gunk x1 1)), some (.inl (gul a (gtl a k : Int))), some (.inl (gtl a k : Int)), some (.inl x5), o6] [] Z1 (zri (PostC Z (oq a (gunk x1 1) (vTells a x1)))) := by
    intro f
    induction f with
    | zero =>
      intro k x5 o6 Z1 e y1 y2 f1 h4
      have ek : k = 8 := by omega
      subst ek
      have ok := PQ (v := vTells a x1) A c f1
      unfold vTells at ok ⊢
      refine w112_54 ⟨by unfold zR; omega, fun _ => ⟨h1, fun e => ?_, fun e => ?_⟩, fun y => absurd (show 8 < x5 by omega) y⟩
      · rw [if_neg e] at ok ⊢; exact ok
      · rw [if_pos (by omega)] at ok ⊢; exact ok
    | succ f ih =>
      intro k x5 o6 Z1 e y1 y2 f1 h4
      have gb := @gul_b a (gtl a k : Int)
      have gb5 := @gul_b a x5
      have ez : Z1 44 x5 = (gsn a x5 8).1 := h4 x5 (by omega) (by omega)
      have bd := zb_bound (n := 12) (by decide) (gsn_r (a := a) (n := x5) 8) (fun i hi => gsn_h wx (by omega) i hi 8 (by decide))
      have bd2 : (gsn a x5 8).1.toNat < 4096 := bd.2
      have gn : zcnt (gsn a x5 8).1 31 = gul a x5 := (gsn_n wx (by omega) 8 (by decide)).symm
      have st : gtl a (k + 1) = if gul a ((k + 1 : Nat) : Int) ≤ gul a (gtl a k : Int) then gtl a k else k + 1 := rfl
      rw [show ((k + 1 : Nat) : Int) = x5 by omega] at st
      refine w112_54 ⟨by unfold zR; omega, fun c => by omega, fun _ => ⟨by omega, ?_⟩⟩
      rw [ez]
      refine C_bits (by omega) ?_
      rw [gn]
      refine ⟨by unfold zR; omega, by unfold zR; omega, fun q => ?_, fun q => ?_⟩
      · have := ih (k + 1) (x5 + 1) (some (.inl (gul a x5))) Z1 (by omega) (by omega) (by omega) f1 h4
        rw [st, if_pos q] at this; exact this
      · have := ih (k + 1) (x5 + 1) (some (.inl (gul a x5))) Z1 (by omega) (by omega) (by omega) f1 h4
        rw [st, if_neg q, show ((k + 1 : Nat) : Int) = x5 by omega] at this; exact this
  suffices H : ∀ (f m : Nat) (x5 : Int) (Z1 : zM), x5 = m → f = 8 - m → m ≤ 8 → frs SQ Z Z1 → (∀ j, 0 ≤ j → j < 9 → Z1 44 j = (gsn a j m).1) → TZ (d + 5) 112 32 [some (.inr 0), some (.inl x1), some (.inl (gunk x1 1)), some (.inl 0), some (.inl 0), some (.inl x5), none] [] Z1 (zri (PostC Z (oq a (gunk x1 1) (vTells a x1)))) from H 8 0 0 Z2 rfl rfl (by decide) q2 (fun j j1 j2 => g2 j j1 (by omega))
  intro f
  induction f with
  | zero =>
    intro m x5 Z1 e y1 y2 f1 h4
    have em : m = 8 := by omega
    subst em
    have gb := @gul_b a 0
    have ez : Z1 44 0 = (gsn a 0 8).1 := h4 0 (by decide) (by decide)
    have bd := zb_bound (n := 12) (by decide) (gsn_r (a := a) (n := 0) 8) (fun i hi => gsn_h wx (by decide) i hi 8 (by decide))
    have bd2 : (gsn a 0 8).1.toNat < 4096 := bd.2
    have gn : zcnt (gsn a 0 8).1 31 = gul a 0 := (gsn_n wx (by decide) 8 (by decide)).symm
    refine w112_32 ⟨by unfold zR; omega, fun _ => w112_54 ⟨by decide, fun c => absurd c (by decide), fun _ => ⟨by decide, ?_⟩⟩, fun y => absurd (show 8 ≤ x5 by omega) y⟩
    rw [ez]
    refine C_bits (by omega) ?_
    rw [gn]
    exact ⟨by unfold zR; omega, by decide, fun q => absurd q (by omega), fun _ => tail 8 0 1 _ Z1 rfl rfl (by decide) f1 h4⟩
  | succ f ih =>
    intro m x5 Z1 e y1 y2 f1 h4
    refine w112_32 ⟨by unfold zR; omega, fun c => by omega, fun y => ?_⟩
    rw [e]
    exact F_note A wx f1 (by omega) h4 fun Z3 f3 h3 => ih (m + 1) _ Z3 (by omega) (by omega) (by omega) f3 h3
theorem G_225 {x1 : Int} {Q : Int → zM → Prop} (m : QS Z Z1 a) (wx : WX a) (vx : VX a) (h1 : 0 ≤ x1 ∧ x1 ≤ 20) (hQ : ∀ Z2, QS Z Z2 a → Q (gul a x1) Z2) : TI (d + 6) 225 [.inr 100, .inl x1] Z1 Q := by
  refine w225_0 (G_223 m wx vx h1 fun Z2 l hv => ?_)
  suffices H : ∀ (f m : Nat) (x4 : Int), x4 = m → f = 8 - m → m ≤ 8 → TZ (d + 6) 225 12 [some (.inr 100), some (.inl x1), some (.inl (gsn a x1 m).1), some (.inl (gsn a x1 m).2), some (.inl x4)] [] Z2 (zri Q) from H 8 0 0 rfl rfl (by decide)
  intro f
  induction f with
  | zero =>
    intro m x4 e y1 y2
    have em : m = 8 := by omega
    subst em
    exact w225_12 ⟨by unfold zR; omega, fun _ => hQ Z2 l, fun y => absurd (show 8 ≤ x4 by omega) y⟩
  | succ f ih =>
    intro m x4 e y1 y2
    have v := hv x4 (by omega) (by omega)
    have b : 0 ≤ gshows (gtg a x4 x1) ∧ gshows (gtg a x4 x1) < 12 := gshow_b (gtg_wf wx (by omega) (by omega))
    have st : gsn a x1 (m + 1) = (zbit 4 (gsn a x1 m).1 (zbit 6 1 (gshows (gtg a m x1))), (gsn a x1 m).2 + (if zb (gsn a x1 m).1 (gshows (gtg a m x1)).toNat = true then 0 else 1)) := rfl
    rw [← e] at st
    have ih' := ih (m + 1) (x4 + 1) (by omega) (by omega) (by omega)
    rw [st] at ih'
    dsimp only at ih'
    refine w225_12 ⟨by unfold zR; omega, fun c => by omega, fun _ => ⟨by omega, ?_⟩⟩
    rw [v, zb_test (by omega)]
    refine ⟨zr01 _, fun c => ⟨by omega, ?_⟩, fun c => ⟨by omega, ?_⟩⟩
    · have t : zb (gsn a x1 m).1 (gshows (gtg a x4 x1)).toNat = true := by
        cases q : zb (gsn a x1 m).1 (gshows (gtg a x4 x1)).toNat
        · rw [q] at c; exact absurd rfl c
        · rfl
      rw [if_pos t] at ih'; exact ih'
    · have t : ¬ zb (gsn a x1 m).1 (gshows (gtg a x4 x1)).toNat = true := fun q => by
        rw [q] at c; exact c (by decide)
      rw [if_neg t] at ih'; exact ih'
theorem Y_tells {x1 : Int} (A : RX Z a) (wx : WX a) (vx : VX a) (h1 : zR x1) : TI (d + 7) 226 [.inr 100, .inl x1] Z (PostR Z (oq a (gunk x1 1) (vTells a x1))) := by
  have m := QS.refl A
  refine w226_0 (R_isIn h1 (by decide) (by decide) (fun i => ⟨by decide, fun _ => ?_, fun e => absurd (show (1 : Int) ≠ 0 by decide) e⟩) (fun i => ⟨by decide, fun e => absurd rfl e, fun _ => G_no m wx (gu2 i) (by decide)⟩))
  have hc := gunk_0.mpr i
  suffices H : ∀ (f k : Nat) (x3 : Int) (Z1 : zM), x3 = (k : Int) + 1 → f = 8 - k → k ≤ 8 → QS Z Z1 a → TZ (d + 7) 226 20 [some (.inr 100), some (.inl x1), some (.inl (gtl a k : Int)), some (.inl x3)] [] Z1 (zri (PostR Z (oq a (gunk x1 1) (vTells a x1)))) from H 8 0 1 Z rfl rfl (by decide) m
  intro f
  induction f with
  | zero =>
    intro k x3 Z1 e y1 y2 l
    have ek : k = 8 := by omega
    subst ek
    have kb := gtl_b (a := a) 8
    refine w226_20 ⟨by unfold zR; omega, fun _ => ⟨h1, fun e => G_225 l wx vx (by omega) fun Z2 l2 => ?_, fun e => ?_⟩, fun y => absurd (show 9 ≤ x3 by omega) y⟩
    · have ok := G_ok (v := vTells a x1) l2 hc
      unfold vTells at ok ⊢
      rw [if_neg e] at ok ⊢; exact ok
    · have ok := G_ok (v := vTells a x1) l hc
      unfold vTells at ok ⊢
      rw [if_pos (by omega)] at ok ⊢; exact ok
  | succ f ih =>
    intro k x3 Z1 e y1 y2 l
    have kb := gtl_b (a := a) k
    have gb := @gul_b a (gtl a k : Int)
    have gb3 := @gul_b a x3
    have st : gtl a (k + 1) = if gul a ((k + 1 : Nat) : Int) ≤ gul a (gtl a k : Int) then gtl a k else k + 1 := rfl
    rw [show ((k + 1 : Nat) : Int) = x3 by omega] at st
    refine w226_20 ⟨by unfold zR; omega, fun c => by omega, fun _ => G_225 l wx vx (by omega) fun Z2 l2 => G_225 l2 wx vx (by omega) fun Z3 l3 => ⟨by unfold zR; omega, by unfold zR; omega, fun q => ?_, fun q => ?_⟩⟩
    · have := ih (k + 1) (x3 + 1) Z3 (by omega) (by omega) (by omega) l3
      rw [st, if_pos q] at this; exact this
    · have := ih (k + 1) (x3 + 1) Z3 (by omega) (by omega) (by omega) l3
      rw [st, if_neg q, show ((k + 1 : Nat) : Int) = x3 by omega] at this; exact this
end
