/-! LOOKS with their very answers: the best weight -/
def gaws (s : gS) : Nat → Int
  | 0 => 0
  | m + 1 => gaws s m + gerrs (ghours (-1) (m + 1) s)
theorem gwt_pass {x v : Int} {s : gS} : gpass (-1) (gwt x v s) = gwt x v (gpass (-1) s) := by
  obtain ⟨n, W, h, K, F, P, T⟩ := s
  rfl
theorem gwt_hours {x v : Int} {s : gS} : ∀ m : Nat, ghours (-1) m (gwt x v s) = gwt x v (ghours (-1) m s)
  | 0 => rfl
  | m + 1 => by
    show gpass (-1) (ghours (-1) m (gwt x v s)) = gwt x v (gpass (-1) (ghours (-1) m s))
    rw [gwt_hours m, gwt_pass]
theorem gsum_up {n x v : Int} {P T : Int → Int} (hx : 0 ≤ x) : ∀ m : Nat, gsum n P (gup T x v) m = gsum n P T m + (if x < m then (v - T x) * cnt P x n.toNat else 0)
  | 0 => by rw [if_neg (by omega)]; rfl
  | m + 1 => by
    have ih := gsum_up (n := n) (P := P) (T := T) (v := v) hx m
    show gsum n P (gup T x v) m + gup T x v m * cnt P m n.toNat = gsum n P T m + T m * cnt P m n.toNat + _
    rw [ih]
    by_cases e : (m : Int) = x
    · rw [← e, gup_same, if_neg (by omega), if_pos (by omega), Int.sub_mul]; omega
    · rw [gup_ne _ _ e]
      by_cases c : x < m
      · rw [if_pos c, if_pos (by omega)]; omega
      · rw [if_neg c, if_neg (by omega)]; omega
theorem gwt_errs {x v : Int} {s : gS} (wf : WFs s) (hx : 0 ≤ x ∧ x < s.2.1) (hv : 0 ≤ v ∧ v ≤ 11) : gerrs (gwt x v s) = gapart (gshows s + (v - s.2.2.2.2.2.2 x) * cnt s.2.2.2.2.2.1 x s.1.toNat) s.2.2.1 := by
  have wf2 := gwt_wf (w := x) wf hv
  obtain ⟨n, W, h, K, F, P, T⟩ := s
  have hn : 0 ≤ n ∧ n ≤ 8 := wf.1
  have hW : 5 ≤ W ∧ W ≤ 6 := wf.2.1
  have t1 : ∀ w, 0 ≤ w → w < 6 → 0 ≤ T w ∧ T w ≤ 11 := wf.2.2.2.2
  have t2 : ∀ w, 0 ≤ w → w < 6 → 0 ≤ gup T x v w ∧ gup T x v w ≤ 11 := wf2.2.2.2.2
  have b1 := gsum_b (P := P) hn t1 W.toNat (by omega)
  have b2 := gsum_b (P := P) hn t2 W.toNat (by omega)
  have up := gsum_up (n := n) (P := P) (T := T) (v := v) hx.1 W.toNat
  rw [if_pos (by have := hx.2; dsimp only at this; omega)] at up
  show gapart ((gsum n P (gup T x v) W.toNat).tmod 12) h = gapart ((gsum n P T W.toNat).tmod 12 + (v - T x) * cnt P x n.toNat) h
  rw [Int.tmod_eq_emod_of_nonneg b1.1, Int.tmod_eq_emod_of_nonneg b2.1]
  unfold gapart
  generalize (v - T x) * cnt P x n.toNat = q at *
  omega
theorem gh_T {a : gX} {i : Int} : (gh a i).2.2.2.2.2.2 = a.1.2.2.2.2.2.2 := by
  have : ∀ (m : Nat) (s : gS), (ghours (-1) m s).2.2.2.2.2.2 = s.2.2.2.2.2.2 := by
    intro m
    induction m with
    | zero => intro s; rfl
    | succ m ih =>
      intro s
      have e : (gpass (-1) (ghours (-1) m s)).2.2.2.2.2.2 = (ghours (-1) m s).2.2.2.2.2.2 := by
        obtain ⟨n, W, h, K, F, P, T⟩ := ghours (-1) m s
        rfl
      show (gpass (-1) (ghours (-1) m s)).2.2.2.2.2.2 = _
      rw [e, ih s]
  exact this _ _
/-- what the weight told by j makes of the first m hours -/
def gtv (a : gX) (j : Int) (m : Nat) : Int := gaws (gwt (j / 12) (j % 12) a.1) m
def gbwt (a : gX) (n : Nat) : Nat → Int × Int
  | 0 => (gaws a.1 n, -9)
  | m + 1 => if (gbwt a n m).1 ≤ gtv a m n then gbwt a n m else (gtv a m n, 100 * ((m : Int) / 12) + (m : Int) % 12)
def vBestWeight (a : gX) (x1 : Int) : Int := (gbwt a x1.toNat (a.1.2.1 * 12).toNat).2
theorem gaws_b {s : gS} : ∀ m : Nat, 0 ≤ gaws s m ∧ gaws s m ≤ 6 * m
  | 0 => by unfold gaws; omega
  | m + 1 => by
    have ih := gaws_b (s := s) m
    have := @gerrs_b (ghours (-1) (m + 1) s)
    unfold gaws
    omega
theorem gbwt_b {a : gX} {n : Nat} : ∀ m : Nat, 0 ≤ (gbwt a n m).1 ∧ (gbwt a n m).1 ≤ 6 * n
  | 0 => gaws_b n
  | m + 1 => by
    unfold gbwt
    split
    · exact gbwt_b m
    · exact gaws_b n
theorem gtv_s {a : gX} {j : Int} (wx : WX a) (hj : 0 ≤ j ∧ j < a.1.2.1 * 12) (m : Nat) (hm : m ≤ 100) : gtv a j (m + 1) = gtv a j m + gapart (gshows (gh a (m + 1)) + (j % 12 - a.1.2.2.2.2.2.2 (j / 12)) * cnt (gh a (m + 1)).2.2.2.2.2.1 (j / 12) a.1.1.toNat) (a.1.2.2.1 + (m + 1)) := by
  have wf := gh_w wx (i := (m : Int) + 1) (by omega)
  have e := gh_h (a := a) (i := (m : Int) + 1) (by omega)
  have hW := wx.1.1.2.1
  have g := gwt_errs (x := j / 12) (v := j % 12) wf (by rw [e.2.1]; omega) (by omega)
  rw [e.1, e.2.2, gh_T] at g
  show gaws (gwt (j / 12) (j % 12) a.1) m + gerrs (ghours (-1) (m + 1) (gwt (j / 12) (j % 12) a.1)) = _
  rw [gwt_hours, ← g]
  unfold gtv gh
  rw [show ((m : Int) + 1).toNat = m + 1 by omega]
section
variable {d : Nat} {Z Z1 Z2 : zM} {a b : gX} {s s0 : gS} {i : Int}
theorem F_fill45 {Q : zM → Prop} (hQ : ∀ Z', (∀ q, q ≠ 45 → Z' q = Z1 q) → (∀ j, 0 ≤ j → j < 72 → Z' 45 j = 0) → Q Z') : TV d 1 [.inr 45, .inl 0] Z1 Q := by
  refine w1_0_45 ?_
  suffices H : ∀ (f : Nat) (x : Int) (Z2 : zM), f = (72 - x).toNat → 0 ≤ x → x ≤ 72 → (∀ q, q ≠ 45 → Z2 q = Z1 q) → (∀ j, 0 ≤ j → j < x → Z2 45 j = 0) → TZ d 1 5 [some (.inr 45), some (.inl 0), some (.inl x), some (.inl 72)] [] Z2 (zrv Q) from H 72 0 Z1 rfl (by decide) (by decide) (fun _ _ => rfl) (fun j j1 j2 => by omega)
  intro f
  induction f with
  | zero => intro x Z2 h1 h2 h3 f1 g1; exact w1_5_45 ⟨by unfold zR; omega, by decide, fun _ => hQ Z2 f1 (fun j j1 j2 => g1 j j1 (by omega)), fun y => absurd (show 72 ≤ x by omega) y⟩
  | succ f ih =>
    intro x Z2 h1 h2 h3 f1 g1
    refine w1_5_45 ⟨by unfold zR; omega, by decide, fun c => by omega, fun y => ⟨by omega, fun Z3 z3 => ih _ Z3 (by omega) (by omega) (by omega) (fun q hq => by subst z3; funext p; rw [zup_cell _ _ _ _ hq, f1 q hq]) fun j j1 j2 => ?_⟩⟩
    rw [z3]
    by_cases e : j = x
    · subst e; rw [zup_same]
    · rw [zup_place _ _ _ _ e]; exact g1 j j1 (by omega)
theorem F_138 {m : Nat} {Q : zM → Prop} (wx : WX a) (hm : m ≤ 20) (m0 : MF Z Z1 (gh a ((m : Int) + 1))) (h45 : ∀ j, 0 ≤ j → j < a.1.2.1 * 12 → Z1 45 j = gtv a j m) (hQ : ∀ Z', MF Z Z' (gh a ((m : Int) + 1)) → (∀ j, 0 ≤ j → j < a.1.2.1 * 12 → Z' 45 j = gtv a j (m + 1)) → Q Z') : TV (d + 2) 138 [.inr 0, .inr 19] Z1 Q := by
  have hW : 5 ≤ a.1.2.1 ∧ a.1.2.1 ≤ 6 := wx.1.1.2.1
  have hn : 0 ≤ a.1.1 ∧ a.1.1 ≤ 8 := wx.1.1.1
  have wf := gh_w wx (i := (m : Int) + 1) (by omega)
  have e := gh_h (a := a) (i := (m : Int) + 1) (by omega)
  have hh := wx.1.2
  have hh0 := wx.1.1.2.2.1.1
  have tb := wx.1.1.2.2.2.2
  have sb : 0 ≤ gshows (gh a ((m : Int) + 1)) ∧ gshows (gh a ((m : Int) + 1)) < 12 := gshow_b wf
  refine w138_0 zF19 (F_shows m0 wf ?_)
  -- all below j0 have this hour, the others don't
  suffices H : ∀ (f : Nat) (x3 : Int) (o4 o5 : Option zV) (Z1 : zM), f = (a.1.2.1 - x3).toNat → 0 ≤ x3 → x3 ≤ a.1.2.1 → MF Z Z1 (gh a ((m : Int) + 1)) → (∀ j, 0 ≤ j → j < a.1.2.1 * 12 → Z1 45 j = if j < x3 * 12 then gtv a j (m + 1) else gtv a j m) → TZ (d + 2) 138 7 [some (.inr 0), some (.inr 19), some (.inl (gshows (gh a ((m : Int) + 1)))), some (.inl x3), o4, o5] [] Z1 (zrv Q) from H _ 0 none none Z1 rfl (by decide) (by omega) m0 (fun j j1 j2 => by rw [if_neg (by omega)]; exact h45 j j1 j2)
  intro f
  induction f with
  | zero =>
    intro x3 o4 o5 Z1 ef y1 y2 m1 hv
    have e6 : Z1 19 6 = a.1.2.1 := by rw [← e.2.1]; exact m1.2.2.1
    exact w138_7 zF19 ⟨by unfold zR; omega, by unfold zR; omega, fun _ => hQ Z1 m1 (fun j j1 j2 => by rw [hv j j1 j2, if_pos (by omega)]), fun c => absurd (show Z1 19 6 ≤ x3 by omega) c⟩
  | succ f ih =>
    intro x3 o4 o5 Z1 ef y1 y2 m1 hv
    have e6 : Z1 19 6 = a.1.2.1 := by rw [← e.2.1]; exact m1.2.2.1
    refine w138_7 zF19 ⟨by unfold zR; omega, by unfold zR; omega, fun c => by omega, fun y => ?_⟩
    suffices H : ∀ (g : Nat) (x4 : Int) (o5 : Option zV) (Z1 : zM), g = (12 - x4).toNat → 0 ≤ x4 → x4 ≤ 12 → MF Z Z1 (gh a ((m : Int) + 1)) → (∀ j, 0 ≤ j → j < a.1.2.1 * 12 → Z1 45 j = if j < x3 * 12 + x4 then gtv a j (m + 1) else gtv a j m) → TZ (d + 2) 138 18 [some (.inr 0), some (.inr 19), some (.inl (gshows (gh a ((m : Int) + 1)))), some (.inl x3), some (.inl x4), o5] [] Z1 (zrv Q) from H 12 0 o5 Z1 rfl (by decide) (by decide) m1 (fun j j1 j2 => by rw [Int.add_zero]; exact hv j j1 j2)
    intro g
    induction g with
    | zero =>
      intro x4 o5 Z1 eg z1 z2 m1 hv
      exact w138_18 zF19 ⟨by unfold zR; omega, fun _ => ih _ _ _ Z1 (by omega) (by omega) (by omega) m1 (fun j j1 j2 => by rw [hv j j1 j2, show x3 * 12 + x4 = (x3 + 1) * 12 by omega]), fun z => absurd (show 12 ≤ x4 by omega) z⟩
    | succ g ihg =>
      intro x4 o5 Z1 eg z1 z2 m1 hv
      refine w138_18 zF19 ⟨by unfold zR; omega, fun c => by omega, fun z => ⟨by omega, by omega, by omega, ?_⟩⟩
      have c := m1.2.2.2.2.2 x3 y1 (by omega)
      have c1 : Z1 24 x3 = a.1.2.2.2.2.2.2 x3 := by rw [← gh_T]; exact c.1
      have c2 : Z1 23 x3 = cnt (gh a ((m : Int) + 1)).2.2.2.2.2.1 x3 a.1.1.toNat := by rw [← e.2.2]; exact c.2
      have e7 : Z1 19 7 = a.1.2.2.1 + ((m : Int) + 1) := by rw [← e.1]; exact m1.2.2.2.1
      have t := tb x3 y1 (by omega)
      have cb := cnt_b (gh a ((m : Int) + 1)).2.2.2.2.2.1 x3 a.1.1.toNat
      show TI (d + 1) 152 [.inl (gshows (gh a ((m : Int) + 1)) + (x4 - Z1 24 x3) * Z1 23 x3), .inl (Z1 19 7)] Z1 (fun r7 Z6 => (0 ≤ x3 * 12 + x4 ∧ x3 * 12 + x4 < 72) ∧ ∀ Z9, Z9 = zup Z6 45 (x3 * 12 + x4) (Z1 45 (x3 * 12 + x4) + r7) → TZ (d + 2) 138 18 [some (.inr 0), some (.inr 19), some (.inl (gshows (gh a ((m : Int) + 1)))), some (.inl x3), some (.inl (x4 + 1)), some (.inl (gshows (gh a ((m : Int) + 1)) + (x4 - Z1 24 x3) * Z1 23 x3))] [] Z9 (zrv Q))
      rw [c1, c2, e7]
      have p := mulb (x := x4 + 11 - a.1.2.2.2.2.2.2 x3) (y := cnt (gh a ((m : Int) + 1)).2.2.2.2.2.1 x3 a.1.1.toNat) (a := 22) (b := 8) (by omega) (by omega) cb.1 (by omega)
      have e2 : (x4 - a.1.2.2.2.2.2.2 x3) * cnt (gh a ((m : Int) + 1)).2.2.2.2.2.1 x3 a.1.1.toNat = (x4 + 11 - a.1.2.2.2.2.2.2 x3) * cnt (gh a ((m : Int) + 1)).2.2.2.2.2.1 x3 a.1.1.toNat - 11 * cnt (gh a ((m : Int) + 1)).2.2.2.2.2.1 x3 a.1.1.toNat := by
        rw [← Int.sub_mul]; congr 1; omega
      refine C_apart (by rw [e2]; unfold zR; omega) ⟨by omega, fun Z9 z9 => ihg _ _ Z9 (by omega) (by omega) (by omega) (m1.scr fun q hq => by subst z9; funext p; exact zup_cell _ _ _ _ (by rcases hq with h | h; omega; exact SQ45 h)) fun j j1 j2 => ?_⟩
      rw [z9]
      by_cases ej : j = x3 * 12 + x4
      · have st := gtv_s (a := a) (j := j) wx ⟨j1, j2⟩ m (by omega)
        rw [show j % 12 = x4 by omega, show j / 12 = x3 by omega] at st
        rw [ej, zup_same, if_pos (by omega), ← ej, hv j j1 j2, if_neg (by omega), st]
      · rw [zup_place _ _ _ _ ej, hv j j1 j2]
        by_cases cj : j < x3 * 12 + x4
        · rw [if_pos cj, if_pos (by omega)]
        · rw [if_neg cj, if_neg (by omega)]
theorem X_bestWeight {x1 : Int} (A : CX Z a) (wx : WX a) (h1 : zR x1) : TI (d + 5) 137 [.inr 0, .inl x1] Z (PostC Z (oq a (gout x1 1 20) (vBestWeight a x1))) := by
  have hW : 5 ≤ a.1.2.1 ∧ a.1.2.1 ≤ 6 := wx.1.1.2.1
  refine w137_0 (C_outside h1 (by decide) (by decide) ⟨zR9 gb3, fun c => ?_, fun c => C_refuse (by have := @gb3 x1 1 20; omega) (PRq A c gb3)⟩)
  have c1 := gout_0.mp c
  refine F_fill45 fun Z2 f2 g2 => F_think A wx (fun q hq => f2 q (SQ45 hq)) fun Z' m o => ⟨rfl, ?_⟩
  have tail : ∀ (f k : Nat) (x6 : Int) (Z1 : zM), x6 = k → f = (a.1.2.1 * 12).toNat - k → k ≤ (a.1.2.1 * 12).toNat → MF Z Z1 (gh a x1) → (∀ j, 0 ≤ j → j < a.1.2.1 * 12 → Z1 45 j = gtv a j x1.toNat) → TZ (d + 5) 137 77 [some (.inr 0), some (.inl x1), some (.inl (gout x1 1 20)), some (.inl (gbwt a x1.toNat k).1), some (.inr 19), some (.inl (gbwt a x1.toNat k).2), some (.inl x6)] [] Z1 (zri (PostC Z (oq a (gout x1 1 20) (vBestWeight a x1)))) := by
    intro f
    induction f with
    | zero =>
      intro k x6 Z1 e y1 y2 m1 hv
      have e6 : Z1 19 6 = a.1.2.1 := by rw [← (gh_h (a := a) (i := x1) (by omega)).2.1]; exact m1.2.2.1
      refine w137_77 ⟨by unfold zR; omega, by unfold zR; omega, fun _ => ?_, fun y => absurd (show Z1 19 6 * 12 ≤ x6 by omega) y⟩
      have ok := PQ (v := vBestWeight a x1) A c m1.1
      unfold vBestWeight at ok ⊢
      rw [show (a.1.2.1 * 12).toNat = k by omega] at ok ⊢
      exact ok
    | succ f ih =>
      intro k x6 Z1 e y1 y2 m1 hv
      have e6 : Z1 19 6 = a.1.2.1 := by rw [← (gh_h (a := a) (i := x1) (by omega)).2.1]; exact m1.2.2.1
      have v := hv x6 (by omega) (by omega)
      have gb := gbwt_b (a := a) (n := x1.toNat) k
      have tvb : 0 ≤ gtv a x6 x1.toNat ∧ gtv a x6 x1.toNat ≤ 6 * x1.toNat := gaws_b x1.toNat
      have st : gbwt a x1.toNat (k + 1) = if (gbwt a x1.toNat k).1 ≤ gtv a k x1.toNat then gbwt a x1.toNat k else (gtv a k x1.toNat, 100 * ((k : Int) / 12) + (k : Int) % 12) := rfl
      rw [← e] at st
      have ih' := ih (k + 1) (x6 + 1) Z1 (by omega) (by omega) (by omega) m1 hv
      rw [st] at ih'
      have t1 : Int.tdiv x6 12 = x6 / 12 := Int.tdiv_eq_ediv_of_nonneg (by omega)
      have t2 : Int.tmod x6 12 = x6 % 12 := Int.tmod_eq_emod_of_nonneg (by omega)
      refine w137_77 ⟨by unfold zR; omega, by unfold zR; omega, fun y => by omega, fun y => ⟨by omega, ?_⟩⟩
      rw [v, t1, t2]
      refine ⟨by unfold zR; omega, by unfold zR; omega, fun q => ?_, fun q => ⟨by omega, by unfold zR; omega, by unfold zR; omega, ?_⟩⟩
      · rw [if_pos q] at ih'; exact ih'
      · rw [if_neg q] at ih'; exact ih'
  suffices H : ∀ (f k : Nat) (x5 : Int) (Z1 : zM), x5 = k → f = x1.toNat - k → k ≤ x1.toNat → MF Z Z1 (gh a k) → (∀ j, 0 ≤ j → j < a.1.2.1 * 12 → Z1 45 j = gtv a j k) → TZ (d + 5) 137 37 [some (.inr 0), some (.inl x1), some (.inl (gout x1 1 20)), some (.inl (gaws a.1 k)), some (.inr 19), some (.inl x5), none] [] Z1 (zri (PostC Z (oq a (gout x1 1 20) (vBestWeight a x1)))) from H _ 0 0 Z' rfl rfl (by omega) m (fun j j1 j2 => by rw [o 45 (by decide)]; exact g2 j j1 (by omega))
  intro f
  induction f with
  | zero =>
    intro k x5 Z1 e y1 y2 m1 hv
    have ek : k = x1.toNat := by omega
    subst ek
    rw [show ((x1.toNat : Nat) : Int) = x1 by omega] at m1
    exact w137_37 ⟨by unfold zR; omega, h1, fun _ => tail _ 0 0 Z1 rfl rfl (by omega) m1 hv, fun y => absurd (show x1 ≤ x5 by omega) y⟩
  | succ f ih =>
    intro k x5 Z1 e y1 y2 m1 hv
    have ek : ((k + 1 : Nat) : Int) = (k : Int) + 1 := by omega
    refine w137_37 ⟨by unfold zR; omega, h1, fun y => by omega, fun _ => F_pass m1 wx (by omega) fun Z2 m2 o2 => F_errs m2 (gh_w wx (by omega)) (F_138 wx (by omega) m2 (fun j j1 j2 => by rw [o2 45 (by decide)]; exact hv j j1 j2) fun Z3 m3 hv3 => ?_)⟩
    have := ih (k + 1) (x5 + 1) Z3 (by omega) (by omega) (by omega) (by rw [ek]; exact m3) hv3
    have st : gaws a.1 (k + 1) = gaws a.1 k + gerrs (gh a ((k : Int) + 1)) := by
      show gaws a.1 k + gerrs (ghours (-1) (k + 1) a.1) = _
      unfold gh
      rw [show ((k : Int) + 1).toNat = k + 1 by omega]
    rw [st] at this
    exact this
/-! the reference, with other weights for a while -/
def QEb (Z Z1 : zM) (s0 : gS) (b : gX) (s : gS) : Prop := (RFs Z1 s ∧ BF Z1 2 s0 ∧ RY Z1 b) ∧ ∀ q, q < 100 → Z1 q = Z q
theorem QEb.up {c : Nat} {p v : Int} (m : QEb Z Z1 s0 b s) (wb : WX b) (hs : s0.1 ≤ 8) (hc : scq c) : QEb Z (zup Z1 c p v) s0 b s := by
  obtain ⟨h1, f⟩ := m
  have F : ∀ q, ¬ scq q → zup Z1 c p v q = Z1 q := fun q hq => funext fun i => zup_cell _ _ _ _ (fun e => hq (by subst e; exact hc))
  exact ⟨⟨h1.1.scr F, BF.keep hs h1.2.1 (fun p _ _ => by rw [F 110 (by unfold scq; omega)]), RY.scr wb h1.2.2 F⟩, fun q hq => by rw [F q (by unfold scq; omega), f q hq]⟩
theorem H_thinks {Q : zM → Prop} (m : QSb Z Z1 s b) (wb : WX b) (wf : WFs s) (hQ : ∀ Z2, QEb Z Z2 s b s → same Z1 Z2 → Q Z2) : TV (d + 2) 179 [.inr 100] Z1 Q := by
  refine w179_0 (R_save (by decide) fun Z' v => hQ Z' ?_ fun q hq => funext fun p => v.fr q p (by unfold ST; omega))
  obtain ⟨b1, b2⟩ := savd.bf wf.1.2 m.1.1 v
  exact ⟨⟨b2, b1, m.1.2.keep wb fun q p h => v.fr q p (ST_SY h)⟩, fun q hq => by
    rw [← m.2 q hq]; exact funext fun p => v.fr q p (by unfold ST; omega)⟩
theorem H_forgets {Q : zM → Prop} (m : QEb Z Z1 s0 b s) (wb : WX b) (hs : s0.1 ≤ 8) (hQ : ∀ Z2, QSb Z Z2 s0 b → same Z1 Z2 → Q Z2) : TV (d + 2) 180 [.inr 100] Z1 Q := by
  obtain ⟨h1, g⟩ := m
  refine w180_0 (R_load (by decide) fun Z' v => hQ Z' ⟨⟨lodd.rf hs h1.2.1 v, h1.2.2.keep wb fun q p h => v.fr q p (ST_SY h)⟩, fun q hq => by
    rw [← g q hq]; exact funext fun p => v.fr q p (by unfold ST; omega)⟩ fun q hq => funext fun p => v.fr q p (by unfold ST; omega))
theorem H_pass {Q : Int → zM → Prop} (m : QEb Z Z1 s0 b s) (wb : WX b) (hs : s0.1 ≤ 8) (wf : WFs s) (hh : s.2.2.1 < 1000000) (hQ : ∀ r Z2, QEb Z Z2 s0 b (gpass (-1) s) → same Z1 Z2 → Q r Z2) : TI (d + 3) 188 [.inr 100, .inl (-1)] Z1 Q := by
  obtain ⟨n, W, h, K, F, P, T⟩ := s
  obtain ⟨h1, g⟩ := m
  have hW : 5 ≤ W ∧ W ≤ 6 := wf.2.1
  refine R_goes1 h1.1 wf (by show -1 ≤ (-1 : Int) ∧ (-1 : Int) < W; omega) hh fun Z2 C f => hQ _ Z2 ⟨⟨C, BF.keep hs h1.2.1 (fun p _ _ => f _ _ (by unfold SH; omega)), h1.2.2.keep wb fun q p hh => f q p (by unfold SY at hh; unfold SH; omega)⟩, fun q hq => ?_⟩ fun q hq => funext fun p => f q p (by unfold SH; omega)
  rw [← g q hq]; exact funext fun p => f q p (by unfold SH; omega)
theorem H_210 {x1 : Int} {Q : Int → zM → Prop} (m : QSb Z Z1 s b) (wb : WX b) (wf : WFs s) (hh : s.2.2.1 ≤ 999) (h1 : 0 ≤ x1 ∧ x1 ≤ 50) (hQ : ∀ Z2, QSb Z Z2 s b → Q (gaws s x1.toNat) Z2) : TI (d + 5) 210 [.inr 100, .inl x1] Z1 Q := by
  have hW : 5 ≤ s.2.1 ∧ s.2.1 ≤ 6 := wf.2.1
  have hs : s.1 ≤ 8 := wf.1.2
  refine w210_0 (w205_0 (H_thinks m wb wf fun Z2 k _ => ?_))
  have tail : ∀ Z2, QSb Z Z2 s b → (∀ j : Nat, (j : Int) ≤ x1 → Z2 112 j = gerrs (ghours (-1) j s)) → TZ (d + 5) 210 9 [some (.inr 100), some (.inl x1), some (.inl 0), some (.inl 1)] [] Z2 (zri Q) := by
    intro Z2 l hf
    suffices H : ∀ (f k : Nat) (x3 : Int), x3 = (k : Int) + 1 → f = x1.toNat - k → k ≤ x1.toNat → TZ (d + 5) 210 9 [some (.inr 100), some (.inl x1), some (.inl (gaws s k)), some (.inl x3)] [] Z2 (zri Q) from H _ 0 1 rfl rfl (by omega)
    intro f
    induction f with
    | zero =>
      intro k x3 e y1 y2
      refine w210_9 ⟨by unfold zR; omega, by unfold zR; omega, fun _ => ?_, fun c => absurd (show x1 < x3 by omega) c⟩
      rw [show k = x1.toNat by omega]; exact hQ Z2 l
    | succ f ih =>
      intro k x3 e y1 y2
      have v := hf (k + 1) (by omega)
      rw [show ((k + 1 : Nat) : Int) = x3 by omega] at v
      refine w210_9 ⟨by unfold zR; omega, by unfold zR; omega, fun c => by omega, fun _ => ⟨by omega, ?_⟩⟩
      rw [v]
      exact ih (k + 1) (x3 + 1) (by omega) (by omega) (by omega)
  suffices H : ∀ (f k : Nat) (x2 : Int) (Z1 : zM), x2 = k → f = (x1 + 1).toNat - k → k ≤ (x1 + 1).toNat → QEb Z Z1 s b (ghours (-1) k s) → (∀ j : Nat, j < k → Z1 112 j = gerrs (ghours (-1) j s)) → TZ (d + 4) 205 6 [some (.inr 100), some (.inl x1), some (.inl x2)] [] Z1 (zrv fun Z1 => TZ (d + 5) 210 9 [some (.inr 100), some (.inl x1), some (.inl 0), some (.inl 1)] [] Z1 (zri Q)) from H _ 0 0 Z2 rfl rfl (by omega) k (fun j h1 => by omega)
  intro f
  induction f with
  | zero =>
    intro k x2 Z1 e y1 y2 m1 hf
    refine w205_6 ⟨by unfold zR; omega, by unfold zR; omega, fun y => H_forgets m1 wb hs fun Z3 l s3 => tail Z3 l fun j hj => ?_, fun c => absurd (show x1 < x2 by omega) c⟩
    rw [s3 112 (by decide)]; exact hf j (by omega)
  | succ f ih =>
    intro k x2 Z1 e y1 y2 m1 hf
    have wfk := ghours_w1 wf hh k (by omega)
    have ek := ghours_h (fl := -1) k s
    refine w205_6 ⟨by unfold zR; omega, by unfold zR; omega, fun y => by omega, fun y => R_shown m1.1.1 wfk ⟨by omega, fun Z8 e8 => ?_⟩⟩
    have m8 : QEb Z Z8 s b (ghours (-1) k s) := by subst e8; exact m1.up wb hs (by unfold scq; omega)
    refine R_wrong m8.1.1 wfk ⟨by omega, fun Z12 e12 => ?_⟩
    have m12 : QEb Z Z12 s b (ghours (-1) k s) := by subst e12; exact m8.up wb hs (by unfold scq; omega)
    refine H_pass m12 wb hs wfk (by rw [ek.1]; omega) fun r6 Z13 m13 s13 => ⟨by omega, fun Z16 e16 => ?_⟩
    have m16 : QEb Z Z16 s b (ghours (-1) (k + 1) s) := by subst e16; exact m13.up wb hs (by unfold scq; omega)
    refine ih (k + 1) (x2 + 1) Z16 (by omega) (by omega) (by omega) m16 fun j h1 => ?_
    have e2 : Z16 112 j = zup Z8 112 x2 (gapart (gshow (ghours (-1) k s).1 (ghours (-1) k s).2.1 (ghours (-1) k s).2.2.2.2.2.1 (ghours (-1) k s).2.2.2.2.2.2) (ghours (-1) k s).2.2.1) 112 j := by rw [e16, zup_cell _ _ _ _ (by decide), s13 112 (by decide), e12]
    rw [e2]
    by_cases ej : (j : Int) = x2
    · rw [ej, zup_same, show j = k by omega]; rfl
    · rw [zup_place _ _ _ _ ej, e8, zup_cell _ _ _ _ (by decide)]; exact hf j (by omega)
theorem gwt_back {x v : Int} : gwt x (s.2.2.2.2.2.2 x) (gwt x v s) = s := by
  obtain ⟨n, W, h, K, F, P, T⟩ := s
  show (n, W, h, K, F, P, gup (gup T x v) x (T x)) = (n, W, h, K, F, P, T)
  have : gup (gup T x v) x (T x) = T := by
    funext w
    by_cases e : w = x
    · subst e; rw [gup_same]
    · rw [gup_ne _ _ e, gup_ne _ _ e]
  rw [this]
theorem Y_bestWeight {x1 : Int} (A : RX Z a) (wx : WX a) (h1 : zR x1) : TI (d + 6) 234 [.inr 100, .inl x1] Z (PostR Z (oq a (gout x1 1 20) (vBestWeight a x1))) := by
  have m := QS.refl A
  have hW : 5 ≤ a.1.2.1 ∧ a.1.2.1 ≤ 6 := wx.1.1.2.1
  have ry : ∀ (Z2 : zM) (x v : Int), RY Z2 a → RY (zup Z2 102 x v) a := fun Z2 x v h => h.keep wx fun q p hs => by rw [zup_cell _ _ _ _ (by unfold SY at hs; omega)]
  refine w234_0 (R_bound h1 (by decide) (by decide) ⟨zR9 gb3, fun c => ?_, fun c => G_no m wx rfl (go_n c)⟩)
  have c1 := gout_0.mp c
  refine H_210 (s := a.1) m wx wx.1.1 wx.1.2 (by omega) fun Z5 l5 => ?_
  suffices H : ∀ (f : Nat) (x5 : Int) (o6 o7 o8 : Option zV) (Z1 : zM), f = (a.1.2.1 - x5).toNat → 0 ≤ x5 → x5 ≤ a.1.2.1 → QS Z Z1 a → TZ (d + 6) 234 31 [some (.inr 100), some (.inl x1), some (.inl (gout x1 1 20)), some (.inl (gbwt a x1.toNat (x5 * 12).toNat).1), some (.inl (gbwt a x1.toNat (x5 * 12).toNat).2), some (.inl x5), o6, o7, o8] [] Z1 (zri (PostR Z (oq a (gout x1 1 20) (vBestWeight a x1)))) from H _ 0 none none none Z5 rfl (by decide) (by omega) l5
  intro f
  induction f with
  | zero =>
    intro x5 o6 o7 o8 Z1 ef y1 y2 l
    have e6 := l.now.2.1
    refine w234_31 ⟨by unfold zR; omega, by unfold zR; omega, fun _ => ?_, fun c => absurd (show Z1 100 6 ≤ x5 by omega) c⟩
    have ok := G_ok (v := vBestWeight a x1) l c
    unfold vBestWeight at ok ⊢
    rw [show a.1.2.1 = x5 by omega] at ok ⊢
    exact ok
  | succ f ih =>
    intro x5 o6 o7 o8 Z1 ef y1 y2 l
    have e6 := l.now.2.1
    refine w234_31 ⟨by unfold zR; omega, by unfold zR; omega, fun c => by omega, fun cW => ⟨by omega, ?_⟩⟩
    have w0 : Z1 102 x5 = a.1.2.2.2.2.2.2 x5 := l.1.1.2.2.2.2 x5 y1 (by omega)
    rw [w0]
    suffices H : ∀ (g : Nat) (x7 : Int) (o8 : Option zV) (Z1 : zM), g = (12 - x7).toNat → 0 ≤ x7 → x7 ≤ 12 → QS Z Z1 a → TZ (d + 6) 234 52 [some (.inr 100), some (.inl x1), some (.inl (gout x1 1 20)), some (.inl (gbwt a x1.toNat (x5 * 12 + x7).toNat).1), some (.inl (gbwt a x1.toNat (x5 * 12 + x7).toNat).2), some (.inl x5), some (.inl (a.1.2.2.2.2.2.2 x5)), some (.inl x7), o8] [] Z1 (zri (PostR Z (oq a (gout x1 1 20) (vBestWeight a x1)))) from by
      have := H 12 0 o8 Z1 rfl (by decide) (by decide) l
      rw [Int.add_zero] at this
      exact this
    intro g
    induction g with
    | zero =>
      intro x7 o8 Z1 eg z1 z2 l
      refine w234_52 ⟨by unfold zR; omega, fun _ => ?_, fun c => absurd (show 12 ≤ x7 by omega) c⟩
      have := ih (x5 + 1) (some (.inl (a.1.2.2.2.2.2.2 x5))) (some (.inl x7)) o8 Z1 (by omega) (by omega) (by omega) l
      rw [show (x5 + 1) * 12 = x5 * 12 + x7 by omega] at this
      exact this
    | succ g ihg =>
      intro x7 o8 Z1 eg z1 z2 l
      refine w234_52 ⟨by unfold zR; omega, fun c => by omega, fun c7 => ⟨by omega, fun Z4 e4 => ?_⟩⟩
      have l4 : QSb Z Z4 (gwt x5 x7 a.1) a := by
        subst e4
        exact ⟨⟨RFs.weigh l.1.1 (by omega), ry _ _ _ l.1.2⟩, fun q hq => by rw [← l.2 q hq]; funext p; exact zup_cell _ _ _ _ (by omega)⟩
      have gb := gbwt_b (a := a) (n := x1.toNat) (x5 * 12 + x7).toNat
      refine H_210 l4 wx (gwt_wf wx.1.1 (by omega)) wx.1.2 (by omega) fun Z6 l6 => ⟨by omega, fun Z8 e8 => ?_⟩
      have ev : gaws (gwt x5 x7 a.1) x1.toNat = gtv a (x5 * 12 + x7) x1.toNat := by
        unfold gtv
        rw [show (x5 * 12 + x7) / 12 = x5 by omega, show (x5 * 12 + x7) % 12 = x7 by omega]
      have tvb : 0 ≤ gtv a (x5 * 12 + x7) x1.toNat ∧ gtv a (x5 * 12 + x7) x1.toNat ≤ 6 * x1.toNat := gaws_b x1.toNat
      have l8 : QS Z Z8 a := by
        subst e8
        have R := RFs.weigh (x := x5) (v := a.1.2.2.2.2.2.2 x5) l6.1.1 (by omega)
        rw [gwt_back] at R
        exact ⟨⟨R, ry _ _ _ l6.1.2⟩, fun q hq => by rw [← l6.2 q hq]; funext p; exact zup_cell _ _ _ _ (by omega)⟩
      have st : gbwt a x1.toNat (x5 * 12 + (x7 + 1)).toNat = if (gbwt a x1.toNat (x5 * 12 + x7).toNat).1 ≤ gtv a (x5 * 12 + x7) x1.toNat then gbwt a x1.toNat (x5 * 12 + x7).toNat else (gtv a (x5 * 12 + x7) x1.toNat, 100 * x5 + x7) := by
        rw [show (x5 * 12 + (x7 + 1)).toNat = (x5 * 12 + x7).toNat + 1 by omega]
        show (if _ ≤ gtv a (((x5 * 12 + x7).toNat : Nat) : Int) x1.toNat then _ else (gtv a (((x5 * 12 + x7).toNat : Nat) : Int) x1.toNat, 100 * ((((x5 * 12 + x7).toNat : Nat) : Int) / 12) + (((x5 * 12 + x7).toNat : Nat) : Int) % 12)) = _
        rw [show (((x5 * 12 + x7).toNat : Nat) : Int) = x5 * 12 + x7 by omega, show (x5 * 12 + x7) / 12 = x5 by omega, show (x5 * 12 + x7) % 12 = x7 by omega]
      rw [ev]
      have ihg' := ihg (x7 + 1) (some (.inl (gtv a (x5 * 12 + x7) x1.toNat))) Z8 (by omega) (by omega) (by omega) l8
      rw [st] at ihg'
      refine ⟨by unfold zR; omega, by unfold zR; omega, fun q => ?_, fun q => ?_⟩
      · rw [if_neg (by omega)] at ihg'; exact ihg'
      · rw [if_pos (by omega)] at ihg'; exact ihg'
end
