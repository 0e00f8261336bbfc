/-! WHAT IS IN ORDER STAYS SO, call by call -/
def OKX (a : gX) : Prop := WX a ∧ VX a
theorem okx_res {a a' : gX} {c v : Int} (h : OKX a) (h2 : c = 0 → OKX a') : OKX (ores a c v a').2 := by
  unfold ores
  split
  · next e => exact h2 e
  · exact h
theorem okx_q {a : gX} {c v : Int} (h : OKX a) : OKX (oq a c v).2 := okx_res h fun _ => h
/-- now becomes another, the past is forgotten -/
theorem okx_now {a : gX} {s : gS} {p : (Int → Int → Int) × (Int → Int)} (h : OKX a) (w : WFs s) (hh : s.2.2.1 ≤ 999) (w4 : W4 s.1 s.2.2.2.2.2.1) : OKX (s, (0, p), a.2.2) :=
  ⟨⟨⟨w, hh⟩, fun j h1 h2 => absurd h2 (by show ¬ j < 0; omega), h.1.2.2⟩, ⟨w4, fun j h1 h2 => absurd h2 (by show ¬ j < 0; omega), h.2.2.2⟩⟩
/-- now moves on, what was is kept -/
theorem okx_keep {n W h h' kept : Int} {K F P P' T : Int → Int} {PA : Int → Int → Int} {HA : Int → Int} {r : (Int × gS) × (Int × (Int → Int)) × (Int × (Int → Int)) × (Int → Int)} (k : 0 ≤ kept ∧ kept ≤ 8) (o : OKX ((n, W, h, K, F, P, T), (kept, PA, HA), r)) (w : WF n W h' K F P' T) (hh : h' ≤ 999) (w4 : W4 n P') : OKX ((n, W, h', K, F, P', T), (gkn kept, gkP kept PA P, gkH kept HA h), r) := by
  obtain ⟨⟨⟨o1, o2⟩, o3, o4⟩, ⟨o5, o6, o7⟩⟩ := o
  have o1 : WF n W h K F P T := o1
  have o2 : h ≤ 999 := o2
  have o3 : ∀ j, 0 ≤ j → j < kept → WF n W (HA j) K F (PA j) T ∧ HA j ≤ 999 := o3
  have o5 : W4 n P := o5
  have o6 : ∀ j, 0 ≤ j → j < kept → W4 n (PA j) := o6
  have past : ∀ j, 0 ≤ j → j < gkn kept → (WF n W (gkH kept HA h j) K F (gkP kept PA P j) T ∧ gkH kept HA h j ≤ 999) ∧ W4 n (gkP kept PA P j) := by
    intro j h1 h2
    unfold gkn at h2
    unfold gkH gkP
    by_cases c : kept < 8
    · rw [if_pos c, if_pos c]
      by_cases e : j = kept
      · rw [if_pos e, if_pos e]; exact ⟨⟨o1, o2⟩, o5⟩
      · rw [if_neg e, if_neg e]; exact ⟨o3 j h1 (by omega), o6 j h1 (by omega)⟩
    · rw [if_neg c, if_neg c]
      by_cases e : j = 7
      · rw [if_pos e, if_pos e]; exact ⟨⟨o1, o2⟩, o5⟩
      · rw [if_neg e, if_neg e]; exact ⟨o3 (j + 1) (by omega) (by omega), o6 (j + 1) (by omega) (by omega)⟩
  exact ⟨⟨⟨w, hh⟩, fun j h1 h2 => (past j h1 h2).1, o4⟩, ⟨w4, fun j h1 h2 => (past j h1 h2).2, o7⟩⟩
section
variable {a : gX}
theorem okx_comes {x1 x2 x3 : Int} (o : OKX a) : OKX (oComes a x1 x2 x3).2 := by
  refine okx_res o fun c => ?_
  have wf := o.1.1.1
  have hh := o.1.1.2
  have w4 := o.2.1
  obtain ⟨⟨n, W, h, K, F, P, T⟩, pa, r⟩ := a
  unfold ccomes at c
  dsimp only at c
  split at c
  · next e =>
    split at c
    · next e2 =>
      split at c
      · next e3 =>
        have e1 := geith_0.mp e
        have e4 := geith_0.mp e1.2
        have g1 := gin_0.mp e1.1
        have g2 := gunk_0.mp e4.1
        have g3 := gout_0.mp e4.2
        have rm := roomb_iff.mp e3
        exact okx_now o (gadd_wf wf e2 g1 g2 g3) hh (gadd_w4 wf.1.1 w4 rm.2.2)
      · exact absurd c (by decide)
    · exact absurd c (by decide)
  · next e => exact absurd c e
theorem okx_weight {x1 x2 : Int} (o : OKX a) : OKX (oWeight a x1 x2).2 := by
  refine okx_res o fun c => ?_
  have g := gout_0.mp (geith_0.mp c).2
  have w4 := o.2.1
  have hh := o.1.1.2
  have wf := gwt_wf (w := x1) o.1.1.1 g
  obtain ⟨⟨n, W, h, K, F, P, T⟩, pa, r⟩ := a
  exact okx_now o wf hh w4
theorem okx_sixth {x : Int} (o : OKX a) : OKX (oSixth a x).2 := by
  refine okx_res o fun c => ?_
  have g := gunk_0.mp c
  have w4 := o.2.1
  have hh := o.1.1.2
  have wf := ghung_wf (x := x) o.1.1.1 (by omega)
  have hn := o.1.1.1.1
  obtain ⟨⟨n, W, h, K, F, P, T⟩, pa, r⟩ := a
  have w4 : W4 n P := w4
  have hn : 0 ≤ n ∧ n ≤ 8 := hn
  refine okx_now o wf hh ?_
  show W4 n (ghang n W P x)
  unfold ghang
  split
  · exact gC_w4 w4 _ (by omega)
  · exact w4
theorem okx_feeds {x : Int} (k : 0 ≤ a.2.1.1 ∧ a.2.1.1 ≤ 8) (o : OKX a) : OKX (oFeeds a x).2 := by
  refine okx_res o fun c => ?_
  have wf := o.1.1.1
  have hh := o.1.1.2
  have w4 := o.2.1
  obtain ⟨⟨n, W, h, K, F, P, T⟩, ⟨kept, PA, HA⟩, r⟩ := a
  have wf : WF n W h K F P T := wf
  have w4 : W4 n P := w4
  have hW := wf.2.1
  have hn := wf.1
  have h0 := wf.2.2.1
  unfold cfeeds at c
  dsimp only at c
  have hx : -1 ≤ x ∧ x < W := by
    split at c
    · next e =>
      rcases e with e | e
      · omega
      · have := gin_0.mp e; omega
    · next e => exact absurd (Or.inr c) e
  have h9 : h < 999 := by
    split at c
    · split at c
      · assumption
      · exact absurd c (by decide)
    · next e => exact absurd (Or.inr c) e
  exact okx_keep k o ((gP_wf wf hx n.toNat (by omega)).hour (h' := h + 1) ⟨by omega, by omega⟩) (by omega) (gP_w4 w4 _ (by omega))
theorem okx_cat {x : Int} (k : 0 ≤ a.2.1.1 ∧ a.2.1.1 ≤ 8) (o : OKX a) : OKX (oCat a x).2 := by
  refine okx_res o fun c => ?_
  have g := gin_0.mp c
  have wf := o.1.1.1
  have hh := o.1.1.2
  have w4 := o.2.1
  obtain ⟨⟨n, W, h, K, F, P, T⟩, ⟨kept, PA, HA⟩, r⟩ := a
  have wf : WF n W h K F P T := wf
  have w4 : W4 n P := w4
  have hn : 0 ≤ n ∧ n ≤ 8 := wf.1
  exact okx_keep k o (gC_wf wf g.1 n.toNat (by omega)) hh (gC_w4 w4 _ (by omega))
theorem okx_hawk (k : 0 ≤ a.2.1.1 ∧ a.2.1.1 ≤ 8) (o : OKX a) : OKX (oHawk a).2 := by
  have wf := o.1.1.1
  have hh := o.1.1.2
  have w4 := o.2.1
  obtain ⟨⟨n, W, h, K, F, P, T⟩, ⟨kept, PA, HA⟩, r⟩ := a
  have wf : WF n W h K F P T := wf
  have w4 : W4 n P := w4
  have hn : 0 ≤ n ∧ n ≤ 8 := wf.1
  exact okx_keep k o (gH_wf wf n.toNat (by omega)) hh (gH_w4 w4 _ (by omega))
theorem okx_rain (k : 0 ≤ a.2.1.1 ∧ a.2.1.1 ≤ 8) (o : OKX a) : OKX (oRain a).2 := by
  have wf := o.1.1.1
  have hh := o.1.1.2
  have w4 := o.2.1
  obtain ⟨⟨n, W, h, K, F, P, T⟩, ⟨kept, PA, HA⟩, r⟩ := a
  have wf : WF n W h K F P T := wf
  have w4 : W4 n P := w4
  have hn : 0 ≤ n ∧ n ≤ 8 := wf.1
  exact okx_keep k o (gR_wf wf n.toNat (by omega)) hh (gR_w4 w4 _ (by omega))
theorem okx_back (k : 0 ≤ a.2.1.1 ∧ a.2.1.1 ≤ 8) (o : OKX a) : OKX (oBack a).2 := by
  refine okx_res o fun c => ?_
  have k0 : ¬ a.2.1.1 = 0 := fun e => by rw [if_pos e] at c; exact absurd c (by decide)
  obtain ⟨⟨⟨o1, o2⟩, o3, o4⟩, ⟨o5, o6, o7⟩⟩ := o
  have p := o3 (a.2.1.1 - 1) (by omega) (by omega)
  exact ⟨⟨p, fun j h1 h2 => o3 j h1 (by have h2 : j < a.2.1.1 - 1 := h2; omega), o4⟩, ⟨o6 _ (by omega) (by omega), fun j h1 h2 => o6 j h1 (by have h2 : j < a.2.1.1 - 1 := h2; omega), o7⟩⟩
theorem okx_image (o : OKX a) : OKX (oImage a).2 := ⟨⟨o.1.1, o.1.2.1, fun _ => o.1.1⟩, ⟨o.2.1, o.2.2.1, fun _ => o.2.1⟩⟩
theorem okx_restore (im : a.2.2.1.1 = 0 ∨ a.2.2.1.1 = 1) (o : OKX a) : OKX (oRestore a).2 := by
  refine okx_res o fun c => ?_
  have i1 : a.2.2.1.1 = 1 := by
    rcases im with e | e
    · rw [if_pos e] at c; exact absurd c (by decide)
    · exact e
  have w := o.1.2.2 i1
  exact okx_now o w.1 w.2 (o.2.2.2 i1)
theorem gTown_ok {L : Int} {t : Int → Int} : ∀ (f : Nat) (p c : Int) (s : gS), 0 ≤ p → (p < L → gOdd L t f p < 0) → WFs s → s.2.2.1 ≤ 999 → W4 s.1 s.2.2.2.2.2.1 → ∀ c' s', gTown L t f p s c = (c', some s') → WFs s' ∧ s'.2.2.1 ≤ 999 ∧ W4 s'.1 s'.2.2.2.2.2.1
  | 0, p, c, s, _, _, wf, hh, w4, c', s', h => by
    cases h; exact ⟨wf, hh, w4⟩
  | f + 1, p, c, s, hp, hodd, wf, hh, w4, c', s', h => by
    rw [gTown_step] at h
    split at h
    · cases h; exact ⟨wf, hh, w4⟩
    · next c1 =>
      obtain ⟨ok, nx⟩ := gOdd_ok hp (hodd (by omega))
      obtain ⟨ok1, ok2, ok3⟩ := ok
      have hn := tn_b (c := tl L t p)
      split at h
      · cases h
      · next s2 hs =>
        have w' := gstmt_wf wf hh (fun e => by
          refine ok2 2 (by decide) ?_
          rw [e]; decide) hs
        have v' := gstmt_w4 wf w4 hs
        have em : max 0 (tn (tl L t p)) = tn (tl L t p) := by omega
        rw [em] at h
        exact gTown_ok f _ (c + 1) s2 (by omega) nx w'.1 w'.2 v' c' s' h
theorem okx_town (o : OKX a) : OKX (oTown a).2 := by
  unfold oTown
  split
  · exact o
  · next c =>
    cases hg : gTown a.2.2.2.1.1 a.2.2.2.1.2 100 0 a.1 0 with
    | mk c' s =>
      cases s with
      | none => exact o
      | some s' =>
        have w := gTown_ok 100 0 0 a.1 (by decide) (fun _ => by omega) o.1.1.1 o.1.1.2 o.2.1 c' s' hg
        exact okx_now o w.1 w.2.1 w.2.2
end
/-! frames -/
theorem RX.hi {Z Z' : zM} {a : gX} (A : RX Z a) (h : ∀ q, 100 ≤ q → Z' q = Z q) : RX Z' a := by
  unfold RX RFs RF RY RP RI RT RR RB BF at *
  simp only [h 100 (by decide), h 101 (by decide), h 102 (by decide), h 103 (by decide), h 104 (by decide), h 105 (by decide), h 106 (by decide), h 110 (by decide), h 116 (by decide)]
  exact A
theorem CX.lo {Z Z' : zM} {a : gX} (A : CX Z a) (h : ∀ q, q < 100 → Z' q = Z q) : CX Z' a := A.frame fun q hq => h q (by omega)
theorem CX.kb {Z : zM} {a : gX} (A : CX Z a) : 0 ≤ a.2.1.1 ∧ a.2.1.1 ≤ 8 := A.2.1.2.1
theorem CX.im {Z : zM} {a : gX} (A : CX Z a) : a.2.2.1.1 = 0 ∨ a.2.2.1.1 = 1 := A.2.2.1.2.1
theorem oq_2 {a : gX} {c v : Int} : (oq a c v).2 = (oq a c 0).2 := by
  unfold oq ores
  split <;> rfl
