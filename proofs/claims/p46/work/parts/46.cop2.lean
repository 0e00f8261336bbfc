/-! the class's calls that change the state: HOURS, CATS, HAWKS, RAIN, what is taken back, the image, TOWNS, the ROW -/
section
variable {d : Nat} {Z : zM} {a : gX}
/-- past kept, then now moved on -/
theorem CXkeep {Z1 Z2 : zM} {s' : gS} (A : CX Z a) (hn : s'.1 = a.1.1) (B : CP Z1 a.1.1 (gkeep a).1 (gkeep a).2.1 (gkeep a).2.2) (f1 : frs (fun q => 26 ≤ q ∧ q ≤ 36) Z Z1) (f2 : fr 1 Z1 Z2) (C : CFs 1 Z2 s') : CX Z2 (s', gkeep a, a.2.2) ∧ ∀ q, 100 ≤ q → Z2 q = Z q := by
  obtain ⟨A1, a2, a3, a6, a7, a8⟩ := A
  have F : ∀ q, (q < 1 ∨ 6 < q) → (q < 26 ∨ 36 < q) → Z2 q = Z q := fun q h1 h2 => by
    rw [f2 q (by omega), f1 q (by omega)]
  refine ⟨⟨C, ?_, CI.keep a3 fun q _ => F q (by omega) (by omega), CT.keep a6 (F 37 (by omega) (by omega)) (F 38 (by omega) (by omega)), CR.keep a7 (F 39 (by omega) (by omega)) (F 40 (by omega) (by omega)), CB.keep a8 (F 43 (by omega) (by omega))⟩, fun q hq => F q (by omega) (by omega)⟩
  show CP Z2 s'.1 _ _ _
  rw [hn]
  exact B.keep fun q h1 h2 => f2 q (by omega)
theorem K_keep {Q : zM → Prop} (A : CX Z a) (wx : WX a) (hQ : ∀ Z1, CP Z1 a.1.1 (gkeep a).1 (gkeep a).2.1 (gkeep a).2.2 → frs (fun q => 26 ≤ q ∧ q ≤ 36) Z Z1 → CFs 1 Z1 a.1 → Q Z1) : TV (d + 1) 47 [.inr 26, .inr 1] Z Q := by
  have wn : 0 ≤ a.1.1 ∧ a.1.1 ≤ 8 := wx.1.1.1
  exact C_keep rfl A.1 wn.2 A.2.1 fun Z1 B f => hQ Z1 B f (CF.keep A.1 fun q h1 h2 => f q (by omega))
theorem K_feeds {x : Int} (A : CX Z a) (wx : WX a) (hx : zR x) : TI (d + 4) 92 [.inr 0, .inl x] Z (PostC Z (oFeeds a x)) := by
  have A1 : CFs 1 Z a.1 := A.1
  have e6 : Z 1 6 = a.1.2.1 := A1.2.1
  have e7 : Z 1 7 = a.1.2.2.1 := A1.2.2.1
  have hW : 5 ≤ a.1.2.1 ∧ a.1.2.1 ≤ 6 := wx.1.1.2.1
  have hh : 0 ≤ a.1.2.2.1 ∧ a.1.2.2.1 ≤ 1000000 := wx.1.1.2.2.1
  have hh9 := wx.1.2
  have g := gb1 (W := a.1.2.1) (w := x)
  have H : cfeeds a.1 x = 0 → (-1 ≤ x ∧ x < a.1.2.1) → TV (d + 3) 47 [.inr 26, .inr 1] Z (fun Z9 => TI (d + 3) 25 [.inr 1, .inl x] Z9 (fun r11 Z10 => TI (d + 3) 22 [.inr 1] Z10 (fun r13 Z12 => PostC Z (oFeeds a x) r13 Z12))) := by
    intro hc hf
    refine K_keep A wx fun Z1 B f1 A2 => ?_
    refine C_pass (n := a.1.1) (W := a.1.2.1) (h := a.1.2.2.1) (K := a.1.2.2.2.1) (F := a.1.2.2.2.2.1) (P := a.1.2.2.2.2.2.1) (T := a.1.2.2.2.2.2.2) zF1 A2 wx.1.1 hf (by omega) fun Z2 C f2 => ?_
    have wf2 := gpass_wf (fl := x) wx.1.1 hf (by omega)
    refine C_shows (n := a.1.1) (W := a.1.2.1) (h := a.1.2.2.1 + 1) (K := a.1.2.2.2.1) (F := a.1.2.2.2.2.1) (T := a.1.2.2.2.2.2.2) zF1 C wf2 ?_
    obtain ⟨h1, h2⟩ := CXkeep (s' := gpass x a.1) A rfl B f1 f2 C
    exact PM hc h1 h2
  refine w92_0 ⟨hx, fun c => C_noWire hx e6 (by unfold zR; omega) ⟨zR9 g, fun c2 => ⟨zR9 g, fun c3 => absurd c3 c2, fun _ => C_refuse (by omega) (PRc A (by unfold cfeeds; rw [if_neg (by omega)]) (by omega))⟩, fun c2 => ?_⟩, fun c => ?_⟩
  · have c2 : gin a.1.2.1 x = 0 := by omega
    have c3 := gin_0.mp c2
    rw [e7]
    refine ⟨by unfold zR; omega, fun c4 => ⟨zR9 g, fun _ => H (by unfold cfeeds; rw [if_pos (Or.inr c2), if_pos c4]) (by omega), fun c5 => absurd c2 c5⟩, fun c4 => C_refuse (by decide) (PRc A (by unfold cfeeds; rw [if_pos (Or.inr c2), if_neg c4]) (by decide))⟩
  · have c : x = -1 := by omega
    rw [e7]
    exact ⟨by unfold zR; omega, fun c4 => H (by unfold cfeeds; rw [if_pos (Or.inl c), if_pos c4]) (by omega), fun c4 => C_refuse (by decide) (PRc A (by unfold cfeeds; rw [if_pos (Or.inl c), if_neg c4]) (by decide))⟩
theorem K_cat {x : Int} (A : CX Z a) (wx : WX a) (hx : zR x) : TI (d + 3) 93 [.inr 0, .inl x] Z (PostC Z (oCat a x)) := by
  have A1 : CFs 1 Z a.1 := A.1
  have e6 : Z 1 6 = a.1.2.1 := A1.2.1
  have hW : 5 ≤ a.1.2.1 ∧ a.1.2.1 ≤ 6 := wx.1.1.2.1
  have g := gb1 (W := a.1.2.1) (w := x)
  refine w93_0 (C_noWire hx e6 (by unfold zR; omega) ⟨zR9 g, fun c => ?_, fun c => C_refuse (by omega) (PR A c g)⟩)
  have c1 := gin_0.mp c
  refine K_keep A wx fun Z1 B f1 A2 => ?_
  refine C_scare (n := a.1.1) (W := a.1.2.1) (h := a.1.2.2.1) (K := a.1.2.2.2.1) (F := a.1.2.2.2.2.1) (P := a.1.2.2.2.2.2.1) (T := a.1.2.2.2.2.2.2) zF1 A2 wx.1.1 (by omega) fun Z2 C f2 => ?_
  obtain ⟨h1, h2⟩ := CXkeep (s' := gcat x a.1) A rfl B f1 f2 C
  exact PM c h1 h2
theorem K_hawk (A : CX Z a) (wx : WX a) : TI (d + 3) 94 [.inr 0] Z (PostC Z (oHawk a)) := by
  refine w94_0 (K_keep A wx fun Z1 B f1 A2 => ?_)
  refine C_up (n := a.1.1) (W := a.1.2.1) (h := a.1.2.2.1) (K := a.1.2.2.2.1) (F := a.1.2.2.2.2.1) (P := a.1.2.2.2.2.2.1) (T := a.1.2.2.2.2.2.2) zF1 A2 wx.1.1 fun Z2 C f2 => ?_
  obtain ⟨h1, h2⟩ := CXkeep (s' := ghawk a.1) A rfl B f1 f2 C
  exact ⟨rfl, h1, h2⟩
theorem K_rain (A : CX Z a) (wx : WX a) : TI (d + 3) 95 [.inr 0] Z (PostC Z (oRain a)) := by
  refine w95_0 (K_keep A wx fun Z1 B f1 A2 => ?_)
  refine C_down (n := a.1.1) (W := a.1.2.1) (h := a.1.2.2.1) (K := a.1.2.2.2.1) (F := a.1.2.2.2.2.1) (P := a.1.2.2.2.2.2.1) (T := a.1.2.2.2.2.2.2) zF1 A2 wx.1.1 fun Z2 C f2 => ?_
  obtain ⟨h1, h2⟩ := CXkeep (s' := grain a.1) A rfl B f1 f2 C
  exact ⟨rfl, h1, h2⟩
theorem K_back (A : CX Z a) (wx : WX a) : TI (d + 3) 96 [.inr 0] Z (PostC Z (oBack a)) := by
  have e3 : Z 26 3 = a.2.1.1 := A.2.1.1
  have hk : 0 ≤ a.2.1.1 ∧ a.2.1.1 ≤ 8 := A.2.1.2.1
  refine w96_0 ?_
  rw [e3]
  refine ⟨by unfold zR; omega, fun c => ?_, fun c => C_refuse (by decide) (PRc A (by rw [if_pos (by omega)]) (by decide))⟩
  have hc : (if a.2.1.1 = 0 then (-3 : Int) else 0) = 0 := if_neg c
  obtain ⟨wk, _⟩ := wx.2.1 (a.2.1.1 - 1) (by omega) (by omega)
  refine C_takeBack (n := a.1.1) (W := a.1.2.1) (h := a.1.2.2.1) (K := a.1.2.2.2.1) (F := a.1.2.2.2.2.1) (P := a.1.2.2.2.2.2.1) (T := a.1.2.2.2.2.2.2) A.1 wx.1.1 A.2.1 (by omega) (fun b h1 h2 => (wk.2.2.2.1 b h1 h2).2.2) fun Z' C B f => ?_
  have e7 : Z' 1 7 = a.2.1.2.2 (a.2.1.1 - 1) := C.2.2.1
  rw [e7]
  obtain ⟨A1, a2, a3, a6, a7, a8⟩ := A
  have F : ∀ q, (q < 1 ∨ 6 < q) → q ≠ 26 → Z' q = Z q := fun q h1 h2 => f q (by omega)
  exact PM hc ⟨C, B, CI.keep a3 fun q _ => F q (by omega) (by omega), CT.keep a6 (F 37 (by omega) (by omega)) (F 38 (by omega) (by omega)), CR.keep a7 (F 39 (by omega) (by omega)) (F 40 (by omega) (by omega)), CB.keep a8 (F 43 (by omega) (by omega))⟩ fun q hq => F q (by omega) (by omega)
theorem K_image (A : CX Z a) (wx : WX a) : TI (d + 3) 149 [.inr 0] Z (PostC Z (oImage a)) := by
  have wn : 0 ≤ a.1.1 ∧ a.1.1 ≤ 8 := wx.1.1.1
  refine w149_0 (C_become (n := a.1.1) (W := a.1.2.1) (h := a.1.2.2.1) (K := a.1.2.2.2.1) (F := a.1.2.2.2.2.1) (P := a.1.2.2.2.2.2.1) (T := a.1.2.2.2.2.2.2) zF7 zF1 (by decide) A.1 wn.2 fun Z1 B f Z2 z2 => ?_)
  have F : ∀ q, q ≠ 0 → (q < 7 ∨ 12 < q) → Z2 q = Z q := fun q h1 h2 => by subst z2; funext p; rw [zup_cell _ _ _ _ h1, f q (by omega)]
  have e7 : Z2 1 7 = a.1.2.2.1 := by rw [F 1 (by omega) (by omega)]; exact A.1.2.2.1
  rw [e7]
  obtain ⟨A1, a2, a3, a6, a7, a8⟩ := A
  refine ⟨rfl, ⟨CF.keep A1 fun q _ _ => F q (by omega) (by omega), a2.keep fun q _ _ => F q (by omega) (by omega), ⟨by subst z2; show zup Z1 0 17 1 0 17 = 1; simp [zup], Or.inr rfl, fun _ => CF.keep B fun q h1 h2 => by subst z2; funext p; rw [zup_cell _ _ _ _ (by omega)]⟩, CT.keep a6 (F 37 (by omega) (by omega)) (F 38 (by omega) (by omega)), CR.keep a7 (F 39 (by omega) (by omega)) (F 40 (by omega) (by omega)), CB.keep a8 (F 43 (by omega) (by omega))⟩, fun q hq => F q (by omega) (by omega)⟩
theorem K_restore (A : CX Z a) (wx : WX a) : TI (d + 3) 150 [.inr 0] Z (PostC Z (oRestore a)) := by
  obtain ⟨e1, e2, e3⟩ := A.2.2.1
  refine w150_0 ?_
  rw [e1]
  refine ⟨by unfold zR; omega, fun c => ?_, fun c => C_refuse (by decide) (PRc A (by rw [if_pos (by omega)]) (by decide))⟩
  have hc : (if a.2.2.1.1 = 0 then (-3 : Int) else 0) = 0 := if_neg c
  have i1 : a.2.2.1.1 = 1 := by omega
  have wi := (wx.2.2 i1).1
  have wn : 0 ≤ a.2.2.1.2.1 ∧ a.2.2.1.2.1 ≤ 8 := wi.1
  refine C_become (n := a.2.2.1.2.1) (W := a.2.2.1.2.2.1) (h := a.2.2.1.2.2.2.1) (K := a.2.2.1.2.2.2.2.1) (F := a.2.2.1.2.2.2.2.2.1) (P := a.2.2.1.2.2.2.2.2.2.1) (T := a.2.2.1.2.2.2.2.2.2.2) zF1 zF7 (by decide) (e3 i1) wn.2 fun Z1 B f => C_forget ?_
  have e7 : zup Z1 26 3 0 1 7 = a.2.2.1.2.2.2.1 := by rw [zup_cell _ _ _ _ (by decide)]; exact B.2.2.1
  rw [e7]
  exact PM hc (CXnow (s' := a.2.2.1.2) A f B) fun q hq => by funext p; rw [zup_cell _ _ _ _ (by omega), f q (by omega)]
theorem C_rput {x : Int} {rl : Int} {r : Int → Int} {Q : Int → zM → Prop} (hx : 0 ≤ x ∧ x ≤ 99) (B : CR Z rl r) (hL : rl < 12) (hQ : ∀ Z', CR Z' (rl + 1) (gup r rl x) → frs (fun q => q = 39 ∨ q = 40) Z Z' → Q (rl + 1) Z') : TI d 58 [.inr 39, .inl x] Z Q := by
  obtain ⟨e1, e2, e3⟩ := B
  refine w58_0 ?_
  rw [e1]
  refine ⟨by unfold zR; omega, fun x => absurd x (by omega), fun _ => ⟨by omega, fun Z1 z1 Z2 z2 => ?_⟩⟩
  have f1 : Z2 39 3 = rl + 1 := by subst z2; subst z1; simp [zup, e1]
  rw [f1]
  refine hQ Z2 ⟨f1, by omega, fun p h1 h2 => ?_⟩ ?_
  · subst z2; subst z1
    by_cases e : p = rl
    · subst e; simp [zup, gup]; omega
    · have := e3 p h1 (by omega)
      simp [zup, gup, e, this]
  · subst z2; subst z1; exact frs.trans (frs_up (Or.inr rfl)) (frs_up (Or.inl rfl))
theorem K_row {x : Int} (A : CX Z a) (hx : zR x) : TI (d + 2) 145 [.inr 0, .inl x] Z (PostC Z (oRow a x)) := by
  have B : CR Z a.2.2.2.2.1.1 a.2.2.2.2.1.2 := A.2.2.2.2.1
  have B0 := B
  obtain ⟨b1, b2, b3⟩ := B
  have g := gb3 (x := x) (lo := 0) (hi := 99)
  refine w145_0 (C_outside hx (by decide) (by decide) ⟨zR9 g, fun c => ⟨zR9 g, fun c2 => absurd c2 c, fun _ => C_refuse (by omega) (PRc A (by unfold crow; rw [if_neg c]) (by omega))⟩, fun c => ?_⟩)
  have c : gout x 0 99 = 0 := by omega
  rw [b1]
  refine ⟨by unfold zR; omega, fun c2 => ⟨zR9 g, fun _ => ?_, fun c3 => absurd c c3⟩, fun c2 => C_refuse (by decide) (PRc A (by unfold crow; rw [if_pos c, if_neg c2]) (by decide))⟩
  refine C_rput (gout_0.mp c) B0 c2 fun Z' B' f' => PM (by unfold crow; rw [if_pos c, if_pos c2]) ?_ fun q hq => f' q (by omega)
  obtain ⟨a1, a2, a3, a6, a7, a8⟩ := A
  exact ⟨CF.keep a1 fun q _ _ => f' q (by omega), a2.keep fun q _ _ => f' q (by omega), CI.keep a3 fun q _ => f' q (by omega), CT.keep a6 (f' 37 (by omega)) (f' 38 (by omega)), B', CB.keep a8 (f' 43 (by omega))⟩
/-- the ROW has none then -/
theorem CX39 (A : CX Z a) : CX (zup Z 39 3 0) (a.1, a.2.1, a.2.2.1, a.2.2.2.1, (0, a.2.2.2.2.1.2), a.2.2.2.2.2) := by
  have F : ∀ q, q ≠ 39 → zup Z 39 3 0 q = Z q := fun q h => funext fun p => zup_cell _ _ _ _ h
  obtain ⟨a1, a2, a3, a6, a7, a8⟩ := A
  exact ⟨CF.keep a1 fun q _ _ => F q (by omega), a2.keep fun q _ _ => F q (by omega), CI.keep a3 fun q _ => F q (by omega), CT.keep a6 (F 37 (by omega)) (F 38 (by omega)), ⟨by simp [zup], show (0 : Int) ≤ 0 ∧ (0 : Int) ≤ 12 by decide, fun j h1 h2 => absurd h2 (by show ¬ j < 0; omega)⟩, CB.keep a8 (F 43 (by omega))⟩
theorem K_clear (A : CX Z a) : TI (d + 1) 147 [.inr 0] Z (PostC Z (oClear a)) := by
  have b1 : Z 39 3 = a.2.2.2.2.1.1 := A.2.2.2.2.1.1
  refine w147_0 fun Z1 z1 => ?_
  rw [b1]
  subst z1
  exact ⟨rfl, CX39 A, fun q hq => funext fun p => zup_cell _ _ _ _ (by omega)⟩
theorem CX37 (A : CX Z a) : CX (zup Z 37 1 0) (a.1, a.2.1, a.2.2.1, (0, a.2.2.2.1.2), a.2.2.2.2) := by
  have F : ∀ q, q ≠ 37 → zup Z 37 1 0 q = Z q := fun q h => funext fun p => zup_cell _ _ _ _ h
  obtain ⟨a1, a2, a3, a6, a7, a8⟩ := A
  exact ⟨CF.keep a1 fun q _ _ => F q (by omega), a2.keep fun q _ _ => F q (by omega), CI.keep a3 fun q _ => F q (by omega), ⟨by simp [zup], show (0 : Int) ≤ 0 ∧ (0 : Int) ≤ 96 by decide, fun j h1 h2 => absurd h2 (by show ¬ j < 0; omega)⟩, CR.keep a7 (F 39 (by omega)) (F 40 (by omega)), CB.keep a8 (F 43 (by omega))⟩
theorem K_count {x : Int} (A : CX Z a) (wx : WX a) (hx : zR x) : TI (d + 4) 151 [.inr 0, .inl x] Z (PostC Z (oCount a x)) := by
  have A1 : CFs 1 Z a.1 := A.1
  obtain ⟨e5, e6, e7, _, _⟩ := A1
  have t1 : Z 37 1 = _ := A.2.2.2.1.1
  have r1 : Z 39 3 = _ := A.2.2.2.2.1.1
  have k1 : Z 26 3 = _ := A.2.1.1
  have P : ∀ v, v = gcount a x → PostC Z (oCount a x) v Z := fun v e => ⟨e, A, fun _ _ => rfl⟩
  have S : ∀ Q : Int → zM → Prop, Q (gshows a.1) Z → TI (d + 3) 22 [.inr 1] Z Q := fun Q h => C_shows (n := a.1.1) (W := a.1.2.1) (h := a.1.2.2.1) (K := a.1.2.2.2.1) (F := a.1.2.2.2.2.1) (P := a.1.2.2.2.2.2.1) (T := a.1.2.2.2.2.2.2) zF1 A.1 wx.1.1 h
  have E : ∀ Q : Int → zM → Prop, Q (gerrs a.1) Z → TI (d + 3) 23 [.inr 1] Z Q := fun Q h => C_errs (d := d + 1) (n := a.1.1) (W := a.1.2.1) (h := a.1.2.2.1) (K := a.1.2.2.2.1) (F := a.1.2.2.2.2.1) (P := a.1.2.2.2.2.2.1) (T := a.1.2.2.2.2.2.2) zF1 A.1 wx.1.1 h
  refine w151_0 ?_
  rw [e5, e6, e7, t1, r1, k1]
  unfold gcount at P
  have W : ∀ hn : ¬ (11 ≤ x ∧ x ≤ 16), zR x ∧ (x = 0 → PostC Z (oCount a x) a.1.1 Z) ∧ (x = 1 → PostC Z (oCount a x) a.1.2.1 Z) ∧ (x = 2 → PostC Z (oCount a x) a.1.2.2.1 Z) ∧ (x = 3 → TI (d + 3) 22 [.inr 1] Z (fun r5 Z4 => PostC Z (oCount a x) r5 Z4)) ∧ (x = 4 → TI (d + 3) 23 [.inr 1] Z (fun r7 Z6 => PostC Z (oCount a x) r7 Z6)) ∧ (x = 5 → PostC Z (oCount a x) a.2.2.2.1.1 Z) ∧ (x = 6 → PostC Z (oCount a x) a.2.2.2.2.1.1 Z) ∧ (x = 7 → PostC Z (oCount a x) a.2.1.1 Z) ∧ ((x ≠ 0 ∧ x ≠ 1 ∧ x ≠ 2 ∧ x ≠ 3 ∧ x ≠ 4 ∧ x ≠ 5 ∧ x ≠ 6 ∧ x ≠ 7) → PostC Z (oCount a x) (-9) Z) := by
    intro hn
    rw [if_neg hn] at P
    refine ⟨hx, fun c => P _ (by rw [if_pos c]), fun c => P _ (by subst c; rfl), fun c => P _ (by subst c; rfl), fun c => S _ (P _ (by subst c; rfl)), fun c => E _ (P _ (by subst c; rfl)), fun c => P _ (by subst c; rfl), fun c => P _ (by subst c; rfl), fun c => P _ (by subst c; rfl), fun c => P _ ?_⟩
    rw [if_neg c.1, if_neg c.2.1, if_neg c.2.2.1, if_neg c.2.2.2.1, if_neg c.2.2.2.2.1, if_neg c.2.2.2.2.2.1, if_neg c.2.2.2.2.2.2.1, if_neg c.2.2.2.2.2.2.2]
  refine ⟨hx, fun c => W (by omega), fun c => ⟨hx, fun c2 => W (by omega), fun c2 => ⟨by omega, ?_⟩⟩⟩
  rw [A.2.2.2.2.2 (x - 10) (by omega) (by omega)]
  exact P _ (by rw [if_pos (by omega)])
theorem gOdd_b {L : Int} {t : Int → Int} (hL : L ≤ 96) : ∀ (f : Nat) (p : Int), 0 ≤ p → p ≤ 96 → gOdd L t f p = -9 ∨ (0 ≤ gOdd L t f p ∧ gOdd L t f p ≤ 100)
  | 0, p, _, _ => Or.inl rfl
  | f + 1, p, h1, h2 => by
    have hn := tn_b (c := tl L t p)
    unfold gOdd
    split
    · omega
    · next c =>
      have g := gdg_b (L := L) (t := t) (dg := tn (tl L t p)) h1 5 1 (by decide)
      split
      · omega
      · split
        · omega
        · split
          · exact gOdd_b hL f _ (by omega) (by omega)
          · exact Or.inl rfl
theorem gTown_step {L : Int} {t : Int → Int} {f : Nat} {p c : Int} {s : gS} : gTown L t (f + 1) p s c = if L ≤ p then (c, some s) else match gstmt L t p s with
    | none => (-2000 - p, none)
    | some s' => gTown L t f (p + (max 0 (tn (tl L t p)) + 2)) s' (c + 1) := rfl
theorem K_read (A : CX Z a) (wx : WX a) : ∀ (f : Nat) (p c : Int) (s : gS) (Z1 : zM), a.2.2.2.1.1 - p < f → 1 ≤ f → 0 ≤ p → p ≤ 200 → (p < a.2.2.2.1.1 → gOdd a.2.2.2.1.1 a.2.2.2.1.2 f p < 0) → CFs 13 Z1 s → WFs s → s.2.2.1 ≤ 999 → frs S13 Z Z1 → TZ (d + 6) 81 15 [some (.inr 0), some (.inl c), some (.inl p)] [] Z1 (zri (fun r Z' => match gTown a.2.2.2.1.1 a.2.2.2.1.2 f p s c with
    | (c', none) => r = c' ∧ CX Z' a ∧ ∀ q, 100 ≤ q → Z' q = Z q
    | (c', some s') => r = c' ∧ CX Z' (s', (0, a.2.1.2), a.2.2) ∧ ∀ q, 100 ≤ q → Z' q = Z q))
  | 0, p, c, s, Z1, _, h1, _, _, _, _, _, _, _ => absurd h1 (by omega)
  | f + 1, p, c, s, Z1, hf, _, hp, hp2, hodd, B, wf, hh, f1 => by
    have T : CT Z a.2.2.2.1.1 a.2.2.2.1.2 := A.2.2.2.1
    have F : ∀ q, (q < 13 ∨ 18 < q) → Z1 q = Z q := fun q hq => f1 q (by unfold S13; omega)
    have T1 : CT Z1 a.2.2.2.1.1 a.2.2.2.1.2 := CT.keep T (F 37 (by omega)) (F 38 (by omega))
    have L1 := T1.1
    have L2 := T1.2.1
    rw [gTown_step]
    refine w81_15 ?_
    rw [L1]
    refine ⟨by unfold zR; omega, by unfold zR; omega, fun c1 => ?_, fun c1 => ?_⟩
    · rw [if_pos c1]
      have wn : 0 ≤ s.1 ∧ s.1 ≤ 8 := wf.1
      have A1 : CX Z1 a := A.frame fun q hq => F q (by omega)
      refine C_become (n := s.1) (W := s.2.1) (h := s.2.2.1) (K := s.2.2.2.1) (F := s.2.2.2.2.1) (P := s.2.2.2.2.2.1) (T := s.2.2.2.2.2.2) zF1 zF13 (by decide) B wn.2 fun Z2 C f2 => C_forget ?_
      exact ⟨rfl, CXnow (s' := s) A1 f2 C, fun q hq => by funext i; rw [zup_cell _ _ _ _ (by omega), f2 q (by omega), F q (by omega)]⟩
    · rw [if_neg c1]
      obtain ⟨ok, nx⟩ := gOdd_ok hp (hodd (by omega))
      obtain ⟨ok1, ok2, ok3⟩ := ok
      have tb := tl_b T1 (p := p)
      have hn := tn_b (c := tl a.2.2.2.1.1 a.2.2.2.1.2 p)
      refine C_comesTrue T1 B wf hh ⟨hp, by omega⟩ (fun s' hs Z2 C f2 => ?_) (fun hs => ?_)
      · have T2 : CT Z2 a.2.2.2.1.1 a.2.2.2.1.2 := CT.keep T1 (f2 37 (by unfold S13; omega)) (f2 38 (by unfold S13; omega))
        refine ⟨by decide, fun _ => C_letterAt (by unfold zR; omega) T2 (C_digits (by unfold zR; omega) ⟨by unfold zR; omega, ?_⟩), fun x => absurd (show (1 : Int) ≠ 0 by decide) x⟩
        have w' := gstmt_wf wf hh (fun e => by
          refine ok2 2 (by decide) ?_
          rw [e]; decide) hs
        simp only [hs]
        have em : max 0 (tn (tl a.2.2.2.1.1 a.2.2.2.1.2 p)) = tn (tl a.2.2.2.1.1 a.2.2.2.1.2 p) := by omega
        rw [em]
        exact K_read A wx f _ (c + 1) s' Z2 (by omega) (by omega) (by omega) (by omega) nx C w'.1 w'.2 (f1.trans f2)
      · simp only [hs]
        have A1 : CX Z1 a := A.frame fun q hq => F q (by omega)
        exact ⟨by decide, fun x => absurd rfl x, fun _ => ⟨trivial, A1, fun q hq => F q (by omega)⟩⟩
theorem K_town (A : CX Z a) (wx : WX a) : TI (d + 7) 80 [.inr 0] Z (PostC Z (oTown a)) := by
  have T : CT Z a.2.2.2.1.1 a.2.2.2.1.2 := A.2.2.2.1
  have L2 := T.2.1
  have wn : 0 ≤ a.1.1 ∧ a.1.1 ≤ 8 := wx.1.1.1
  have gb : gOdd a.2.2.2.1.1 a.2.2.2.1.2 100 0 < 0 ∨ 0 ≤ gOdd a.2.2.2.1.1 a.2.2.2.1.2 100 0 := by omega
  refine w80_0 (C_oddPlace T ?_)
  have hr : zR (gOdd a.2.2.2.1.1 a.2.2.2.1.2 100 0) := by
    rcases gOdd_b (t := a.2.2.2.1.2) L2.2 100 0 (by decide) (by decide) with h | h <;> (unfold zR; omega)
  refine ⟨hr, fun c => ?_, fun c Z1 z1 => ?_⟩
  · refine w81_0 (C_become (n := a.1.1) (W := a.1.2.1) (h := a.1.2.2.1) (K := a.1.2.2.2.1) (F := a.1.2.2.2.2.1) (P := a.1.2.2.2.2.2.1) (T := a.1.2.2.2.2.2.2) zF13 zF1 (by decide) A.1 wn.2 fun Z1 C f => ?_)
    refine TZ.mono (K_read (d := d) A wx 100 0 0 a.1 Z1 (by omega) (by decide) (by decide) (by decide) (fun _ => c) C wx.1.1 wx.1.2 (fr13 f)) fun r Z' hr => ?_
    obtain ⟨x, e, hr⟩ := hr
    refine ⟨x, e, ?_⟩
    unfold oTown
    rw [if_neg (by omega)]
    intro Z7 z7
    subst z7
    cases hg : gTown a.2.2.2.1.1 a.2.2.2.1.2 100 0 a.1 0 with
    | mk c' o =>
      rw [hg] at hr
      cases o with
      | none =>
        obtain ⟨h1, h2, h3⟩ := hr
        exact ⟨h1, CX37 h2, fun q hq => by funext i; rw [zup_cell _ _ _ _ (by omega), h3 q hq]⟩
      | some s' =>
        obtain ⟨h1, h2, h3⟩ := hr
        exact ⟨h1, CX37 h2, fun q hq => by funext i; rw [zup_cell _ _ _ _ (by omega), h3 q hq]⟩
  · unfold oTown
    rw [if_pos (by omega)]
    subst z1
    exact ⟨rfl, CX37 A, fun q hq => by funext i; rw [zup_cell _ _ _ _ (by omega)]⟩
end
