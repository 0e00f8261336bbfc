/-! THE CLASS's looks, third part -/
section
variable {d : Nat} {Z Z1 : zM} {a : gX} {B : Int}
theorem bitJ (x : Int64) (M : mMem) : ∃ r : Int32, EvS d none 6 0 (ment 6 [.long x]) [] M (some (.int r), M) := ⟨_, 60, rfl⟩
theorem S_nextChords {Q : Int → zM → Prop} (A : CX Z a) (wx : WX a) (hQ : ∀ r Z', frs SQ Z Z' → Q r Z') : TI (d + 5) 119 [.inr 0] Z Q := by
  have hW : 5 ≤ a.1.2.1 ∧ a.1.2.1 ≤ 6 := wx.1.1.2.1
  show TW (d + 5) 119 0 [some (.ref 0), none, none, none] [] Z (zri Q)
  refine TW.pure (op := 17) (x := 0) (b := 0) (L' := [some (.ref 0), none, none, none]) (st' := [.long 0]) rfl rfl ?_
  refine TW.pure (op := 19) (x := 1) (b := 0) (L' := [some (.ref 0), some (.long 0), none, none]) (st' := []) rfl rfl ?_
  refine TW.pure (op := 0) (x := 0) (b := -1) (L' := [some (.ref 0), some (.long 0), none, none]) (st' := [.int (Int32.ofInt (-1))]) rfl rfl ?_
  refine TW.pure (op := 7) (x := 3) (b := 0) (L' := [some (.ref 0), some (.long 0), none, some (.int (Int32.ofInt (-1)))]) (st' := []) rfl rfl ?_
  suffices H : ∀ (f : Nat) (c : Int64) (x : Int) (Z1 : zM), a.1.2.1 - x < f → -1 ≤ x → x ≤ 6 → frs SQ Z Z1 → TW (d + 5) 119 4 [some (.ref 0), some (.long c), none, some (.int (Int32.ofInt x))] [] Z1 (zri Q) from H 8 0 (-1) Z (by omega) (by decide) (by decide) (frs.refl _ _)
  intro f
  induction f with
  | zero =>
    intro c x Z1 y1 y2 y3 f1
    have e6 : Z1 1 6 = a.1.2.1 := (now6 A f1).1
    refine TW.pure (op := 3) (x := 3) (b := 0) (L' := [some (.ref 0), some (.long c), none, some (.int (Int32.ofInt x))]) (st' := [.int (Int32.ofInt x)]) rfl rfl ?_
    refine TW.pure (op := 5) (x := 0) (b := 0) (L' := [some (.ref 0), some (.long c), none, some (.int (Int32.ofInt x))]) (st' := [.ref 0, .int (Int32.ofInt x)]) rfl rfl ?_
    refine TW.mem (op := 0) (x := 50) (b := 0) (st' := [.ref 1, .int (Int32.ofInt x)]) rfl rfl ?_
    refine TW.mem (op := 0) (x := 69) (b := 0) (st' := [.int (Int32.ofInt (Z1 1 6)), .int (Int32.ofInt x)]) rfl rfl ?_
    rw [e6]
    have hc : mcmp 3 (Int32.ofInt x) (Int32.ofInt a.1.2.1) = true := (zc_ok (a := 3) (by unfold zR; omega) (by unfold zR; omega)).mpr (show a.1.2.1 ≤ x by omega)
    refine TW.jump (op := 1) (x := 3) (b := 22) (t := 34) (st' := []) rfl (by show some (if mcmp 3 (Int32.ofInt x) (Int32.ofInt a.1.2.1) = true then 34 else 15, ([] : List Value)) = _; rw [if_pos hc]) ?_
    refine TW.pure (op := 18) (x := 1) (b := 0) (L' := [some (.ref 0), some (.long c), none, some (.int (Int32.ofInt x))]) (st' := [.long c]) rfl rfl ?_
    obtain ⟨r, hr⟩ := bitJ (d := d + 4) c (zm Z1)
    refine ⟨some (.inl r.toInt), Z1, ?_, r.toInt, rfl, hQ _ _ f1⟩
    exact EvS.call (op := 1) (a := 30) (bb := 0) (y' := 6) (As := [.long c]) (rest := []) rfl rfl hr (EvS.ret (op := 0) (a := 0) (bb := 0) rfl (by show mret 0 119 [.int r] = some _; rw [show mret 0 119 [.int r] = some (some (.int r)) from rfl]; show _ = some (some (Value.int (Int32.ofInt r.toInt))); rw [zio]))
  | succ f ih =>
    intro c x Z1 y1 y2 y3 f1
    have e6 : Z1 1 6 = a.1.2.1 := (now6 A f1).1
    refine TW.pure (op := 3) (x := 3) (b := 0) (L' := [some (.ref 0), some (.long c), none, some (.int (Int32.ofInt x))]) (st' := [.int (Int32.ofInt x)]) rfl rfl ?_
    refine TW.pure (op := 5) (x := 0) (b := 0) (L' := [some (.ref 0), some (.long c), none, some (.int (Int32.ofInt x))]) (st' := [.ref 0, .int (Int32.ofInt x)]) rfl rfl ?_
    refine TW.mem (op := 0) (x := 50) (b := 0) (st' := [.ref 1, .int (Int32.ofInt x)]) rfl rfl ?_
    refine TW.mem (op := 0) (x := 69) (b := 0) (st' := [.int (Int32.ofInt (Z1 1 6)), .int (Int32.ofInt x)]) rfl rfl ?_
    rw [e6]
    by_cases hx : a.1.2.1 ≤ x
    · have hc : mcmp 3 (Int32.ofInt x) (Int32.ofInt a.1.2.1) = true := (zc_ok (a := 3) (by unfold zR; omega) (by unfold zR; omega)).mpr hx
      refine TW.jump (op := 1) (x := 3) (b := 22) (t := 34) (st' := []) rfl (by show some (if mcmp 3 (Int32.ofInt x) (Int32.ofInt a.1.2.1) = true then 34 else 15, ([] : List Value)) = _; rw [if_pos hc]) ?_
      refine TW.pure (op := 18) (x := 1) (b := 0) (L' := [some (.ref 0), some (.long c), none, some (.int (Int32.ofInt x))]) (st' := [.long c]) rfl rfl ?_
      obtain ⟨r, hr⟩ := bitJ (d := d + 4) c (zm Z1)
      refine ⟨some (.inl r.toInt), Z1, ?_, r.toInt, rfl, hQ _ _ f1⟩
      exact EvS.call (op := 1) (a := 30) (bb := 0) (y' := 6) (As := [.long c]) (rest := []) rfl rfl hr (EvS.ret (op := 0) (a := 0) (bb := 0) rfl (by show mret 0 119 [.int r] = some _; rw [show mret 0 119 [.int r] = some (some (.int r)) from rfl]; show _ = some (some (Value.int (Int32.ofInt r.toInt))); rw [zio]))
    · have hc : ¬ mcmp 3 (Int32.ofInt x) (Int32.ofInt a.1.2.1) = true := fun y => hx ((zc_ok (a := 3) (by unfold zR; omega) (by unfold zR; omega)).mp y)
      refine TW.jump (op := 1) (x := 3) (b := 22) (t := 15) (st' := []) rfl (by show some (if mcmp 3 (Int32.ofInt x) (Int32.ofInt a.1.2.1) = true then 34 else 15, ([] : List Value)) = _; rw [if_neg hc]) ?_
      refine TW.pure (op := 18) (x := 1) (b := 0) (L' := [some (.ref 0), some (.long c), none, some (.int (Int32.ofInt x))]) (st' := [.long c]) rfl rfl ?_
      refine TW.pure (op := 17) (x := 1) (b := 0) (L' := [some (.ref 0), some (.long c), none, some (.int (Int32.ofInt x))]) (st' := [.long 1, .long c]) rfl rfl ?_
      refine TW.pure (op := 5) (x := 0) (b := 0) (L' := [some (.ref 0), some (.long c), none, some (.int (Int32.ofInt x))]) (st' := [.ref 0, .long 1, .long c]) rfl rfl ?_
      refine TW.pure (op := 3) (x := 3) (b := 0) (L' := [some (.ref 0), some (.long c), none, some (.int (Int32.ofInt x))]) (st' := [.int (Int32.ofInt x), .ref 0, .long 1, .long c]) rfl rfl ?_
      refine TW.call (op := 0) (x := 66) (b := 0) (y' := 116) (As := [.inr 0, .inl x]) (rest := [.long 1, .long c]) rfl rfl ?_
      have h1 : TR (d + 4) 116 [.inr 0, .inl x] Z1 (fun r Z2 => r = 19 ∧ MS Z Z2 a 1000) := S_fed A wx f1 (by omega) fun Z2 m _ => ⟨rfl, m⟩
      refine TZ.mono h1 fun r Z2 hr => ?_
      obtain ⟨k, ek, hk, m⟩ := hr
      subst ek; subst hk
      show TW (d + 5) 119 22 _ [.ref 19, .long 1, .long c] Z2 (zri Q)
      refine TW.call (op := 0) (x := 67) (b := 0) (y' := 24) (As := [.inr 19]) (rest := [.long 1, .long c]) rfl rfl ?_
      have h2 : TI (d + 4) 24 [.inr 19] Z2 (fun r Z3 => Z3 = Z2) := S_chord m fun _ => rfl
      refine TZ.mono h2 fun r Z3 hr => ?_
      obtain ⟨v, ev, hv⟩ := hr
      subst ev; subst hv
      show TW (d + 5) 119 25 _ [.int (Int32.ofInt v), .long 1, .long c] Z3 (zri Q)
      refine TW.pure (op := 21) (x := 0) (b := 0) (L' := [some (.ref 0), some (.long c), none, some (.int (Int32.ofInt x))]) (st' := [.long (1 <<< ((Int32.ofInt v).toInt64 &&& 63)), .long c]) rfl rfl ?_
      refine TW.pure (op := 20) (x := 0) (b := 0) (L' := [some (.ref 0), some (.long c), none, some (.int (Int32.ofInt x))]) (st' := [.long (c ||| 1 <<< ((Int32.ofInt v).toInt64 &&& 63))]) rfl rfl ?_
      refine TW.pure (op := 19) (x := 1) (b := 0) (L' := [some (.ref 0), some (.long (c ||| 1 <<< ((Int32.ofInt v).toInt64 &&& 63))), none, some (.int (Int32.ofInt x))]) (st' := []) rfl rfl ?_
      refine TW.pure (op := 11) (x := 3) (b := 1) (L' := [some (.ref 0), some (.long (c ||| 1 <<< ((Int32.ofInt v).toInt64 &&& 63))), none, some (.int (Int32.ofInt (x + 1)))]) (st' := []) rfl (by rw [Int32.ofInt_add]; rfl) ?_
      refine TW.jump (op := 2) (x := 0) (b := -27) (t := 4) (st' := []) rfl rfl ?_
      exact ih _ (x + 1) Z3 (by omega) (by omega) (by omega) m.1
theorem T_chord {x1 : Int} (A : CX Z a) (wx : WX a) (h1 : zR x1) : TI (d + 6) 118 [.inr 0, .inl x1] Z (QC Z a (gunk x1 1)) :=
  w118_0 (C_unknown h1 (by decide) ⟨zR9 gb2, fun c => ⟨h1, fun _ => S_nextChords A wx fun r Z' f => qok A c f, fun _ => C_satOn (n := a.1.1) (W := a.1.2.1) (h := a.1.2.2.1) (K := a.1.2.2.2.1) (F := a.1.2.2.2.2.1) (P := a.1.2.2.2.2.2.1) (T := a.1.2.2.2.2.2.2) zF1 A.1 wx.1.1 (qok A c (frs.refl _ _))⟩, fun c => C_refuse (by have := @gb2 x1 1; omega) (qno A c gb2)⟩)
theorem T_watch {x1 : Int} (A : CX Z a) (wx : WX a) (h1 : zR x1) : TI (d + 6) 120 [.inr 0, .inl x1] Z (QC Z a (gunk x1 2)) := by
  have hW : 5 ≤ a.1.2.1 ∧ a.1.2.1 ≤ 6 := wx.1.1.2.1
  refine w120_0 (C_unknown h1 (by decide) ⟨zR9 gb2, fun c => ?_, fun c => C_refuse (by have := @gb2 x1 2; omega) (qno A c gb2)⟩)
  refine S_fed A wx (frs.refl _ _) (by omega) fun Z2 m _ => ⟨rfl, S_errs m fun x3 r1 r2 => ?_⟩
  have z3 : zR x3 := by unfold zR; omega
  have T44 : ∀ (Z1 : zM), frs SQ Z Z1 → (∀ j, 0 ≤ j → j < 5 → zR (Z1 44 j)) → TZ (d + 6) 120 28 [some (.inr 0), some (.inl x1), some (.inl (gunk x1 2)), some (.inl x3), some (.inl 5), none, none, none] [] Z1 (zri (QC Z a (gunk x1 2))) := by
    intro Z1 f1 hz
    refine w120_28 ⟨by decide, fun _ => ⟨h1, fun _ => ?_, fun _ => ?_⟩, fun y => absurd (show (5 : Int) ≤ 5 by decide) y⟩
    · have inner : ∀ (x6 : Int) (Q : Int → zM → Prop), (∀ r, zR r → Q r Z1) → TI (d + 5) 121 [.inr 0, .inl x6, .inl x3] Z1 Q := by
        intro x6 Q hQ
        refine TZ.loc (L' := zent 121 [.inr 0, .inl (znm x6), .inl x3]) (by show [some (zv (.inr 0)), some (zv (.inl (znm x6))), _, _, _] = [some (zv (.inr 0)), some (zv (.inl x6)), _, _, _]; rw [zv_znm]) ?_
        refine w121_0 ?_
        suffices H : ∀ (f : Nat) (y x4 : Int), 5 - x4 < f → 0 ≤ x4 → x4 ≤ 5 → zR y → TZ (d + 5) 121 5 [some (.inr 0), some (.inl (znm x6)), some (.inl x3), some (.inl y), some (.inl x4)] [] Z1 (zri Q) from H 6 x3 0 (by decide) (by decide) (by decide) z3
        intro f
        induction f with
        | zero => intro y x4 y1 y2 y3 hy; exact w121_5 ⟨by unfold zR; omega, fun _ => hQ y hy, fun z => absurd (show 5 ≤ x4 by omega) z⟩
        | succ f ih =>
          intro y x4 y1 y2 y3 hy
          exact w121_5 ⟨by unfold zR; omega, fun _ => hQ y hy, fun z => ⟨by unfold zR; omega, znm_r _, fun _ => ih _ _ (by omega) (by omega) (by omega) hy, fun _ => ⟨by omega, hy, hz x4 y2 (by omega), ih _ _ (by omega) (by omega) (by omega) (by have := hz x4 y2 (by omega); unfold zR at *; omega)⟩⟩⟩
      suffices H : ∀ (f : Nat) (x4 x5 x6 : Int) (o7 : Option zV), 5 - x6 < f → 0 ≤ x6 → x6 ≤ 5 → zR x4 → TZ (d + 6) 120 78 [some (.inr 0), some (.inl x1), some (.inl (gunk x1 2)), some (.inl x3), some (.inl x4), some (.inl x5), some (.inl x6), o7] [] Z1 (zri (QC Z a (gunk x1 2))) from H 6 1000000 0 0 none (by decide) (by decide) (by decide) (by decide)
      intro f
      induction f with
      | zero => intro x4 x5 x6 o7 y1 y2 y3 hy; exact w120_78 ⟨by unfold zR; omega, fun _ => ⟨h1, fun _ => qok A c f1, fun _ => qok A c f1⟩, fun z => absurd (show 5 ≤ x6 by omega) z⟩
      | succ f ih =>
        intro x4 x5 x6 o7 y1 y2 y3 hy
        exact w120_78 ⟨by unfold zR; omega, fun _ => ⟨h1, fun _ => qok A c f1, fun _ => qok A c f1⟩, fun z => inner x6 _ fun r hr => ⟨hr, hy, fun _ => ih _ _ _ _ (by omega) (by omega) (by omega) hy, fun _ => ih _ _ _ _ (by omega) (by omega) (by omega) hr⟩⟩
    · refine w122_0 ?_
      suffices H : ∀ (f : Nat) (y x4 : Int), 5 - x4 < f → 0 ≤ x4 → x4 ≤ 5 → zR y → TZ (d + 5) 122 4 [some (.inr 0), some (.inl x3), some (.inl y), some (.inl x4)] [] Z1 (zri (QC Z a (gunk x1 2))) from H 6 0 0 (by decide) (by decide) (by decide) (by decide)
      intro f
      induction f with
      | zero => intro y x4 y1 y2 y3 hy; exact w122_4 ⟨by unfold zR; omega, fun _ => qok A c f1, fun z => absurd (show 5 ≤ x4 by omega) z⟩
      | succ f ih =>
        intro y x4 y1 y2 y3 hy
        have hz4 : x4 < 5 → zR (Z1 44 x4) := fun z => hz x4 y2 z
        exact w122_4 ⟨by unfold zR; omega, fun _ => qok A c f1, fun z => ⟨by omega, z3, hz4 (by omega), hy, by have := hz4 (by omega); unfold zR at *; omega, ih _ _ (by omega) (by omega) (by omega) (by have := hz4 (by omega); unfold zR at *; omega)⟩⟩
  suffices H : ∀ (f : Nat) (x4 : Int) (Z1 : zM), 5 - x4 < f → 0 ≤ x4 → x4 ≤ 5 → frs SQ Z Z1 → (∀ j, 0 ≤ j → j < x4 → zR (Z1 44 j)) → TZ (d + 6) 120 28 [some (.inr 0), some (.inl x1), some (.inl (gunk x1 2)), some (.inl x3), some (.inl x4), none, none, none] [] Z1 (zri (QC Z a (gunk x1 2))) from H 6 0 Z2 (by decide) (by decide) (by decide) m.1 (fun j y1 y2 => by omega)
  intro f
  induction f with
  | zero => intro x4 Z1 y1 y2 y3 f1 hz; omega
  | succ f ih =>
    intro x4 Z1 y1 y2 y3 f1 hz
    by_cases e : x4 = 5
    · subst e; exact T44 Z1 f1 hz
    · refine w120_28 ⟨by unfold zR; omega, fun z => absurd z (by omega), fun _ => S_fed A wx f1 (by omega) fun Z3 m3 k3 => ⟨rfl, S_errs m3 fun r r3 r4 => ⟨by omega, fun Z4 z4 => ih _ Z4 (by omega) (by omega) (by omega) (fun q hq => by subst z4; funext p; rw [zup_cell _ _ _ _ (SQ44 hq), m3.1 q hq]) fun j j1 j2 => ?_⟩⟩⟩
      subst z4
      by_cases e2 : j = x4
      · subst e2; rw [zup_same]; unfold zR; omega
      · rw [zup_place _ _ _ _ e2, k3 44 (by omega)]; exact hz j j1 (by omega)
theorem T_always {x1 x2 : Int} (A : CX Z a) (wx : WX a) (h1 : zR x1) (h2 : zR x2) : TI (d + 6) 123 [.inr 0, .inl x1, .inl x2] Z (QC Z a (geith (gin a.1.2.1 x1) (gunk x2 1))) := by
  have hW : 5 ≤ a.1.2.1 ∧ a.1.2.1 ≤ 6 := wx.1.1.2.1
  have g := geith_b (gb1 (W := a.1.2.1) (w := x1)) (gb2 (x := x2) (m := 1))
  refine w123_0 (C_noWire h1 A.1.2.1 (by unfold zR; omega) (C_unknown h2 (by decide) (C_either (zR9 gb1) ⟨zR9 g, fun c => ?_, fun c => C_refuse (by omega) (qno A c g)⟩)))
  have c1 := gin_0.mp (geith_0.mp c).1
  have s23 : ∀ {Z1 : zM} {B : Int}, MS Z Z1 a B → zR (Z1 23 x1) := by
    intro Z1 B m
    obtain ⟨f, s, m1, m2, _, _, m5⟩ := m
    have e : Z1 23 x1 = cnt s.2.2.2.2.2.1 x1 s.1.toNat := (m1.2.2.2.2 x1 c1.1 (by omega)).2
    have := cnt_b s.2.2.2.2.2.1 x1 s.1.toNat
    have hn : 0 ≤ s.1 ∧ s.1 ≤ 8 := m2.1
    rw [e]; unfold zR; omega
  refine S_think A wx (frs.refl _ _) fun Z' m _ => ⟨rfl, by omega, ?_⟩
  suffices H : ∀ (f : Nat) (x5 x6 x7 : Int) (Z1 : zM), 21 - x7 < f → 1 ≤ x7 → x7 ≤ 21 → zR x5 → MS Z Z1 a (999 + x7) → TZ (d + 6) 123 45 [some (.inr 0), some (.inl x1), some (.inl x2), some (.inl (geith (gin a.1.2.1 x1) (gunk x2 1))), some (.inr 19), some (.inl x5), some (.inl x6), some (.inl x7)] [] Z1 (zri (QC Z a (geith (gin a.1.2.1 x1) (gunk x2 1)))) from H 21 _ 0 1 Z' (by decide) (by decide) (by decide) (s23 m) (m.le (by decide))
  intro f
  induction f with
  | zero => intro x5 x6 x7 Z1 y1 y2 y3 y4 m1; exact w123_45 ⟨by unfold zR; omega, fun _ => ⟨h2, fun _ => qok A c m1.1, fun _ => qok A c m1.1⟩, fun z => absurd (show 20 < x7 by omega) z⟩
  | succ f ih =>
    intro x5 x6 x7 Z1 y1 y2 y3 y4 m1
    exact w123_45 ⟨by unfold zR; omega, fun _ => ⟨h2, fun _ => qok A c m1.1, fun _ => qok A c m1.1⟩, fun z => S_pass m1 (by omega) (by omega) fun r Z2 _ m2 _ => ⟨by omega, s23 m2, y4, fun _ => ih _ _ _ Z2 (by omega) (by omega) (by omega) y4 (m2.le (by omega)), fun _ => ⟨by omega, ih _ _ _ Z2 (by omega) (by omega) (by omega) (s23 m2) (m2.le (by omega))⟩⟩⟩
theorem nowT (A : CX Z a) (wx : WX a) (f : frs SQ Z Z1) {w : Int} (hw : 0 ≤ w ∧ w < 6) : (0 ≤ Z1 6 w ∧ Z1 6 w ≤ 11) ∧ 0 ≤ Z1 5 w ∧ Z1 5 w ≤ 8 := by
  have h := (CFf (k := 0) A.1 f).2.2.2.2 w hw.1 hw.2
  have h1 : Z1 6 w = a.1.2.2.2.2.2.2 w := h.1
  have h2 : Z1 5 w = cnt a.1.2.2.2.2.2.1 w a.1.1.toNat := h.2
  have b := wx.1.1.2.2.2.2 w hw.1 hw.2
  have b2 := cnt_b a.1.2.2.2.2.2.1 w a.1.1.toNat
  have hn : 0 ≤ a.1.1 ∧ a.1.1 ≤ 8 := wx.1.1.1
  rw [h1, h2]; omega
theorem S_room1 {w : Int} {Q : Int → zM → Prop} (A : CX Z a) (wx : WX a) (f : frs SQ Z Z1) (hw : zR w) (h1 : 0 ≤ w ∧ w < a.1.2.1 → Q 1 Z1) (h0 : Q 0 Z1) : TI d 17 [.inr 1, .inl w] Z1 Q :=
  C_room (n := a.1.1) (W := a.1.2.1) (h := a.1.2.2.1) (K := a.1.2.2.2.1) (F := a.1.2.2.2.2.1) (P := a.1.2.2.2.2.2.1) (T := a.1.2.2.2.2.2.2) zF1 (CFf (k := 0) A.1 f) wx.1.1 hw (fun r => h1 ⟨r.1, r.2.1⟩) (fun _ => h0)
theorem T_mixed (A : CX Z a) (wx : WX a) : TI (d + 6) 132 [.inr 0] Z (QC Z a 0) := by
  have hW : 5 ≤ a.1.2.1 ∧ a.1.2.1 ≤ 6 := wx.1.1.2.1
  have e6 : Z 1 6 = a.1.2.1 := A.1.2.1
  have nT := fun w (hw : 0 ≤ w ∧ w < 6) => nowT A wx (frs.refl SQ Z) hw
  refine w132_0 ?_
  suffices H : ∀ (f : Nat) (x1 x2 : Int) (o3 : Option zV), a.1.2.1 - x2 < f → 0 ≤ x2 → x2 ≤ 6 → TZ (d + 6) 132 4 [some (.inr 0), some (.inl x1), some (.inl x2), o3] [] Z (zri (QC Z a 0)) from H 8 0 0 none (by omega) (by decide) (by decide)
  intro f
  induction f with
  | zero => intro x1 x2 o3 y1 y2 y3; exact w132_4 ⟨by unfold zR; omega, by unfold zR; omega, fun _ => qok A rfl (frs.refl _ _), fun y => absurd (show Z 1 6 ≤ x2 by omega) y⟩
  | succ f ih =>
    intro x1 x2 o3 y1 y2 y3
    refine w132_4 ⟨by unfold zR; omega, by unfold zR; omega, fun _ => qok A rfl (frs.refl _ _), fun y => ?_⟩
    have step : ∀ (g : Nat) (x1 x3 : Int), x2 + 2 - x3 < 2 * (g : Int) → x2 - 1 ≤ x3 → x3 ≤ x2 + 3 → TZ (d + 6) 132 19 [some (.inr 0), some (.inl x1), some (.inl x2), some (.inl x3)] [] Z (zri (QC Z a 0)) := by
      intro g
      induction g with
      | zero => intro x1 x3 z1 z2 z3; exact w132_19 ⟨by unfold zR; omega, by unfold zR; omega, fun _ => ih _ _ _ (by omega) (by omega) (by omega), fun z => absurd (show x2 + 1 < x3 by omega) z⟩
      | succ g ihg =>
        intro x1 x3 z1 z2 z3
        refine w132_19 ⟨by unfold zR; omega, by unfold zR; omega, fun _ => ih _ _ _ (by omega) (by omega) (by omega), fun z => S_room1 A wx (frs.refl _ _) (by unfold zR; omega) (fun r => ⟨by decide, fun q => absurd q (by decide), fun _ => ⟨by omega, by omega, ?_, ?_, fun _ => ihg _ _ (by omega) (by omega) (by omega), fun _ => ⟨by omega, ihg _ _ (by omega) (by omega) (by omega)⟩⟩⟩) ⟨by decide, fun _ => ihg _ _ (by omega) (by omega) (by omega), fun q => absurd rfl q⟩⟩
        · have := nT x3 (by omega); unfold zR; omega
        · have := nT x2 (by omega); unfold zR; omega
    exact step 3 x1 (x2 - 1) (by omega) (by omega) (by omega)
theorem S_without {b : Int} {Q : Int → zM → Prop} (A : CX Z a) (wx : WX a) (hb : 0 ≤ b ∧ b < a.1.1) (hQ : ∀ r, 0 ≤ r → r ≤ 6 → Q r Z) : TI (d + 2) 140 [.inr 0, .inl b] Z Q := by
  have hW : 5 ≤ a.1.2.1 ∧ a.1.2.1 ≤ 6 := wx.1.1.2.1
  have hn : 0 ≤ a.1.1 ∧ a.1.1 ≤ 8 := wx.1.1.1
  have e3 : Z 4 b = a.1.2.2.2.2.2.1 b := (A.1.2.2.2.1 b hb.1 hb.2).2.2
  have p := (wx.1.1.2.2.2.1 b hb.1 hb.2).2.2
  have e7 : Z 1 7 = a.1.2.2.1 := A.1.2.2.1
  have hh : 0 ≤ a.1.2.2.1 ∧ a.1.2.2.1 ≤ 1000000 := wx.1.1.2.2.1
  have nT := nowT A wx (frs.refl SQ Z) (w := a.1.2.2.2.2.2.1 b) (by omega)
  refine w140_0 (S_shows1 A wx (frs.refl _ _) fun r r1 r2 => ?_)
  rw [e3, e7]
  exact ⟨by omega, by omega, C_apart (by unfold zR; omega) (hQ _ gapart_b.1 gapart_b.2)⟩
theorem T_worstBird (A : CX Z a) (wx : WX a) : TI (d + 6) 141 [.inr 0] Z (QC Z a 0) := by
  have hn : 0 ≤ a.1.1 ∧ a.1.1 ≤ 8 := wx.1.1.1
  have e5 : Z 1 5 = a.1.1 := A.1.1
  refine w141_0 (S_errs1 A wx (frs.refl _ _) fun r r1 r2 => ?_)
  suffices H : ∀ (f : Nat) (x1 x2 x3 : Int) (o4 : Option zV), a.1.1 - x3 < f → 0 ≤ x3 → x3 ≤ 8 → zR x1 → TZ (d + 6) 141 13 [some (.inr 0), some (.inl x1), some (.inl x2), some (.inl x3), o4] [] Z (zri (QC Z a 0)) from H 9 r (-9) 0 none (by omega) (by decide) (by decide) (by unfold zR; omega)
  intro f
  induction f with
  | zero => intro x1 x2 x3 o4 y1 y2 y3 y4; exact w141_13 ⟨by unfold zR; omega, by unfold zR; omega, fun _ => qok A rfl (frs.refl _ _), fun y => absurd (show Z 1 5 ≤ x3 by omega) y⟩
  | succ f ih =>
    intro x1 x2 x3 o4 y1 y2 y3 y4
    exact w141_13 ⟨by unfold zR; omega, by unfold zR; omega, fun _ => qok A rfl (frs.refl _ _), fun y => S_without A wx (by omega) fun r r1 r2 => ⟨by unfold zR; omega, y4, fun _ => ih _ _ _ _ (by omega) (by omega) (by omega) y4, fun _ => ih _ _ _ _ (by omega) (by omega) (by omega) (by unfold zR; omega)⟩⟩
theorem T_bestWire {x1 x2 : Int} (A : CX Z a) (wx : WX a) (h1 : zR x1) (h2 : zR x2) : TI (d + 6) 139 [.inr 0, .inl x1, .inl x2] Z (QC Z a (geith (gin a.1.1 x1) (gunk x2 1))) := by
  have hW : 5 ≤ a.1.2.1 ∧ a.1.2.1 ≤ 6 := wx.1.1.2.1
  have hn : 0 ≤ a.1.1 ∧ a.1.1 ≤ 8 := wx.1.1.1
  have e6 : Z 1 6 = a.1.2.1 := A.1.2.1
  have e7 : Z 1 7 = a.1.2.2.1 := A.1.2.2.1
  have hh : 0 ≤ a.1.2.2.1 ∧ a.1.2.2.1 ≤ 1000000 := wx.1.1.2.2.1
  have nT := fun w (hw : 0 ≤ w ∧ w < 6) => nowT A wx (frs.refl SQ Z) hw
  have g := geith_b (gb1 (W := a.1.1) (w := x1)) (gb2 (x := x2) (m := 1))
  refine w139_0 (C_noBird h1 A.1.1 (by unfold zR; omega) (C_unknown h2 (by decide) (C_either (zR9 gb1) ⟨zR9 g, fun c => ?_, fun c => C_refuse (by omega) (qno A c g)⟩)))
  have c1 := gin_0.mp (geith_0.mp c).1
  have e3 : Z 4 x1 = a.1.2.2.2.2.2.1 x1 := (A.1.2.2.2.1 x1 c1.1 c1.2).2.2
  have p := (wx.1.1.2.2.2.1 x1 c1.1 c1.2).2.2
  rw [e3]
  refine ⟨h2, fun _ => ⟨by omega, ?_⟩, fun _ => S_without A wx c1 fun r _ _ => qok A c (frs.refl _ _)⟩
  suffices H : ∀ (f : Nat) (x5 x6 x7 : Int) (o8 : Option zV), a.1.2.1 - x7 < f → 0 ≤ x7 → x7 ≤ 6 → zR x5 → TZ (d + 6) 139 58 [some (.inr 0), some (.inl x1), some (.inl x2), some (.inl (geith (gin a.1.1 x1) (gunk x2 1))), some (.inl (a.1.2.2.2.2.2.1 x1)), some (.inl x5), some (.inl x6), some (.inl x7), o8] [] Z (zri (QC Z a (geith (gin a.1.1 x1) (gunk x2 1)))) from H 8 1000000 _ 0 none (by omega) (by decide) (by decide) (by decide)
  intro f
  induction f with
  | zero => intro x5 x6 x7 o8 y1 y2 y3 y4; exact w139_58 ⟨by unfold zR; omega, by unfold zR; omega, fun _ => qok A c (frs.refl _ _), fun y => absurd (show Z 1 6 ≤ x7 by omega) y⟩
  | succ f ih =>
    intro x5 x6 x7 o8 y1 y2 y3 y4
    have t1 := nT (a.1.2.2.2.2.2.1 x1) (by omega)
    refine w139_58 ⟨by unfold zR; omega, by unfold zR; omega, fun _ => qok A c (frs.refl _ _), fun y => ⟨by unfold zR; omega, by unfold zR; omega, fun _ => S_shows1 A wx (frs.refl _ _) fun r r1 r2 => ⟨by omega, by omega, ?_⟩, fun _ => S_room1 A wx (frs.refl _ _) (by unfold zR; omega) (fun q => ⟨by decide, fun q => absurd q (by decide), fun _ => S_shows1 A wx (frs.refl _ _) fun r r1 r2 => ⟨by omega, by omega, ?_⟩⟩) ⟨by decide, fun _ => ih _ _ _ _ (by omega) (by omega) (by omega) y4, fun q => absurd rfl q⟩⟩⟩
    · have t2 := nT x7 (by omega)
      rw [e7]
      exact C_apart (by unfold zR; omega) ⟨by have := @gapart_b (r - Z 6 (a.1.2.2.2.2.2.1 x1) + Z 6 x7) a.1.2.2.1; unfold zR; omega, y4, fun _ => ih _ _ _ _ (by omega) (by omega) (by omega) y4, fun _ => ih _ _ _ _ (by omega) (by omega) (by omega) (by have := @gapart_b (r - Z 6 (a.1.2.2.2.2.2.1 x1) + Z 6 x7) a.1.2.2.1; unfold zR; omega)⟩
    · have t2 := nT x7 (by omega)
      rw [e7]
      exact C_apart (by unfold zR; omega) ⟨by have := @gapart_b (r - Z 6 (a.1.2.2.2.2.2.1 x1) + Z 6 x7) a.1.2.2.1; unfold zR; omega, y4, fun _ => ih _ _ _ _ (by omega) (by omega) (by omega) y4, fun _ => ih _ _ _ _ (by omega) (by omega) (by omega) (by have := @gapart_b (r - Z 6 (a.1.2.2.2.2.2.1 x1) + Z 6 x7) a.1.2.2.1; unfold zR; omega)⟩
theorem T_judge (A : CX Z a) (wx : WX a) : TI (d + 6) 146 [.inr 0] Z (fun r Z' => ∃ v, PostC Z (v, (a.1, a.2.1, a.2.2.1, a.2.2.2.1, (0, a.2.2.2.2.1.2), a.2.2.2.2.2)) r Z') := by
  refine w146_0 (S_think A wx (frs.refl _ _) fun Z' m _ => ⟨rfl, S_unlike A wx m fun r Z2 _ m2 Z3 z3 => ⟨r, rfl, ?_, fun q hq => ?_⟩⟩)
  · subst z3
    exact CX39 (A.frame fun q hq => m2.1 q (by unfold SQ; omega))
  · subst z3; funext p; rw [zup_cell _ _ _ _ (by omega), m2.1 q (by unfold SQ; omega)]
end
