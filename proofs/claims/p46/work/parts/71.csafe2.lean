/-! THE CLASS's looks, second part -/
section
variable {d : Nat} {Z Z1 : zM} {a : gX} {B : Int}
theorem S_fed {fl : Int} {Q : Nat → zM → Prop} (A : CX Z a) (wx : WX a) (f : frs SQ Z Z1) (hf : -1 ≤ fl ∧ fl < a.1.2.1) (hQ : ∀ Z', MS Z Z' a 1000 → (∀ q, (q < 19 ∨ 24 < q) → Z' q = Z1 q) → Q 19 Z') : TR (d + 4) 116 [.inr 0, .inl fl] Z1 Q :=
  w116_0 (S_think A wx f fun Z' m e => ⟨rfl, S_pass m hf (by decide) fun r Z2 _ m2 e2 => hQ Z2 m2 fun q hq => by rw [e2 q hq, e q hq]⟩)
theorem rowR (A : CX Z a) (f : frs SQ Z Z1) : Z1 39 3 = a.2.2.2.2.1.1 ∧ (0 ≤ a.2.2.2.2.1.1 ∧ a.2.2.2.2.1.1 ≤ 12) ∧ ∀ j, 0 ≤ j → j < a.2.2.2.2.1.1 → zR (Z1 40 j) := by
  obtain ⟨b1, b2, b3⟩ := A.2.2.2.2.1
  rw [f 39 (by unfold SQ; omega), f 40 (by unfold SQ; omega)]
  exact ⟨b1, b2, fun j h1 h2 => by rw [(b3 j h1 h2).1]; have := (b3 j h1 h2).2; unfold zR; omega⟩
theorem S_unlike {Q : Int → zM → Prop} (A : CX Z a) (wx : WX a) (m : MS Z Z1 a 999) (hQ : ∀ r Z', zR r → MS Z Z' a 1100 → Q r Z') : TI (d + 4) 111 [.inr 0, .inr 19] Z1 Q := by
  have hW : 5 ≤ a.1.2.1 ∧ a.1.2.1 ≤ 6 := wx.1.1.2.1
  obtain ⟨_, rb, _⟩ := rowR A (frs.refl SQ Z)
  refine w111_0 zF19 ?_
  refine upto (n := a.2.2.2.2.1.1) (by omega) (P := fun i Z1 => TZ (d + 4) 111 2 [some (.inr 0), some (.inr 19), some (.inl i)] [] Z1 (zri Q)) (fun Z1 m1 => ?_) (fun i Z1 i1 i2 m1 ih => ?_) Z1 m
  · obtain ⟨r1, r2, r3⟩ := rowR A m1.1
    refine w111_2 zF19 ?_
    rw [r1]
    exact ⟨by unfold zR; omega, by unfold zR; omega, fun _ => hQ _ Z1 (by decide) (m1.le (by omega)), fun x => absurd (Int.le_refl _) x⟩
  · obtain ⟨r1, r2, r3⟩ := rowR A m1.1
    refine w111_2 zF19 ?_
    rw [r1]
    exact ⟨by unfold zR; omega, by unfold zR; omega, fun x => absurd x (by omega), fun _ => S_shows m1 fun r _ _ => ⟨by omega, by unfold zR; omega, r3 i i1 i2, fun _ => S_pass m1 (by omega) (by omega) fun r2 Z2 _ m2 _ => ih Z2 m2, fun _ => hQ _ Z1 (by unfold zR; omega) (m1.le (by omega))⟩⟩
theorem T_happened (A : CX Z a) (wx : WX a) : TI (d + 5) 110 [.inr 0] Z (QC Z a 0) := by
  refine w110_0 ?_
  suffices H : ∀ (f : Nat) (x1 x2 : Int) (o3 : Option zV) (Z1 : zM), 8 - x2 < f → 0 ≤ x2 → x2 ≤ 8 → frs SQ Z Z1 → TZ (d + 5) 110 4 [some (.inr 0), some (.inl x1), some (.inl x2), o3] [] Z1 (zri (QC Z a 0)) from H 9 0 0 none Z (by decide) (by decide) (by decide) (frs.refl _ _)
  intro f
  induction f with
  | zero => intro x1 x2 o3 Z1 h1 h2 h3 f1; exact w110_4 ⟨by unfold zR; omega, fun _ => qok A rfl f1, fun y => absurd (show 8 ≤ x2 by omega) y⟩
  | succ f ih =>
    intro x1 x2 o3 Z1 h1 h2 h3 f1
    exact w110_4 ⟨by unfold zR; omega, fun _ => qok A rfl f1, fun y => S_think A wx f1 fun Z2 m _ => ⟨rfl, S_und m (by omega) fun Z3 m3 _ => S_unlike A wx m3 fun r Z4 hr m4 => ⟨hr, fun _ => ih _ _ _ Z4 (by omega) (by omega) (by omega) m4.1, fun _ => ih _ _ _ Z4 (by omega) (by omega) (by omega) m4.1⟩⟩⟩
theorem S_fill44 {Q : zM → Prop} (hQ : ∀ Z', (∀ q, q ≠ 44 → Z' q = Z1 q) → Q Z') : TV d 1 [.inr 44, .inl 0] Z1 Q := by
  refine w1_0_44 ?_
  suffices H : ∀ (f : Nat) (x : Int) (Z2 : zM), 12 - x < f → 0 ≤ x → x ≤ 12 → (∀ q, q ≠ 44 → Z2 q = Z1 q) → TZ d 1 5 [some (.inr 44), some (.inl 0), some (.inl x), some (.inl 12)] [] Z2 (zrv Q) from H 13 0 Z1 (by decide) (by decide) (by decide) (fun _ _ => rfl)
  intro f
  induction f with
  | zero => intro x Z2 h1 h2 h3 f1; exact w1_5_44 ⟨by unfold zR; omega, by decide, fun _ => hQ Z2 f1, fun y => absurd (show 12 ≤ x by omega) y⟩
  | succ f ih =>
    intro x Z2 h1 h2 h3 f1
    exact w1_5_44 ⟨by unfold zR; omega, by decide, fun _ => hQ Z2 f1, fun y => ⟨by omega, fun Z3 z3 => ih _ Z3 (by omega) (by omega) (by omega) fun q hq => by subst z3; funext p; rw [zup_cell _ _ _ _ hq, f1 q hq]⟩⟩
theorem S_fill45 {Q : zM → Prop} (hQ : ∀ Z', (∀ q, q ≠ 45 → Z' q = Z1 q) → Q Z') : TV d 1 [.inr 45, .inl 0] Z1 Q := by
  refine w1_0_45 ?_
  suffices H : ∀ (f : Nat) (x : Int) (Z2 : zM), 72 - x < f → 0 ≤ x → x ≤ 72 → (∀ q, q ≠ 45 → Z2 q = Z1 q) → TZ d 1 5 [some (.inr 45), some (.inl 0), some (.inl x), some (.inl 72)] [] Z2 (zrv Q) from H 73 0 Z1 (by decide) (by decide) (by decide) (fun _ _ => rfl)
  intro f
  induction f with
  | zero => intro x Z2 h1 h2 h3 f1; exact w1_5_45 ⟨by unfold zR; omega, by decide, fun _ => hQ Z2 f1, fun y => absurd (show 72 ≤ x by omega) y⟩
  | succ f ih =>
    intro x Z2 h1 h2 h3 f1
    exact w1_5_45 ⟨by unfold zR; omega, by decide, fun _ => hQ Z2 f1, fun y => ⟨by omega, fun Z3 z3 => ih _ Z3 (by omega) (by omega) (by omega) fun q hq => by subst z3; funext p; rw [zup_cell _ _ _ _ hq, f1 q hq]⟩⟩
theorem S_bits {x : Int} {Q : Int → zM → Prop} (hQ : ∀ r, zR r → Q r Z1) : TI d 0 [.inl x] Z1 Q := w0_0 (hQ _ (zbit_r _ _ _))
theorem SQ44 {q : Nat} (h : ¬ SQ q) : q ≠ 44 := fun e => h (by subst e; unfold SQ; omega)
theorem SQ45 {q : Nat} (h : ¬ SQ q) : q ≠ 45 := fun e => h (by subst e; unfold SQ; omega)
theorem S_note {x1 : Int} {Q : zM → Prop} (A : CX Z a) (wx : WX a) (f : frs SQ Z Z1) (h1 : 0 ≤ x1 ∧ x1 ≤ 7) (hQ : ∀ Z', frs SQ Z Z' → Q Z') : TV (d + 4) 113 [.inr 0, .inl x1] Z1 Q := by
  have hW : 5 ≤ a.1.2.1 ∧ a.1.2.1 ≤ 6 := wx.1.1.2.1
  refine w113_0 (S_think A wx f fun Z2 m _ => ⟨rfl, S_und m h1 fun Z3 m3 _ => ?_⟩)
  refine upto (n := 9) (by decide) (P := fun i Z1 => TZ (d + 4) 113 12 [some (.inr 0), some (.inl x1), some (.inr 19), some (.inl i)] [] Z1 (zrv Q)) (fun Z1 m1 => ?_) (fun i Z1 i1 i2 m1 ih => ?_) Z3 m3
  · exact w113_12 ⟨by decide, fun _ => hQ Z1 m1.1, fun y => absurd (show (8 : Int) < 9 by decide) y⟩
  · exact w113_12 ⟨by unfold zR; omega, fun y => absurd y (by omega), fun _ => ⟨by omega, S_shows m1 fun r _ _ => ⟨by omega, fun Z2 z2 => S_pass (m1.scr fun q hq => by subst z2; funext p; exact zup_cell _ _ _ _ (by rcases hq with h | h; omega; exact SQ44 h)) (by omega) (by omega) fun r2 Z4 _ m4 _ => ih Z4 m4⟩⟩⟩
theorem T_tells {x1 : Int} (A : CX Z a) (wx : WX a) (h1 : zR x1) : TI (d + 5) 112 [.inr 0, .inl x1] Z (QC Z a (gunk x1 1)) := by
  refine w112_0 (C_unknown h1 (by decide) ⟨zR9 gb2, fun c => ?_, fun c => C_refuse (by have := @gb2 x1 1; omega) (qno A c gb2)⟩)
  refine S_fill44 fun Z2 f2 => ?_
  have g2 : frs SQ Z Z2 := fun q hq => f2 q (SQ44 hq)
  have tail : ∀ (f : Nat) (x3 x4 x5 : Int) (o6 : Option zV) (Z1 : zM), 9 - x5 < f → 0 ≤ x5 → x5 ≤ 9 → zR x3 → frs SQ Z Z1 → TZ (d + 5) 112 54 [some (.inr 0), some (.inl x1), some (.inl (gunk x1 1)), some (.inl x3), some (.inl x4), some (.inl x5), o6] [] Z1 (zri (QC Z a (gunk x1 1))) := by
    intro f
    induction f with
    | zero => intro x3 x4 x5 o6 Z1 y1 y2 y3 y4 f1; exact w112_54 ⟨by unfold zR; omega, fun _ => ⟨h1, fun _ => qok A c f1, fun _ => qok A c f1⟩, fun y => absurd (show 8 < x5 by omega) y⟩
    | succ f ih =>
      intro x3 x4 x5 o6 Z1 y1 y2 y3 y4 f1
      exact w112_54 ⟨by unfold zR; omega, fun _ => ⟨h1, fun _ => qok A c f1, fun _ => qok A c f1⟩, fun y => ⟨by omega, S_bits fun r hr => ⟨hr, y4, fun _ => ih _ _ _ _ Z1 (by omega) (by omega) (by omega) y4 f1, fun _ => ih _ _ _ _ Z1 (by omega) (by omega) (by omega) hr f1⟩⟩⟩
  suffices H : ∀ (f : Nat) (x5 : Int) (Z1 : zM), 8 - x5 < f → 0 ≤ x5 → x5 ≤ 8 → frs SQ Z Z1 → TZ (d + 5) 112 32 [some (.inr 0), some (.inl x1), some (.inl (gunk x1 1)), some (.inl 0), some (.inl 0), some (.inl x5), none] [] Z1 (zri (QC Z a (gunk x1 1))) from H 9 0 Z2 (by decide) (by decide) (by decide) g2
  intro f
  induction f with
  | zero => intro x5 Z1 y1 y2 y3 f1; exact w112_32 ⟨by unfold zR; omega, fun _ => tail 10 0 0 0 none Z1 (by decide) (by decide) (by decide) (by decide) f1, fun y => absurd (show 8 ≤ x5 by omega) y⟩
  | succ f ih =>
    intro x5 Z1 y1 y2 y3 f1
    exact w112_32 ⟨by unfold zR; omega, fun _ => tail 10 0 0 0 none Z1 (by decide) (by decide) (by decide) (by decide) f1, fun y => S_note A wx f1 (by omega) fun Z3 f3 => ih _ Z3 (by omega) (by omega) (by omega) f3⟩
theorem now6 (A : CX Z a) (f : frs SQ Z Z1) : Z1 1 6 = a.1.2.1 ∧ Z1 1 5 = a.1.1 ∧ Z1 1 7 = a.1.2.2.1 := by
  have := CFf (k := 0) A.1 f
  exact ⟨this.2.1, this.1, this.2.2.1⟩
theorem T_catWorth (A : CX Z a) (wx : WX a) : TI (d + 5) 114 [.inr 0] Z (QC Z a 0) := by
  have hW : 5 ≤ a.1.2.1 ∧ a.1.2.1 ≤ 6 := wx.1.1.2.1
  refine w114_0 (S_errs1 A wx (frs.refl _ _) fun r r1 r2 => ?_)
  suffices H : ∀ (f : Nat) (x1 x2 x3 : Int) (o4 : Option zV) (Z1 : zM), a.1.2.1 - x3 < f → 0 ≤ x3 → x3 ≤ 6 → zR x1 → frs SQ Z Z1 → TZ (d + 5) 114 13 [some (.inr 0), some (.inl x1), some (.inl x2), some (.inl x3), o4] [] Z1 (zri (QC Z a 0)) from H 7 r (-9) 0 none Z (by omega) (by decide) (by decide) (by unfold zR; omega) (frs.refl _ _)
  intro f
  induction f with
  | zero =>
    intro x1 x2 x3 o4 Z1 y1 y2 y3 y4 f1
    have e6 := (now6 A f1).1
    exact w114_13 ⟨by unfold zR; omega, by unfold zR; omega, fun _ => qok A rfl f1, fun y => absurd (show Z1 1 6 ≤ x3 by omega) y⟩
  | succ f ih =>
    intro x1 x2 x3 o4 Z1 y1 y2 y3 y4 f1
    have e6 := (now6 A f1).1
    exact w114_13 ⟨by unfold zR; omega, by unfold zR; omega, fun _ => qok A rfl f1, fun y => S_think A wx f1 fun Z2 m _ => ⟨rfl, S_scare m (by omega) fun r Z3 m3 => S_errs m3 fun r2 r3 r4 => ⟨by unfold zR; omega, y4, fun _ => ih _ _ _ _ Z3 (by omega) (by omega) (by omega) y4 m3.1, fun _ => S_errs m3 fun r5 r6 r7 => ih _ _ _ _ Z3 (by omega) (by omega) (by omega) (by unfold zR; omega) m3.1⟩⟩⟩
theorem T_lots {x1 x2 x3 : Int} (A : CX Z a) (wx : WX a) (h1 : zR x1) (h3 : zR x3) : TI (d + 5) 115 [.inr 0, .inl x1, .inl x2, .inl x3] Z (QC Z a (geith (gout x1 1 20) (gunk x3 1))) := by
  have hW : 5 ≤ a.1.2.1 ∧ a.1.2.1 ≤ 6 := wx.1.1.2.1
  refine w115_0 (C_outside h1 (by decide) (by decide) (C_unknown h3 (by decide) (C_either (zR9 gb3) ⟨zR9 cb1, fun c => ?_, fun c => C_refuse (by have := @cb1 x1 x3 1 20 1; omega) (qno A c cb1)⟩)))
  have c1 := gout_0.mp (geith_0.mp c).1
  refine S_think A wx (frs.refl _ _) fun Z' m _ => ⟨rfl, ?_⟩
  refine upto (n := 20 * x1) (by omega) (P := fun i Z1 => ∀ x6 x7 x8, TZ (d + 5) 115 47 [some (.inr 0), some (.inl x1), some (.inl x2), some (.inl x3), some (.inl (geith (gout x1 1 20) (gunk x3 1))), some (.inr 19), some (.inl x6), some (.inl x7), some (.inl x8), some (.inl i)] [] Z1 (zri (QC Z a (geith (gout x1 1 20) (gunk x3 1))))) (fun Z1 m1 x6 x7 x8 => ?_) (fun i Z1 i1 i2 m1 ih x6 x7 x8 => ?_) Z' m _ _ _
  · exact w115_47 ⟨by unfold zR; omega, by unfold zR; omega, fun _ => ⟨h3, fun _ => qok A c m1.1, fun _ => qok A c m1.1⟩, fun x => absurd (Int.le_refl _) x⟩
  · have hz := zbit_r 3 ((x6 * 1103515245) + 12345) 2147483647
    have nn : 0 ≤ zbit 3 ((x6 * 1103515245) + 12345) 2147483647 := by
      have e : zbit 3 ((x6 * 1103515245) + 12345) 2147483647 = (Int32.ofInt ((x6 * 1103515245) + 12345) &&& Int32.ofInt 2147483647).toInt := rfl
      rw [e]
      exact (aand_nn (show 0 ≤ (Int32.ofInt 2147483647).toInt by decide)).1
    have t1 : (zbit 3 ((x6 * 1103515245) + 12345) 2147483647).tdiv 65536 = zbit 3 ((x6 * 1103515245) + 12345) 2147483647 / 65536 := Int.tdiv_eq_ediv_of_nonneg nn
    have t2 : (Int.tdiv (zbit 3 ((x6 * 1103515245) + 12345) 2147483647) 65536).tmod 8 = (Int.tdiv (zbit 3 ((x6 * 1103515245) + 12345) 2147483647) 65536) % 8 := Int.tmod_eq_emod_of_nonneg (by rw [t1]; omega)
    refine w115_47 ⟨by unfold zR; omega, by unfold zR; omega, fun x => absurd x (by omega), fun _ => ⟨hz, by rw [t1]; unfold zR; omega, ?_⟩⟩
    refine S_und m1 (by rw [t2]; omega) fun Z2 m2 _ => S_pass m2 (by omega) (by omega) fun r Z3 _ m3 _ => S_errs m3 fun r2 _ _ => S_errs m3 fun r4 r5 r6 => ⟨by unfold zR; omega, fun _ => ih Z3 m3 _ _ _, fun _ => ih Z3 m3 _ _ _⟩
theorem T_closest {x1 : Int} (A : CX Z a) (wx : WX a) (h1 : zR x1) : TI (d + 5) 117 [.inr 0, .inl x1] Z (QC Z a (gunk x1 1)) := by
  have hW : 5 ≤ a.1.2.1 ∧ a.1.2.1 ≤ 6 := wx.1.1.2.1
  refine w117_0 (C_unknown h1 (by decide) ⟨zR9 gb2, fun c => ?_, fun c => C_refuse (by have := @gb2 x1 1; omega) (qno A c gb2)⟩)
  suffices H : ∀ (f : Nat) (x3 x4 x5 : Int) (o6 : Option zV) (Z1 : zM), a.1.2.1 - x5 < f → -1 ≤ x5 → x5 ≤ 6 → zR x3 → frs SQ Z Z1 → TZ (d + 5) 117 26 [some (.inr 0), some (.inl x1), some (.inl (gunk x1 1)), some (.inl x3), some (.inl x4), some (.inl x5), o6] [] Z1 (zri (QC Z a (gunk x1 1))) from H 8 1000000 0 (-1) none Z (by omega) (by decide) (by decide) (by decide) (frs.refl _ _)
  intro f
  induction f with
  | zero =>
    intro x3 x4 x5 o6 Z1 y1 y2 y3 y4 f1
    have e6 := (now6 A f1).1
    exact w117_26 ⟨by unfold zR; omega, by unfold zR; omega, fun _ => ⟨h1, fun _ => qok A c f1, fun _ => qok A c f1⟩, fun y => absurd (show Z1 1 6 ≤ x5 by omega) y⟩
  | succ f ih =>
    intro x3 x4 x5 o6 Z1 y1 y2 y3 y4 f1
    have e6 := (now6 A f1).1
    exact w117_26 ⟨by unfold zR; omega, by unfold zR; omega, fun _ => ⟨h1, fun _ => qok A c f1, fun _ => qok A c f1⟩, fun y => S_fed A wx f1 (by omega) fun Z2 m _ => ⟨rfl, S_errs m fun r r1 r2 => ⟨by unfold zR; omega, y4, fun _ => ih _ _ _ _ Z2 (by omega) (by omega) (by omega) y4 m.1, fun _ => ih _ _ _ _ Z2 (by omega) (by omega) (by omega) (by unfold zR; omega) m.1⟩⟩⟩
/-! longs: the machine's own locals and stack -/
def TW (d y pc : Nat) (L : List (Option Value)) (st : List Value) (Z : zM) (R : Option zV → zM → Prop) : Prop := ∃ r Z', EvS d none y pc L st (zm Z) (r.map zv, zm Z') ∧ R r Z'
theorem TW.pure {y pc op x : Nat} {b : Int} {L L' : List (Option Value)} {st st' : List Value} {R : Option zV → zM → Prop} (hI : mI y pc = some (0, op, x, b)) (hp : mpure op x b L st = some (L', st')) (h : TW d y (pc + mlen 0 op b) L' st' Z R) : TW d y pc L st Z R := by
  obtain ⟨r, Z', h1, h2⟩ := h
  exact ⟨r, Z', EvS.pure hI hp h1, h2⟩
theorem TW.jump {y pc op x t : Nat} {b : Int} {L : List (Option Value)} {st st' : List Value} {R : Option zV → zM → Prop} (hI : mI y pc = some (1, op, x, b)) (hp : mjump op x b pc st = some (t, st')) (h : TW d y t L st' Z R) : TW d y pc L st Z R := by
  obtain ⟨r, Z', h1, h2⟩ := h
  exact ⟨r, Z', EvS.jump hI hp h1, h2⟩
theorem TW.mem {y pc op x : Nat} {b : Int} {L : List (Option Value)} {st st' : List Value} {R : Option zV → zM → Prop} (hI : mI y pc = some (2, op, x, b)) (hp : mmemS op x none st (zm Z) = some (st', zm Z)) (h : TW d y (pc + mlen 2 op b) L st' Z R) : TW d y pc L st Z R := by
  obtain ⟨r, Z', h1, h2⟩ := h
  exact ⟨r, Z', EvS.mem hI hp h1, h2⟩
theorem TW.call {y pc op x y' : Nat} {b : Int} {L : List (Option Value)} {st rest : List Value} {As : List zV} {R : Option zV → zM → Prop} (hI : mI y pc = some (4, op, x, b)) (hp : mcallS op x st = some (y', zS As, rest)) (h : TZ d y' 0 (zent y' As) [] Z (fun r Z1 => TW (d + 1) y (pc + 3) L ((r.map zv).toList ++ rest) Z1 R)) : TW (d + 1) y pc L st Z R := by
  obtain ⟨r, Z1, h1, r2, Z2, h2, h3⟩ := h
  exact ⟨r2, Z2, EvS.call hI hp (by rw [← zent_ok]; exact h1) h2, h3⟩
end
