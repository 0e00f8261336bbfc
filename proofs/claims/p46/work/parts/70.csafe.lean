/-! THE CLASS's looks: they end, refuse as they must, and leave the state as it was -/
def znm (x : Int) : Int := (Int32.ofInt x).toInt
theorem znm_r (x : Int) : zR (znm x) := zrg _
theorem znm_e {x : Int} (h : zR x) : znm x = x := zoi h
theorem znm_i (x : Int) : Int32.ofInt (znm x) = Int32.ofInt x := zio _
/-- scratch cells with ints as the machine has them -/
def nq (S : Nat → Bool) (Z : zM) : zM := fun q p => if S q = true then znm (Z q p) else Z q p
theorem zm_nq (S : Nat → Bool) (Z : zM) : zm (nq S Z) = zm Z := by
  funext q p
  unfold zm nq
  split
  · exact znm_i _
  · rfl
theorem TZ.nq {d y pc : Nat} {L : List (Option zV)} {st : List zV} {Z : zM} {R : Option zV → zM → Prop} (S : Nat → Bool) (h : TZ d y pc L st (nq S Z) R) : TZ d y pc L st Z R := by
  obtain ⟨r, Z', h1, h2⟩ := h
  rw [zm_nq] at h1
  exact ⟨r, Z', h1, h2⟩
theorem TZ.loc {d y pc : Nat} {L L' : List (Option zV)} {st : List zV} {Z : zM} {R : Option zV → zM → Prop} (e : zL L' = zL L) (h : TZ d y pc L' st Z R) : TZ d y pc L st Z R := by
  obtain ⟨r, Z', h1, h2⟩ := h
  rw [e] at h1
  exact ⟨r, Z', h1, h2⟩
theorem zv_znm (x : Int) : zv (.inl (znm x)) = zv (.inl x) := congrArg Value.int (znm_i x)
def QC (Z : zM) (a : gX) (c r : Int) (Z' : zM) : Prop := ∃ v, PostC Z (oq a c v) r Z'
theorem qok {Z Z' : zM} {a : gX} {c r : Int} (A : CX Z a) (hc : c = 0) (f : frs SQ Z Z') : QC Z a c r Z' := ⟨r, PQ A hc f⟩
theorem qno {Z : zM} {a : gX} {c : Int} (A : CX Z a) (hc : ¬ c = 0) (hb : -6 ≤ c ∧ c ≤ 0) : QC Z a c c (zbp Z c) := ⟨0, PRq A hc hb⟩
/-- in mind: a flock of the same birds and wires -/
def MS (Z Z1 : zM) (a : gX) (B : Int) : Prop := frs SQ Z Z1 ∧ ∃ s : gS, CFs 19 Z1 s ∧ WFs s ∧ s.1 = a.1.1 ∧ s.2.1 = a.1.2.1 ∧ s.2.2.1 ≤ B
theorem gP2_r {n W h fl : Int} {K F P : Int → Int} : ∀ m : Nat, zR (gP n W h K F P fl m).2
  | 0 => ⟨by show -2147483648 ≤ (0 : Int); decide, by show (0 : Int) ≤ 2147483647; decide⟩
  | m + 1 => by
    unfold gP
    dsimp only
    split
    · show zR (zbit 4 _ _)
      exact zbit_r _ _ _
    · exact gP2_r m
theorem gapart_b {s h : Int} : 0 ≤ gapart s h ∧ gapart s h ≤ 6 := by unfold gapart; omega
theorem fr19 {Z Z' : zM} (h : fr 19 Z Z') : frs SQ Z Z' := h.frs fun q h1 h2 => Or.inl (by omega)
section
variable {d : Nat} {Z Z1 : zM} {a : gX} {B : Int}
theorem MS.le {B' : Int} (m : MS Z Z1 a B) (h : B ≤ B') : MS Z Z1 a B' := by
  obtain ⟨f, s, h1, h2, h3, h4, h5⟩ := m
  exact ⟨f, s, h1, h2, h3, h4, by omega⟩
theorem MS.scr {Z2 : zM} (m : MS Z Z1 a B) (h : ∀ q, (19 ≤ q ∧ q ≤ 24) ∨ ¬ SQ q → Z2 q = Z1 q) : MS Z Z2 a B := by
  obtain ⟨f, s, h1, h2, h3, h4, h5⟩ := m
  exact ⟨fun q hq => by rw [h q (Or.inr hq), f q hq], s, CF.keep h1 fun q x y => h q (Or.inl ⟨x, y⟩), h2, h3, h4, h5⟩
theorem CFf {k : Nat} (A : CFs 1 Z a.1) (f : frs SQ Z Z1) : CFs 1 Z1 a.1 := CF.keep A fun q h1 h2 => f q (by unfold SQ; omega)
theorem S_think {Q : Nat → zM → Prop} (A : CX Z a) (wx : WX a) (f : frs SQ Z Z1) (hQ : ∀ Z', MS Z Z' a 999 → (∀ q, (q < 19 ∨ 24 < q) → Z' q = Z1 q) → Q 19 Z') : TR (d + 3) 97 [.inr 0] Z1 Q := by
  have wn : 0 ≤ a.1.1 ∧ a.1.1 ≤ 8 := wx.1.1.1
  exact w97_0 (C_become (n := a.1.1) (W := a.1.2.1) (h := a.1.2.2.1) (K := a.1.2.2.2.1) (F := a.1.2.2.2.2.1) (P := a.1.2.2.2.2.2.1) (T := a.1.2.2.2.2.2.2) zF19 zF1 (by decide) (CFf (k := 0) A.1 f) wn.2 fun Z' C f' => hQ Z' ⟨f.trans (fr19 f'), a.1, C, wx.1.1, rfl, rfl, wx.1.2⟩ fun q hq => f' q (by omega))
theorem S_pass {fl : Int} {Q : Int → zM → Prop} (m : MS Z Z1 a B) (hf : -1 ≤ fl ∧ fl < a.1.2.1) (hB : B < 1000000) (hQ : ∀ r Z', zR r → MS Z Z' a (B + 1) → (∀ q, (q < 19 ∨ 24 < q) → Z' q = Z1 q) → Q r Z') : TI (d + 3) 25 [.inr 19, .inl fl] Z1 Q := by
  obtain ⟨f, ⟨n, W, h, K, F, P, T⟩, h1, h2, h3, h4, h5⟩ := m
  have h5 : h ≤ B := h5
  have h4 : W = a.1.2.1 := h4
  refine C_pass zF19 h1 h2 (by omega) (by omega) fun Z' C f' => hQ _ Z' (gP2_r _) ⟨f.trans (fr19 f'), gpass fl (n, W, h, K, F, P, T), C, gpass_wf h2 (by dsimp only; omega) (by dsimp only; omega), h3, h4, by show h + 1 ≤ B + 1; omega⟩ fun q hq => f' q (by omega)
theorem S_shows {Q : Int → zM → Prop} (m : MS Z Z1 a B) (hQ : ∀ r, 0 ≤ r → r < 12 → Q r Z1) : TI d 22 [.inr 19] Z1 Q := by
  obtain ⟨f, ⟨n, W, h, K, F, P, T⟩, h1, h2, h3, h4, h5⟩ := m
  have b := gshow_b h2
  exact C_shows zF19 h1 h2 (hQ _ b.1 b.2)
theorem S_errs {Q : Int → zM → Prop} (m : MS Z Z1 a B) (hQ : ∀ r, 0 ≤ r → r ≤ 6 → Q r Z1) : TI (d + 2) 23 [.inr 19] Z1 Q := by
  obtain ⟨f, ⟨n, W, h, K, F, P, T⟩, h1, h2, h3, h4, h5⟩ := m
  exact C_errs zF19 h1 h2 (hQ _ gapart_b.1 gapart_b.2)
theorem S_und {t : Int} {Q : zM → Prop} (m : MS Z Z1 a B) (ht : 0 ≤ t ∧ t ≤ 7) (hQ : ∀ Z', MS Z Z' a B → (∀ q, (q < 19 ∨ 24 < q) → Z' q = Z1 q) → Q Z') : TV (d + 3) 31 [.inr 19, .inl t] Z1 Q := by
  obtain ⟨f, ⟨n, W, h, K, F, P, T⟩, h1, h2, h3, h4, h5⟩ := m
  exact C_undergo zF19 h1 h2 ht fun Z' C f' => hQ Z' ⟨f.trans (fr19 f'), (n, W, h, K, F, gthing n W P t, T), C, gthing_wf h2 ht, h3, h4, h5⟩ fun q hq => f' q (by omega)
theorem S_scare {w : Int} {Q : Int → zM → Prop} (m : MS Z Z1 a B) (hw : 0 ≤ w ∧ w ≤ 6) (hQ : ∀ r Z', MS Z Z' a B → Q r Z') : TI (d + 2) 32 [.inr 19, .inl w] Z1 Q := by
  obtain ⟨f, ⟨n, W, h, K, F, P, T⟩, h1, h2, h3, h4, h5⟩ := m
  have hn : 0 ≤ n ∧ n ≤ 8 := h2.1
  exact C_scare zF19 h1 h2 hw fun Z' C f' => hQ _ Z' ⟨f.trans (fr19 f'), gcat w (n, W, h, K, F, P, T), C, gC_wf h2 hw.1 _ (by omega), h3, h4, h5⟩
theorem S_chord {Q : Int → zM → Prop} (m : MS Z Z1 a B) (hQ : ∀ r, Q r Z1) : TI d 24 [.inr 19] Z1 Q := by
  obtain ⟨f, ⟨n, W, h, K, F, P, T⟩, h1, h2, h3, h4, h5⟩ := m
  exact C_satOn zF19 h1 h2 (hQ _)
theorem S_shows1 {Q : Int → zM → Prop} (A : CX Z a) (wx : WX a) (f : frs SQ Z Z1) (hQ : ∀ r, 0 ≤ r → r < 12 → Q r Z1) : TI d 22 [.inr 1] Z1 Q := by
  have b := gshow_b wx.1.1
  exact C_shows (n := a.1.1) (W := a.1.2.1) (h := a.1.2.2.1) (K := a.1.2.2.2.1) (F := a.1.2.2.2.2.1) (P := a.1.2.2.2.2.2.1) (T := a.1.2.2.2.2.2.2) zF1 (CFf (k := 0) A.1 f) wx.1.1 (hQ _ b.1 b.2)
theorem S_errs1 {Q : Int → zM → Prop} (A : CX Z a) (wx : WX a) (f : frs SQ Z Z1) (hQ : ∀ r, 0 ≤ r → r ≤ 6 → Q r Z1) : TI (d + 2) 23 [.inr 1] Z1 Q :=
  C_errs (n := a.1.1) (W := a.1.2.1) (h := a.1.2.2.1) (K := a.1.2.2.2.1) (F := a.1.2.2.2.2.1) (P := a.1.2.2.2.2.2.1) (T := a.1.2.2.2.2.2.2) zF1 (CFf (k := 0) A.1 f) wx.1.1 (hQ _ gapart_b.1 gapart_b.2)
theorem S_behind {n : Int} {Q : Nat → zM → Prop} (A : CX Z a) (wx : WX a) (hn : 0 ≤ n ∧ n ≤ 100) (hQ : ∀ Z', MS Z Z' a 1100 → Q 19 Z') : TR (d + 4) 98 [.inr 0, .inl n] Z Q := by
  have hW : 5 ≤ a.1.2.1 ∧ a.1.2.1 ≤ 6 := wx.1.1.2.1
  refine w98_0 (S_think A wx (frs.refl _ _) fun Z' m _ => ⟨rfl, ?_⟩)
  suffices H : ∀ i : Nat, i ≤ n.toNat → ∀ Z1 : zM, MS Z Z1 a (999 + i) → TZ (d + 4) 98 7 [some (.inr 0), some (.inl n), some (.inr 19), some (.inl (i : Int))] [] Z1 (zrr Q) from H 0 (Nat.zero_le _) Z' (m.le (by omega))
  intro i hi
  refine zdown (P := fun i => ∀ Z1 : zM, MS Z Z1 a (999 + i) → TZ (d + 4) 98 7 [some (.inr 0), some (.inl n), some (.inr 19), some (.inl (i : Int))] [] Z1 (zrr Q)) (n := n.toNat) ?_ ?_ i hi
  · intro Z1 m1
    exact w98_7 ⟨by unfold zR; omega, by unfold zR; omega, fun _ => hQ Z1 (m1.le (by omega)), fun x => absurd (show n ≤ (n.toNat : Int) by omega) x⟩
  · intro i hi ih Z1 m1
    exact w98_7 ⟨by unfold zR; omega, by unfold zR; omega, fun x => absurd x (by omega), fun _ => S_pass m1 (by omega) (by omega) fun r Z2 _ m2 _ => ih Z2 (m2.le (by omega))⟩
/-- a loop that counts i up to n, one HOUR more each time -/
theorem upto {n : Int} (hn : 0 ≤ n ∧ n ≤ 100000) {P : Int → zM → Prop} (h0 : ∀ Z1, MS Z Z1 a (999 + n) → P n Z1) (hs : ∀ i Z1, 0 ≤ i → i < n → MS Z Z1 a (999 + i) → (∀ Z2, MS Z Z2 a (999 + i + 1) → P (i + 1) Z2) → P i Z1) (Z1 : zM) (m : MS Z Z1 a 999) : P 0 Z1 := by
  suffices H : ∀ i : Nat, i ≤ n.toNat → ∀ Z1 : zM, MS Z Z1 a (999 + i) → P (i : Int) Z1 from H 0 (Nat.zero_le _) Z1 (m.le (by omega))
  intro i hi
  refine zdown (P := fun i => ∀ Z1 : zM, MS Z Z1 a (999 + i) → P (i : Int) Z1) (n := n.toNat) ?_ ?_ i hi
  · intro Z1 m1
    rw [show ((n.toNat : Nat) : Int) = n by omega] at m1 ⊢
    exact h0 Z1 m1
  · intro i hi ih Z1 m1
    refine hs i Z1 (by omega) (by omega) m1 fun Z2 m2 => ?_
    have := ih Z2 (m2.le (by omega))
    rwa [show ((i + 1 : Nat) : Int) = (i : Int) + 1 by omega] at this
theorem cb1 {x y lo hi m : Int} : -6 ≤ geith (gout x lo hi) (gunk y m) ∧ geith (gout x lo hi) (gunk y m) ≤ 0 := geith_b gb3 gb2
theorem T_behind {x1 x2 : Int} (A : CX Z a) (wx : WX a) (h1 : zR x1) (h2 : zR x2) : TI (d + 5) 99 [.inr 0, .inl x1, .inl x2] Z (QC Z a (geith (gout x1 0 20) (gunk x2 1))) := by
  refine w99_0 (C_outside h1 (by decide) (by decide) (C_unknown h2 (by decide) (C_either (zR9 gb3) ⟨zR9 cb1, fun c => ?_, fun c => C_refuse (by have := @cb1 x1 x2 0 20 1; omega) (qno A c cb1)⟩)))
  have c1 := gout_0.mp (geith_0.mp c).1
  exact S_behind A wx (by omega) fun Z' m => ⟨rfl, h2, fun _ => S_errs m fun r _ _ => qok A c m.1, fun _ => S_shows m fun r _ _ => qok A c m.1⟩
theorem T_where {x1 x2 : Int} (A : CX Z a) (wx : WX a) (h1 : zR x1) (h2 : zR x2) : TI (d + 5) 100 [.inr 0, .inl x1, .inl x2] Z (QC Z a (geith (gin a.1.1 x1) (gout x2 0 20))) := by
  have hn : 0 ≤ a.1.1 ∧ a.1.1 ≤ 8 := wx.1.1.1
  have g := geith_b (gb1 (W := a.1.1) (w := x1)) (gb3 (x := x2) (lo := 0) (hi := 20))
  refine w100_0 (C_noBird h1 A.1.1 (by unfold zR; omega) (C_outside h2 (by decide) (by decide) (C_either (zR9 gb1) ⟨zR9 g, fun c => ?_, fun c => C_refuse (by omega) (qno A c g)⟩)))
  have c1 := gin_0.mp (geith_0.mp c).1
  have c2 := gout_0.mp (geith_0.mp c).2
  exact S_behind A wx (by omega) fun Z' m => ⟨rfl, by omega, qok A c m.1⟩
theorem T_firstWrong (A : CX Z a) (wx : WX a) : TI (d + 5) 101 [.inr 0] Z (QC Z a 0) := by
  have hW : 5 ≤ a.1.2.1 ∧ a.1.2.1 ≤ 6 := wx.1.1.2.1
  refine w101_0 (S_think A wx (frs.refl _ _) fun Z' m _ => ⟨rfl, ?_⟩)
  refine upto (n := 21) (by decide) (P := fun i Z1 => TZ (d + 5) 101 7 [some (.inr 0), some (.inr 19), some (.inl i)] [] Z1 (zri (QC Z a 0))) (fun Z1 m1 => ?_) (fun i Z1 h1 h2 m1 ih => ?_) Z' m
  · exact w101_7 ⟨by decide, fun _ => qok A rfl m1.1, fun x => absurd (show (20 : Int) < 21 by decide) x⟩
  · exact w101_7 ⟨by unfold zR; omega, fun x => absurd x (by omega), fun _ => S_errs m1 fun r r1 r2 => ⟨by unfold zR; omega, fun _ => S_pass m1 (by omega) (by omega) fun r2 Z2 _ m2 _ => ih Z2 m2, fun _ => qok A rfl m1.1⟩⟩
theorem T_allWrong {x1 : Int} (A : CX Z a) (wx : WX a) (h1 : zR x1) : TI (d + 5) 102 [.inr 0, .inl x1] Z (QC Z a (gout x1 0 20)) := by
  have hW : 5 ≤ a.1.2.1 ∧ a.1.2.1 ≤ 6 := wx.1.1.2.1
  refine w102_0 (C_outside h1 (by decide) (by decide) ⟨zR9 gb3, fun c => ?_, fun c => C_refuse (by have := @gb3 x1 0 20; omega) (qno A c gb3)⟩)
  have c1 := gout_0.mp c
  refine S_think A wx (frs.refl _ _) fun Z' m _ => ⟨rfl, ?_⟩
  refine upto (n := x1) (by omega) (P := fun i Z1 => ∀ x4, TZ (d + 5) 102 29 [some (.inr 0), some (.inl x1), some (.inl (gout x1 0 20)), some (.inr 19), some (.inl x4), some (.inl i)] [] Z1 (zri (QC Z a (gout x1 0 20)))) (fun Z1 m1 x4 => ?_) (fun i Z1 i1 i2 m1 ih x4 => ?_) Z' m 0
  · exact w102_29 ⟨by unfold zR; omega, h1, fun _ => qok A c m1.1, fun x => absurd (Int.le_refl _) x⟩
  · exact w102_29 ⟨by unfold zR; omega, h1, fun x => absurd x (by omega), fun _ => S_pass m1 (by omega) (by omega) fun r Z2 _ m2 _ => S_errs m2 fun r2 _ _ => ih Z2 m2 _⟩
theorem T_right {x1 x2 : Int} (A : CX Z a) (wx : WX a) (h1 : zR x1) (h2 : zR x2) : TI (d + 5) 103 [.inr 0, .inl x1, .inl x2] Z (QC Z a (geith (gout x1 0 20) (gunk x2 1))) := by
  have hW : 5 ≤ a.1.2.1 ∧ a.1.2.1 ≤ 6 := wx.1.1.2.1
  refine w103_0 (C_outside h1 (by decide) (by decide) (C_unknown h2 (by decide) (C_either (zR9 gb3) ⟨zR9 cb1, fun c => ?_, fun c => C_refuse (by have := @cb1 x1 x2 0 20 1; omega) (qno A c cb1)⟩)))
  have c1 := gout_0.mp (geith_0.mp c).1
  refine S_think A wx (frs.refl _ _) fun Z' m _ => ⟨rfl, ?_⟩
  refine upto (n := x1) (by omega) (P := fun i Z1 => ∀ x5 x6 x7 o9, (0 ≤ x6 ∧ x6 ≤ i) → (0 ≤ x7 ∧ x7 ≤ i) → TZ (d + 5) 103 44 [some (.inr 0), some (.inl x1), some (.inl x2), some (.inl (geith (gout x1 0 20) (gunk x2 1))), some (.inr 19), some (.inl x5), some (.inl x6), some (.inl x7), some (.inl i), o9] [] Z1 (zri (QC Z a (geith (gout x1 0 20) (gunk x2 1))))) (fun Z1 m1 x5 x6 x7 o9 b6 b7 => ?_) (fun i Z1 i1 i2 m1 ih x5 x6 x7 o9 b6 b7 => ?_) Z' m 0 0 0 none (by decide) (by decide)
  · exact w103_44 ⟨by unfold zR; omega, h1, fun _ => ⟨h2, fun _ => qok A c m1.1, fun _ => qok A c m1.1⟩, fun x => absurd (Int.le_refl _) x⟩
  · exact w103_44 ⟨by unfold zR; omega, h1, fun x => absurd x (by omega), fun _ => S_pass m1 (by omega) (by omega) fun r Z2 _ m2 _ => S_errs m2 fun r2 r3 r4 => ⟨by unfold zR; omega, fun _ => ⟨by unfold zR; omega, ih Z2 m2 _ _ _ _ (by omega) (by omega)⟩, fun _ => ⟨by unfold zR; omega, by unfold zR; omega, ih Z2 m2 _ _ _ _ (by omega) (by omega)⟩⟩⟩
theorem T_later {x1 x2 : Int} (A : CX Z a) (wx : WX a) (h1 : zR x1) (h2 : zR x2) : TI (d + 5) 104 [.inr 0, .inl x1, .inl x2] Z (QC Z a (geith (gout x1 0 20) (gunk x2 1))) := by
  refine w104_0 (C_outside h1 (by decide) (by decide) (C_unknown h2 (by decide) (C_either (zR9 gb3) ⟨zR9 cb1, fun c => ?_, fun c => C_refuse (by have := @cb1 x1 x2 0 20 1; omega) (qno A c cb1)⟩)))
  have c1 := gout_0.mp (geith_0.mp c).1
  refine S_behind A wx (by omega) fun Z' m => ⟨rfl, S_shows m fun r r1 r2 => ?_⟩
  have hz : zR (Z' 19 7 - r) := by
    obtain ⟨f, s, m1, m2, _, _, m5⟩ := m
    have e : Z' 19 7 = s.2.2.1 := m1.2.2.1
    have := m2.2.2.1
    rw [e]; unfold zR; omega
  exact C_fmod hz ⟨h2, fun _ => ⟨by unfold zR; omega, qok A c m.1⟩, fun _ => qok A c m.1⟩
theorem T_stayed {x1 : Int} (A : CX Z a) (wx : WX a) (h1 : zR x1) : TI (d + 5) 105 [.inr 0, .inl x1] Z (QC Z a (gout x1 0 20)) := by
  have hW : 5 ≤ a.1.2.1 ∧ a.1.2.1 ≤ 6 := wx.1.1.2.1
  refine w105_0 (C_outside h1 (by decide) (by decide) ⟨zR9 gb3, fun c => ?_, fun c => C_refuse (by have := @gb3 x1 0 20; omega) (qno A c gb3)⟩)
  have c1 := gout_0.mp c
  refine S_think A wx (frs.refl _ _) fun Z' m _ => ⟨rfl, ?_⟩
  refine upto (n := x1) (by omega) (P := fun i Z1 => ∀ x4, TZ (d + 5) 105 29 [some (.inr 0), some (.inl x1), some (.inl (gout x1 0 20)), some (.inr 19), some (.inl x4), some (.inl i)] [] Z1 (zri (QC Z a (gout x1 0 20)))) (fun Z1 m1 x4 => ?_) (fun i Z1 i1 i2 m1 ih x4 => ?_) Z' m 0
  · exact w105_29 ⟨by unfold zR; omega, h1, fun _ => qok A c m1.1, fun x => absurd (Int.le_refl _) x⟩
  · exact w105_29 ⟨by unfold zR; omega, h1, fun x => absurd x (by omega), fun _ => S_pass m1 (by omega) (by omega) fun r Z2 _ m2 _ => ih Z2 m2 _⟩
theorem T_settled (A : CX Z a) (wx : WX a) : TI (d + 5) 106 [.inr 0] Z (QC Z a 0) := by
  have hW : 5 ≤ a.1.2.1 ∧ a.1.2.1 ≤ 6 := wx.1.1.2.1
  refine w106_0 (S_think A wx (frs.refl _ _) fun Z' m _ => ⟨rfl, ?_⟩)
  refine upto (n := 43) (by decide) (P := fun i Z1 => ∀ x2, (0 ≤ x2 ∧ x2 ≤ i) → TZ (d + 5) 106 9 [some (.inr 0), some (.inr 19), some (.inl x2), some (.inl (i + 1))] [] Z1 (zri (QC Z a 0))) (fun Z1 m1 x2 b => ?_) (fun i Z1 h1 h2 m1 ih x2 b => ?_) Z' m 0 (by decide)
  · exact w106_9 ⟨by decide, fun _ => qok A rfl m1.1, fun x => absurd (show (43 : Int) < 43 + 1 by decide) x⟩
  · exact w106_9 ⟨by unfold zR; omega, fun x => absurd x (by omega), fun _ => S_pass m1 (by omega) (by omega) fun r Z2 hr m2 _ => ⟨hr, fun _ => ih Z2 m2 _ (by omega), fun _ => ⟨by unfold zR; omega, fun _ => ih Z2 m2 _ (by omega), fun _ => qok A rfl m2.1⟩⟩⟩
theorem T_round (A : CX Z a) (wx : WX a) : TI (d + 5) 107 [.inr 0] Z (QC Z a 0) := by
  have hW : 5 ≤ a.1.2.1 ∧ a.1.2.1 ≤ 6 := wx.1.1.2.1
  have hn : 0 ≤ a.1.1 ∧ a.1.1 ≤ 8 := wx.1.1.1
  refine w107_0 (S_think A wx (frs.refl _ _) fun Z' m _ => ⟨rfl, ?_⟩)
  suffices H : ∀ (f : Nat) (x : Int) (Z1 : zM), 61 - x < 3 * (f : Int) → 3 ≤ x → x ≤ 63 → MS Z Z1 a (999 + x) → TZ (d + 5) 107 7 [some (.inr 0), some (.inr 19), some (.inl x)] [] Z1 (zri (QC Z a 0)) from H 22 3 Z' (by decide) (by decide) (by decide) (m.le (by decide))
  intro f
  induction f with
  | zero => intro x Z1 h1 h2 h3 m1; exact w107_7 ⟨by unfold zR; omega, fun _ => qok A rfl m1.1, fun y => absurd (show 60 < x by omega) y⟩
  | succ f ih =>
    intro x Z1 h1 h2 h3 m1
    refine w107_7 ⟨by unfold zR; omega, fun _ => qok A rfl m1.1, fun y => S_pass m1 (by omega) (by omega) fun r Z2 _ m2 _ => S_pass m2 (by omega) (by omega) fun r Z3 _ m3 _ => S_pass m3 (by omega) (by omega) fun r Z4 _ m4 _ => ?_⟩
    obtain ⟨g, s, g1, g2, g3, g4, g5⟩ := id m4
    have E : ∀ Q : Int → zM → Prop, (∀ r, (r = 0 ∨ r = 1) → Q r Z4) → TI (d + 4) 14 [.inr 19, .inr 1] Z4 Q := by
      intro Q hQ
      obtain ⟨n, W, h, K, F, P, T⟩ := s
      have g3 : n = a.1.1 := g3
      have C1 : CFs 1 Z4 a.1 := CFf (k := 0) A.1 g
      refine w14_0 zF19 zF1 ?_
      suffices K : ∀ i : Nat, i ≤ n.toNat → TZ (d + 4) 14 2 [some (.inr 19), some (.inr 1), some (.inl (i : Int))] [] Z4 (zri Q) from K 0 (Nat.zero_le _)
      intro i hi
      refine zdown (P := fun i => TZ (d + 4) 14 2 [some (.inr 19), some (.inr 1), some (.inl (i : Int))] [] Z4 (zri Q)) (n := n.toNat) ?_ ?_ i hi
      · have e5 : Z4 19 5 = n := g1.1
        exact w14_2 zF19 zF1 ⟨by unfold zR; omega, by unfold zR; omega, fun _ => hQ 1 (Or.inr rfl), fun y => absurd (show Z4 19 5 ≤ (n.toNat : Int) by omega) y⟩
      · intro i hi ih
        have e5 : Z4 19 5 = n := g1.1
        have e3 := (g1.2.2.2.1 i (by omega) (by dsimp only; omega)).2.2
        have b3 := (g2.2.2.2.1 i (by omega) (by dsimp only; omega)).2.2
        have e4 := (C1.2.2.2.1 i (by omega) (by omega)).2.2
        have b4 := (wx.1.1.2.2.2.1 i (by omega) (by omega)).2.2
        have gw : 5 ≤ W ∧ W ≤ 6 := g2.2.1
        dsimp only at e3 b3
        exact w14_2 zF19 zF1 ⟨by unfold zR; omega, by unfold zR; omega, fun y => absurd y (by omega), fun _ => ⟨by omega, by omega, by rw [e3]; unfold zR; omega, by rw [e4]; unfold zR; omega, fun _ => ih, fun _ => hQ 0 (Or.inl rfl)⟩⟩
    refine E _ fun r hr => ⟨by rcases hr with rfl | rfl <;> decide, fun _ => ih (x + 3) Z4 (by omega) (by omega) (by omega) (m4.le (by omega)), fun _ => qok A rfl m4.1⟩
theorem T_trainsL {x1 x2 x3 c : Int} (A : CX Z a) (wx : WX a) (h2 : 0 ≤ x2 ∧ x2 ≤ 20) (h3 : zR x3) (hc : c = 0) : TI (d + 5) 109 [.inr 0, .inl x1, .inl x2, .inl x3] Z (QC Z a c) := by
  have hW : 5 ≤ a.1.2.1 ∧ a.1.2.1 ≤ 6 := wx.1.1.2.1
  refine w109_0 (S_think A wx (frs.refl _ _) fun Z' m _ => ⟨rfl, ?_⟩)
  refine upto (n := x2 + 1) (by omega) (P := fun i Z1 => ∀ x5 o7 o8, TZ (d + 5) 109 12 [some (.inr 0), some (.inl x1), some (.inl x2), some (.inl x3), some (.inr 19), some (.inl x5), some (.inl i), o7, o8] [] Z1 (zri (QC Z a c))) (fun Z1 m1 x5 o7 o8 => ?_) (fun i Z1 i1 i2 m1 ih x5 o7 o8 => ?_) Z' m 0 none none
  · exact w109_12 ⟨by unfold zR; omega, by unfold zR; omega, fun _ => qok A hc m1.1, fun y => absurd (show x2 < x2 + 1 by omega) y⟩
  · have hz : zR (Z1 19 7) := by
      obtain ⟨f, s, m1, m2, _, _, m5⟩ := m1
      have e : Z1 19 7 = s.2.2.1 := m1.2.2.1
      have := m2.2.2.1
      rw [e]; unfold zR; omega
    have Pp : ∀ x5 o7 o8, TI (d + 4) 25 [.inr 19, .inl (-1)] Z1 (fun _ Z11 => TZ (d + 5) 109 12 [some (.inr 0), some (.inl x1), some (.inl x2), some (.inl x3), some (.inr 19), some (.inl x5), some (.inl (i + 1)), o7, o8] [] Z11 (zri (QC Z a c))) := fun x5 o7 o8 => S_pass m1 (by omega) (by omega) fun r Z2 _ m2 _ => ih Z2 m2 _ _ _
    exact w109_12 ⟨by unfold zR; omega, by unfold zR; omega, fun y => absurd y (by omega), fun _ => ⟨hz, zbit_r _ _ _, fun _ => S_shows m1 fun r _ _ => ⟨zbit_r _ _ _, fun _ => Pp _ _ _, fun _ => ⟨h3, fun _ => Pp _ _ _, fun _ => Pp _ _ _⟩⟩, fun _ => S_shows m1 fun r _ _ => ⟨zbit_r _ _ _, fun _ => ⟨h3, fun _ => Pp _ _ _, fun _ => Pp _ _ _⟩, fun _ => Pp _ _ _⟩⟩⟩
def ctrains (x1 x2 x3 x4 : Int) : Int := geith (if x1 < 0 ∨ x2 < 1 ∨ x3 < 0 then -4 else if 12 ≤ x1 ∨ 12 < x2 ∨ 20 < x3 then -6 else 0) (gunk x4 1)
theorem ctrains_b {x1 x2 x3 x4 : Int} : -6 ≤ ctrains x1 x2 x3 x4 ∧ ctrains x1 x2 x3 x4 ≤ 0 := by
  unfold ctrains
  refine geith_b ?_ gb2
  repeat' split
  all_goals omega
theorem T_trains {x1 x2 x3 x4 : Int} (A : CX Z a) (wx : WX a) (h1 : zR x1) (h2 : zR x2) (h3 : zR x3) (h4 : zR x4) : TI (d + 6) 108 [.inr 0, .inl x1, .inl x2, .inl x3, .inl x4] Z (QC Z a (ctrains x1 x2 x3 x4)) := by
  have cb := @ctrains_b x1 x2 x3 x4
  have body : ∀ c0 : Int, ctrains x1 x2 x3 x4 = geith c0 (gunk x4 1) → zR c0 → (c0 = 0 → (0 ≤ x1 ∧ x1 < 12) ∧ (1 ≤ x2 ∧ x2 ≤ 12) ∧ 0 ≤ x3 ∧ x3 ≤ 20) → TI (d + 5) 75 [.inl x4, .inl 1] Z (fun r4 Z3 => TI (d + 5) 72 [.inl c0, .inl r4] Z3 (fun r6 Z5 => zR r6 ∧ (r6 = 0 → TZ (d + 6) 108 76 [some (.inr 0), some (.inl x1), some (.inl x2), some (.inl x3), some (.inl x4), some (.inl r6), some (.inl 0), some (.inl x1)] [] Z5 (zri (QC Z a (ctrains x1 x2 x3 x4)))) ∧ (¬ r6 = 0 → TI (d + 5) 71 [.inr 0, .inl r6] Z5 (fun r10 Z9 => QC Z a (ctrains x1 x2 x3 x4) r10 Z9)))) := by
    intro c0 e hz h0
    refine C_unknown h4 (by decide) (C_either hz ?_)
    rw [← e]
    refine ⟨zR9 cb, fun c => ?_, fun c => C_refuse (by omega) (qno A c cb)⟩
    rw [e] at c
    obtain ⟨b1, b2, b3⟩ := h0 (geith_0.mp c).1
    rw [← e] at c
    suffices H : ∀ (f : Nat) (x6 x7 : Int), 12 - x7 < f → 0 ≤ x7 → x7 ≤ 30 → TZ (d + 6) 108 76 [some (.inr 0), some (.inl x1), some (.inl x2), some (.inl x3), some (.inl x4), some (.inl (ctrains x1 x2 x3 x4)), some (.inl x6), some (.inl x7)] [] Z (zri (QC Z a (ctrains x1 x2 x3 x4))) from H 13 0 x1 (by omega) (by omega) (by omega)
    intro f
    induction f with
    | zero => intro x6 x7 y1 y2 y3; exact w108_76 ⟨by unfold zR; omega, fun _ => ⟨h4, fun _ => T_trainsL A wx b3 (by decide) c, fun _ => T_trainsL A wx b3 (by decide) c⟩, fun y => absurd (show 12 ≤ x7 by omega) y⟩
    | succ f ih => intro x6 x7 y1 y2 y3; exact w108_76 ⟨by unfold zR; omega, fun _ => ⟨h4, fun _ => T_trainsL A wx b3 (by decide) c, fun _ => T_trainsL A wx b3 (by decide) c⟩, fun y => ih _ _ (by omega) (by omega) (by omega)⟩
  have low : (x1 < 0 ∨ x2 < 1 ∨ x3 < 0) → ctrains x1 x2 x3 x4 = geith (-4) (gunk x4 1) := fun h => by unfold ctrains; rw [if_pos h]
  have high : ¬ (x1 < 0 ∨ x2 < 1 ∨ x3 < 0) → (12 ≤ x1 ∨ 12 < x2 ∨ 20 < x3) → ctrains x1 x2 x3 x4 = geith (-6) (gunk x4 1) := fun h g => by unfold ctrains; rw [if_neg h, if_pos g]
  have fine : ¬ (x1 < 0 ∨ x2 < 1 ∨ x3 < 0) → ¬ (12 ≤ x1 ∨ 12 < x2 ∨ 20 < x3) → ctrains x1 x2 x3 x4 = geith 0 (gunk x4 1) := fun h g => by unfold ctrains; rw [if_neg h, if_neg g]
  refine w108_0 ⟨h1, fun c => body (-4) (low (Or.inl c)) (by decide) (fun y => absurd y (by decide)), fun c => ⟨h2, fun c2 => body (-4) (low (by omega)) (by decide) (fun y => absurd y (by decide)), fun c2 => ⟨h3, fun c3 => ⟨h1, fun c4 => body (-6) (high (by omega) (by omega)) (by decide) (fun y => absurd y (by decide)), fun c4 => ⟨h2, fun c5 => body (-6) (high (by omega) (by omega)) (by decide) (fun y => absurd y (by decide)), fun c5 => ⟨h3, fun c6 => body 0 (fine (by omega) (by omega)) (by decide) (fun _ => by omega), fun c6 => body (-6) (high (by omega) (by omega)) (by decide) (fun y => absurd y (by decide))⟩⟩⟩, fun c3 => body (-4) (low (by omega)) (by decide) (fun y => absurd y (by decide))⟩⟩⟩
end
