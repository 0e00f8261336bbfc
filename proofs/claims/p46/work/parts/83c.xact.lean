/-! LOOKS with their very answers: the hours to come -/
def gh (a : gX) (i : Int) : gS := ghours (-1) i.toNat a.1
def gone (s : gS) : Int := (gP s.1 s.2.1 s.2.2.1 s.2.2.2.1 s.2.2.2.2.1 s.2.2.2.2.2.1 (-1) s.1.toNat).2
theorem gh_s {a : gX} {i : Int} (h : 0 ≤ i) : gh a (i + 1) = gpass (-1) (gh a i) := by
  unfold gh
  rw [show (i + 1).toNat = i.toNat + 1 by omega]
  rfl
theorem gh_h {a : gX} {i : Int} (h : 0 ≤ i) : (gh a i).2.2.1 = a.1.2.2.1 + i ∧ (gh a i).2.1 = a.1.2.1 ∧ (gh a i).1 = a.1.1 := by
  have := ghours_h (fl := -1) i.toNat a.1
  unfold gh
  exact ⟨by rw [this.1]; omega, this.2⟩
theorem gh_wf {a : gX} (wx : WX a) : ∀ m : Nat, m ≤ 1000 → WFs (gh a m)
  | 0, _ => wx.1.1
  | m + 1, hm => by
    have w := gh_wf wx m (by omega)
    have e := gh_h (a := a) (i := m) (by omega)
    have hW := wx.1.1.2.1
    have hh := wx.1.2
    have s := gh_s (a := a) (i := (m : Int)) (by omega)
    rw [show ((m + 1 : Nat) : Int) = (m : Int) + 1 by omega, s]
    exact gpass_wf w (by rw [e.2.1]; omega) (by rw [e.1]; omega)
theorem gh_w {a : gX} (wx : WX a) {i : Int} (h : 0 ≤ i ∧ i ≤ 1000) : WFs (gh a i) := by
  have := gh_wf wx i.toNat (by omega)
  rwa [show ((i.toNat : Nat) : Int) = i by omega] at this
theorem gerrs_b {s : gS} : 0 ≤ gerrs s ∧ gerrs s ≤ 6 := gapart_b
def MF (Z Z1 : zM) (s : gS) : Prop := frs SQ Z Z1 ∧ CFs 19 Z1 s
def outm (Z1 Z2 : zM) : Prop := ∀ q, (q < 19 ∨ 24 < q) → Z2 q = Z1 q
section
variable {d : Nat} {Z Z1 Z2 : zM} {a : gX} {s : gS} {i : Int}
theorem F_think {Q : Nat → zM → Prop} (A : CX Z a) (wx : WX a) (f : frs SQ Z Z1) (hQ : ∀ Z', MF Z Z' a.1 → outm Z1 Z' → Q 19 Z') : TR (d + 3) 97 [.inr 0] Z1 Q := by
  have wn : 0 ≤ a.1.1 ∧ a.1.1 ≤ 8 := wx.1.1.1
  exact w97_0 (C_become (n := a.1.1) (W := a.1.2.1) (h := a.1.2.2.1) (K := a.1.2.2.2.1) (F := a.1.2.2.2.2.1) (P := a.1.2.2.2.2.2.1) (T := a.1.2.2.2.2.2.2) zF19 zF1 (by decide) (CFf (k := 0) A.1 f) wn.2 fun Z' C f' => hQ Z' ⟨f.trans (fr19 f'), C⟩ fun q hq => f' q (by omega))
theorem F_pass {Q : Int → zM → Prop} (m : MF Z Z1 (gh a i)) (wx : WX a) (hi : 0 ≤ i ∧ i ≤ 900) (hQ : ∀ Z', MF Z Z' (gh a (i + 1)) → outm Z1 Z' → Q (gone (gh a i)) Z') : TI (d + 3) 25 [.inr 19, .inl (-1)] Z1 Q := by
  have w := gh_w wx (i := i) (by omega)
  have e := gh_h (a := a) hi.1
  have es := gh_s (a := a) hi.1
  have hW := wx.1.1.2.1
  have hh := wx.1.2
  refine C_pass (n := (gh a i).1) (W := (gh a i).2.1) (h := (gh a i).2.2.1) (K := (gh a i).2.2.2.1) (F := (gh a i).2.2.2.2.1) (P := (gh a i).2.2.2.2.2.1) (T := (gh a i).2.2.2.2.2.2) zF19 m.2 w (by rw [e.2.1]; omega) (by rw [e.1]; omega) fun Z' C f' => hQ Z' ⟨m.1.trans (fr19 f'), ?_⟩ fun q hq => f' q (by omega)
  rw [es]
  exact C
theorem F_errs {Q : Int → zM → Prop} (m : MF Z Z1 s) (wf : WFs s) (hQ : Q (gerrs s) Z1) : TI (d + 2) 23 [.inr 19] Z1 Q :=
  C_errs (n := s.1) (W := s.2.1) (h := s.2.2.1) (K := s.2.2.2.1) (F := s.2.2.2.2.1) (P := s.2.2.2.2.2.1) (T := s.2.2.2.2.2.2) zF19 m.2 wf hQ
theorem F_shows {Q : Int → zM → Prop} (m : MF Z Z1 s) (wf : WFs s) (hQ : Q (gshows s) Z1) : TI d 22 [.inr 19] Z1 Q :=
  C_shows (n := s.1) (W := s.2.1) (h := s.2.2.1) (K := s.2.2.2.1) (F := s.2.2.2.2.1) (P := s.2.2.2.2.2.1) (T := s.2.2.2.2.2.2) zF19 m.2 wf hQ
theorem F_upto {n : Int} (hn : 0 ≤ n) {P : Int → zM → Prop} (h0 : ∀ Z1, MF Z Z1 (gh a n) → P n Z1) (hs : ∀ i Z1, 0 ≤ i → i < n → MF Z Z1 (gh a i) → (∀ Z2, MF Z Z2 (gh a (i + 1)) → P (i + 1) Z2) → P i Z1) (Z1 : zM) (m : MF Z Z1 a.1) : P 0 Z1 := by
  suffices H : ∀ i : Nat, i ≤ n.toNat → ∀ Z1 : zM, MF Z Z1 (gh a i) → P (i : Int) Z1 from H 0 (Nat.zero_le _) Z1 m
  intro i hi
  refine zdown (P := fun i => ∀ Z1 : zM, MF Z Z1 (gh a i) → P (i : Int) Z1) (n := n.toNat) ?_ ?_ i hi
  · intro Z1 m1
    rw [show ((n.toNat : Nat) : Int) = n by omega] at m1 ⊢
    exact h0 Z1 m1
  · intro i hi ih Z1 m1
    refine hs i Z1 (by omega) (by omega) m1 fun Z2 m2 => ?_
    have := ih Z2 (by rw [show ((i + 1 : Nat) : Int) = (i : Int) + 1 by omega]; exact m2)
    rwa [show ((i + 1 : Nat) : Int) = (i : Int) + 1 by omega] at this
theorem F_behind {n : Int} {Q : Nat → zM → Prop} (A : CX Z a) (wx : WX a) (hn : 0 ≤ n ∧ n ≤ 100) (hQ : ∀ Z', MF Z Z' (gh a n) → Q 19 Z') : TR (d + 4) 98 [.inr 0, .inl n] Z Q := by
  refine w98_0 (F_think A wx (frs.refl _ _) fun Z' m _ => ⟨rfl, ?_⟩)
  refine F_upto (n := n) hn.1 (P := fun i Z1 => TZ (d + 4) 98 7 [some (.inr 0), some (.inl n), some (.inr 19), some (.inl i)] [] Z1 (zrr Q)) (fun Z1 m1 => ?_) (fun i Z1 i1 i2 m1 ih => ?_) Z' m
  · exact w98_7 ⟨by unfold zR; omega, by unfold zR; omega, fun _ => hQ Z1 m1, fun x => absurd (Int.le_refl _) x⟩
  · exact w98_7 ⟨by unfold zR; omega, by unfold zR; omega, fun x => absurd x (by omega), fun _ => F_pass m1 wx (by omega) fun Z2 m2 _ => ih Z2 m2⟩
def vBehind (a : gX) (x1 x2 : Int) : Int := if x2 = 0 then gshows (gh a x1) else gerrs (gh a x1)
theorem X_behind {x1 x2 : Int} (A : CX Z a) (wx : WX a) (h1 : zR x1) (h2 : zR x2) : TI (d + 5) 99 [.inr 0, .inl x1, .inl x2] Z (PostC Z (oq a (geith (gout x1 0 20) (gunk x2 1)) (vBehind a x1 x2))) := by
  refine w99_0 (C_outside h1 (by decide) (by decide) (C_unknown h2 (by decide) (C_either (zR9 gb3) ⟨zR9 cb1, fun c => ?_, fun c => C_refuse (by have := @cb1 x1 x2 0 20 1; omega) (PRq A c cb1)⟩)))
  have c1 := gout_0.mp (geith_0.mp c).1
  refine F_behind A wx (by omega) fun Z' m => ⟨rfl, h2, fun e => F_errs m (gh_w wx (by omega)) ?_, fun e => F_shows m (gh_w wx (by omega)) ?_⟩
  · have := PQ (v := vBehind a x1 x2) A c m.1
    unfold vBehind at this ⊢
    rw [if_neg e] at this ⊢
    exact this
  · have := PQ (v := vBehind a x1 x2) A c m.1
    unfold vBehind at this ⊢
    rw [if_pos (by omega)] at this ⊢
    exact this
def vWhere (a : gX) (x1 x2 : Int) : Int := (gh a x2).2.2.2.2.2.1 x1
theorem X_where {x1 x2 : Int} (A : CX Z a) (wx : WX a) (h1 : zR x1) (h2 : zR x2) : TI (d + 5) 100 [.inr 0, .inl x1, .inl x2] Z (PostC Z (oq a (geith (gin a.1.1 x1) (gout x2 0 20)) (vWhere a x1 x2))) := by
  have hn : 0 ≤ a.1.1 ∧ a.1.1 ≤ 8 := wx.1.1.1
  have g := geith_b (gb1 (W := a.1.1) (w := x1)) (gb3 (x := x2) (lo := 0) (hi := 20))
  refine w100_0 (C_noBird h1 A.1.1 (by unfold zR; omega) (C_outside h2 (by decide) (by decide) (C_either (zR9 gb1) ⟨zR9 g, fun c => ?_, fun c => C_refuse (by omega) (PRq A c g)⟩)))
  have c1 := gin_0.mp (geith_0.mp c).1
  have c2 := gout_0.mp (geith_0.mp c).2
  refine F_behind A wx (by omega) fun Z' m => ⟨rfl, by omega, ?_⟩
  have e := gh_h (a := a) (i := x2) (by omega)
  have ev : Z' 22 x1 = vWhere a x1 x2 := (m.2.2.2.2.1 x1 c1.1 (by rw [e.2.2]; exact c1.2)).2.2
  rw [ev]
  exact PQ A c m.1
def gfw (a : gX) : Nat → Int → Int
  | 0, _ => -9
  | f + 1, i => if gerrs (gh a i) = 0 then gfw a f (i + 1) else i
theorem X_firstWrong (A : CX Z a) (wx : WX a) : TI (d + 5) 101 [.inr 0] Z (PostC Z (oq a 0 (gfw a 21 0))) := by
  refine w101_0 (F_think A wx (frs.refl _ _) fun Z' m _ => ⟨rfl, ?_⟩)
  have := F_upto (n := 21) (by decide) (P := fun i Z1 => gfw a (21 - i).toNat i = gfw a 21 0 → TZ (d + 5) 101 7 [some (.inr 0), some (.inr 19), some (.inl i)] [] Z1 (zri (PostC Z (oq a 0 (gfw a 21 0))))) (fun Z1 m1 hv => ?_) (fun i Z1 i1 i2 m1 ih hv => ?_) Z' m
  · exact this rfl
  · refine w101_7 ⟨by decide, fun _ => ?_, fun x => absurd (show (20 : Int) < 21 by decide) x⟩
    have e : gfw a 21 0 = -9 := hv.symm
    rw [e]; exact PQ A rfl m1.1
  · have st : gfw a (21 - i).toNat i = if gerrs (gh a i) = 0 then gfw a (21 - (i + 1)).toNat (i + 1) else i := by
      rw [show (21 - i).toNat = (21 - (i + 1)).toNat + 1 by omega]; rfl
    rw [st] at hv
    have eb := @gerrs_b (gh a i)
    refine w101_7 ⟨by unfold zR; omega, fun x => absurd x (by omega), fun _ => F_errs m1 (gh_w wx (by omega)) ⟨by unfold zR; omega, fun c => F_pass m1 wx (by omega) fun Z2 m2 _ => ih Z2 m2 ?_, fun c => ?_⟩⟩
    · rw [if_pos c] at hv; exact hv
    · rw [if_neg c] at hv; rw [← hv]; exact PQ A rfl m1.1
def gaw (a : gX) : Nat → Int
  | 0 => 0
  | m + 1 => gaw a m + gerrs (gh a (m + 1))
theorem X_allWrong {x1 : Int} (A : CX Z a) (wx : WX a) (h1 : zR x1) : TI (d + 5) 102 [.inr 0, .inl x1] Z (PostC Z (oq a (gout x1 0 20) (gaw a x1.toNat))) := by
  refine w102_0 (C_outside h1 (by decide) (by decide) ⟨zR9 gb3, fun c => ?_, fun c => C_refuse (by have := @gb3 x1 0 20; omega) (PRq A c gb3)⟩)
  have c1 := gout_0.mp c
  refine F_think A wx (frs.refl _ _) fun Z' m _ => ⟨rfl, ?_⟩
  refine F_upto (n := x1) c1.1 (P := fun i Z1 => TZ (d + 5) 102 29 [some (.inr 0), some (.inl x1), some (.inl (gout x1 0 20)), some (.inr 19), some (.inl (gaw a i.toNat)), some (.inl i)] [] Z1 (zri (PostC Z (oq a (gout x1 0 20) (gaw a x1.toNat))))) (fun Z1 m1 => ?_) (fun i Z1 i1 i2 m1 ih => ?_) Z' m
  · exact w102_29 ⟨by unfold zR; omega, h1, fun _ => PQ A c m1.1, fun x => absurd (Int.le_refl _) x⟩
  · refine w102_29 ⟨by unfold zR; omega, h1, fun x => absurd x (by omega), fun _ => F_pass m1 wx (by omega) fun Z2 m2 _ => F_errs m2 (gh_w wx (by omega)) ?_⟩
    have := ih Z2 m2
    rw [show (i + 1).toNat = i.toNat + 1 by omega] at this
    have e : gaw a (i.toNat + 1) = gaw a i.toNat + gerrs (gh a (i + 1)) := by
      show gaw a i.toNat + gerrs (gh a ((i.toNat : Int) + 1)) = _
      rw [show ((i.toNat : Nat) : Int) = i by omega]
    rw [e] at this
    exact this
end
/-! the reference -/
def QE (Z Z1 : zM) (a : gX) (s : gS) : Prop := RK Z1 a s ∧ ∀ q, q < 100 → Z1 q = Z q
def HX (Z1 : zM) (a : gX) (x : Int) : Prop := ∀ j, 0 ≤ j → j < x → Z1 111 j = gshows (gh a j) ∧ Z1 112 j = gerrs (gh a j) ∧ Z1 113 j = gone (gh a j)
section
variable {d : Nat} {Z Z1 Z2 : zM} {a : gX} {s : gS} {i : Int}
theorem G_no {code c v : Int} (m : QS Z Z1 a) (wx : WX a) (e : code = c) (hc : -6 ≤ c ∧ c ≤ -1) : TI d 154 [.inr 100, .inl c] Z1 (PostR Z (oq a code v)) := by
  refine R_no hc ?_
  obtain ⟨h1, h2, h3⟩ := RRq (v := v) m.1 wx e hc
  exact ⟨h1, h2, fun q hq => by rw [h3 q hq, m.2 q hq]⟩
theorem G_ok {code v : Int} (m : QS Z Z1 a) (e : code = 0) : PostR Z (oq a code v) v Z1 := RM e m.1 m.2
theorem G_thinks {Q : zM → Prop} (m : QS Z Z1 a) (wx : WX a) (hQ : ∀ Z2, QE Z Z2 a a.1 → same Z1 Z2 → Q Z2) : TV (d + 2) 179 [.inr 100] Z1 Q :=
  R_thinks m.1 wx fun Z2 k f => hQ Z2 ⟨k, fun q hq => by
    rw [← m.2 q hq]; exact funext fun p => f q p (by unfold ST; omega)⟩ fun q hq => funext fun p => f q p (by unfold ST; omega)
theorem G_forgets {Q : zM → Prop} (m : QE Z Z1 a s) (wx : WX a) (hQ : ∀ Z2, QS Z Z2 a → same Z1 Z2 → Q Z2) : TV (d + 2) 180 [.inr 100] Z1 Q :=
  R_forgets m.1 wx fun Z2 k f => hQ Z2 ⟨k, fun q hq => by
    rw [← m.2 q hq]; exact funext fun p => f q p (by unfold ST; omega)⟩ fun q hq => funext fun p => f q p (by unfold ST; omega)
theorem G_pass {Q : Int → zM → Prop} (m : QE Z Z1 a (gh a i)) (wx : WX a) (hi : 0 ≤ i ∧ i ≤ 900) (hQ : ∀ Z2, QE Z Z2 a (gh a (i + 1)) → same Z1 Z2 → Q (gone (gh a i)) Z2) : TI (d + 3) 188 [.inr 100, .inl (-1)] Z1 Q := by
  have w := gh_w wx (i := i) (by omega)
  have e := gh_h (a := a) hi.1
  have es := gh_s (a := a) hi.1
  have hW := wx.1.1.2.1
  have hh := wx.1.2
  refine R_goes1 (n := (gh a i).1) (W := (gh a i).2.1) (h := (gh a i).2.2.1) (K := (gh a i).2.2.2.1) (F := (gh a i).2.2.2.2.1) (P := (gh a i).2.2.2.2.2.1) (T := (gh a i).2.2.2.2.2.2) m.1.1 w (by rw [e.2.1]; omega) (by rw [e.1]; omega) fun Z2 C f => hQ Z2 ⟨?_, fun q hq => ?_⟩ fun q hq => funext fun p => f q p (by unfold SH; omega)
  · rw [es]; exact m.1.step wx C f
  · rw [← m.2 q hq]; exact funext fun p => f q p (by unfold SH; omega)
theorem G_shown {Q : Int → zM → Prop} (m : QE Z Z1 a s) (wf : WFs s) (hQ : Q (gshows s) Z1) : TI d 161 [.inr 100] Z1 Q :=
  R_shown (n := s.1) (W := s.2.1) (h := s.2.2.1) (K := s.2.2.2.1) (F := s.2.2.2.2.1) (P := s.2.2.2.2.2.1) (T := s.2.2.2.2.2.2) m.1.1 wf hQ
theorem G_wrong {Q : Int → zM → Prop} (m : QE Z Z1 a s) (wf : WFs s) (hQ : Q (gerrs s) Z1) : TI (d + 1) 162 [.inr 100] Z1 Q :=
  R_wrong (n := s.1) (W := s.2.1) (h := s.2.2.1) (K := s.2.2.2.1) (F := s.2.2.2.2.1) (P := s.2.2.2.2.2.1) (T := s.2.2.2.2.2.2) m.1.1 wf hQ
theorem QE.up {c : Nat} {p v : Int} (m : QE Z Z1 a s) (wx : WX a) (hc : scq c) : QE Z (zup Z1 c p v) a s := by
  have F : ∀ q, ¬ scq q → zup Z1 c p v q = Z1 q := fun q hq => funext fun i => zup_cell _ _ _ _ (fun e => hq (by subst e; exact hc))
  exact ⟨m.1.scr wx (sc_fR F) fun q p s => by unfold scq at s; omega, fun q hq => by rw [F q (by unfold scq; omega), m.2 q hq]⟩
theorem G_205 {x1 : Int} {Q : zM → Prop} (m : QS Z Z1 a) (wx : WX a) (h1 : 0 ≤ x1 ∧ x1 ≤ 50) (hQ : ∀ Z2, QS Z Z2 a → HX Z2 a (x1 + 1) → (∀ q, 114 ≤ q → Z2 q = Z1 q) → Q Z2) : TV (d + 4) 205 [.inr 100, .inl x1] Z1 Q := by
  refine w205_0 (G_thinks m wx fun Z2 k s2 => ?_)
  suffices H : ∀ (f : Nat) (x2 : Int) (Z3 : zM), x1 + 1 - x2 < f → 0 ≤ x2 → x2 ≤ x1 + 1 → QE Z Z3 a (gh a x2) → HX Z3 a x2 → (∀ q, 114 ≤ q → Z3 q = Z1 q) → TZ (d + 4) 205 6 [some (.inr 100), some (.inl x1), some (.inl x2)] [] Z3 (zrv Q) from H (x1 + 2).toNat 0 Z2 (by omega) (by omega) (by omega) k (fun j h1 h2 => by omega) (fun q hq => s2 q (by omega))
  intro f
  induction f with
  | zero => intro x2 Z0 y1 y2 y3 m1 hf hs; omega
  | succ f ih =>
    intro x2 Z0 y1 y2 y3 m1 hf hs
    have wf := gh_w wx (i := x2) (by omega)
    refine w205_6 ⟨by unfold zR; omega, by unfold zR; omega, fun y => G_forgets m1 wx fun Z3 l s => hQ Z3 l ?_ (fun q hq => by rw [s q (by omega), hs q hq]), fun y => G_shown m1 wf ⟨by omega, fun Z8 e8 => ?_⟩⟩
    · have e : x2 = x1 + 1 := by omega
      rw [e] at hf
      intro j j1 j2
      rw [s 111 (by decide), s 112 (by decide), s 113 (by decide)]; exact hf j j1 j2
    have m8 : QE Z Z8 a (gh a x2) := by subst e8; exact m1.up wx (by unfold scq; omega)
    refine G_wrong m8 wf ⟨by omega, fun Z12 e12 => ?_⟩
    have m12 : QE Z Z12 a (gh a x2) := by subst e12; exact m8.up wx (by unfold scq; omega)
    refine G_pass m12 wx (by omega) fun Z13 m13 s13 => ⟨by omega, fun Z16 e16 => ?_⟩
    have m16 : QE Z Z16 a (gh a (x2 + 1)) := by subst e16; exact m13.up wx (by unfold scq; omega)
    refine ih _ Z16 (by omega) (by omega) (by omega) m16 (fun j h1 h2 => ?_) (fun q hq => by rw [e16, show zup Z13 113 x2 (gone (gh a x2)) q = Z13 q from funext fun p => zup_cell _ _ _ _ (by omega), s13 q (by omega), e12, show zup Z8 112 x2 (gerrs (gh a x2)) q = Z8 q from funext fun p => zup_cell _ _ _ _ (by omega), e8, show zup Z0 111 x2 (gshows (gh a x2)) q = Z0 q from funext fun p => zup_cell _ _ _ _ (by omega), hs q hq])
    have e1 : Z16 111 j = zup Z0 111 x2 (gshows (gh a x2)) 111 j := by rw [e16, zup_cell _ _ _ _ (by decide), s13 111 (by decide), e12, zup_cell _ _ _ _ (by decide), e8]
    have e2 : Z16 112 j = zup Z8 112 x2 (gerrs (gh a x2)) 112 j := by rw [e16, zup_cell _ _ _ _ (by decide), s13 112 (by decide), e12]
    have e3 : Z16 113 j = zup Z13 113 x2 (gone (gh a x2)) 113 j := by rw [e16]
    rw [e1, e2, e3]
    by_cases e : j = x2
    · subst e; rw [zup_same, zup_same, zup_same]; exact ⟨rfl, rfl, rfl⟩
    · rw [zup_place _ _ _ _ e, zup_place _ _ _ _ e, zup_place _ _ _ _ e, e8, zup_cell _ _ _ _ (by decide), s13 113 (by decide), e12, zup_cell _ _ _ _ (by decide), e8, zup_cell _ _ _ _ (by decide)]
      exact hf j h1 (by omega)
theorem Y_behind {x1 x2 : Int} (A : RX Z a) (wx : WX a) (h1 : zR x1) (h2 : zR x2) : TI (d + 5) 207 [.inr 100, .inl x1, .inl x2] Z (PostR Z (oq a (geith (gout x1 0 20) (gunk x2 1)) (vBehind a x1 x2))) := by
  have m := QS.refl A
  refine w207_0 (D_206 h1 ⟨zR9 gb3, fun c => ⟨zR9 gb3, fun e => absurd e c, fun _ => G_no m wx (ge1 c) (go_n c)⟩, fun c => ?_⟩)
  have c : gout x1 0 20 = 0 := by omega
  have c1 := gout_0.mp c
  refine R_isIn h2 (by decide) (by decide) (fun i => ⟨by decide, fun _ => ⟨zR9 gb3, fun _ => G_205 m wx (by omega) fun Z2 l hf _ => ?_, fun e => absurd c e⟩, fun e => absurd (show (1 : Int) ≠ 0 by decide) e⟩) (fun i => ⟨by decide, fun e => absurd rfl e, fun _ => G_no m wx (by rw [ge0 c, gu2 i]) (by decide)⟩)
  obtain ⟨v1, v2, _⟩ := hf x1 c1.1 (by omega)
  have ok := G_ok (v := vBehind a x1 x2) (code := geith (gout x1 0 20) (gunk x2 1)) l (by rw [ge0 c]; exact gunk_0.mpr i)
  rw [v1, v2]
  unfold vBehind at ok ⊢
  refine ⟨h2, fun e => ⟨by omega, ?_⟩, fun e => ⟨by omega, ?_⟩⟩
  · rw [if_neg e] at ok ⊢; exact ok
  · rw [if_pos (by omega)] at ok ⊢; exact ok
theorem Y_firstWrong (A : RX Z a) (wx : WX a) : TI (d + 5) 209 [.inr 100] Z (PostR Z (oq a 0 (gfw a 21 0))) := by
  refine w209_0 (G_205 (QS.refl A) wx (by decide) fun Z2 l hf _ => ?_)
  suffices H : ∀ (f : Nat) (x1 : Int), 21 - x1 < f → 0 ≤ x1 → x1 ≤ 21 → gfw a (21 - x1).toNat x1 = gfw a 21 0 → TZ (d + 5) 209 8 [some (.inr 100), some (.inl x1)] [] Z2 (zri (PostR Z (oq a 0 (gfw a 21 0)))) from H 22 0 (by decide) (by decide) (by decide) rfl
  intro f
  induction f with
  | zero => intro x1 y1 y2 y3 hv; omega
  | succ f ih =>
    intro x1 y1 y2 y3 hv
    refine w209_8 ⟨by unfold zR; omega, fun c => ?_, fun c => ⟨by omega, ?_, fun e => ih _ (by omega) (by omega) (by omega) ?_, fun e => ?_⟩⟩
    · have e : x1 = 21 := by omega
      subst e
      have e : gfw a 21 0 = -9 := hv.symm
      rw [e]; exact G_ok l rfl
    all_goals
      have st : gfw a (21 - x1).toNat x1 = if gerrs (gh a x1) = 0 then gfw a (21 - (x1 + 1)).toNat (x1 + 1) else x1 := by
        rw [show (21 - x1).toNat = (21 - (x1 + 1)).toNat + 1 by omega]; rfl
      rw [st] at hv
      have v2 := (hf x1 y2 (by omega)).2.1
    · have eb := @gerrs_b (gh a x1)
      rw [v2]; unfold zR; omega
    · rw [v2] at e; rw [if_pos e] at hv; exact hv
    · rw [v2] at e; rw [if_neg e] at hv; rw [← hv]; exact G_ok l rfl
theorem Y_allWrong {x1 : Int} (A : RX Z a) (wx : WX a) (h1 : zR x1) : TI (d + 6) 211 [.inr 100, .inl x1] Z (PostR Z (oq a (gout x1 0 20) (gaw a x1.toNat))) := by
  refine w211_0 (D_206 h1 ⟨zR9 gb3, fun c => ?_, fun c => G_no (QS.refl A) wx rfl (go_n c)⟩)
  have c1 := gout_0.mp c
  refine w210_0 (G_205 (QS.refl A) wx (by omega) fun Z2 l hf _ => ?_)
  suffices H : ∀ (f : Nat) (x3 : Int), x1 + 1 - x3 < f → 1 ≤ x3 → x3 ≤ x1 + 1 → TZ (d + 5) 210 9 [some (.inr 100), some (.inl x1), some (.inl (gaw a (x3 - 1).toNat)), some (.inl x3)] [] Z2 (zri (PostR Z (oq a (gout x1 0 20) (gaw a x1.toNat)))) from H (x1 + 1).toNat 1 (by omega) (by decide) (by omega)
  intro f
  induction f with
  | zero => intro x3 y1 y2 y3; omega
  | succ f ih =>
    intro x3 y1 y2 y3
    refine w210_9 ⟨by unfold zR; omega, by unfold zR; omega, fun _ => ?_, fun _ => ⟨by omega, ?_⟩⟩
    · rw [show x3 - 1 = x1 by omega]; exact G_ok l c
    · have v2 := (hf x3 (by omega) (by omega)).2.1
      have := ih (x3 + 1) (by omega) (by omega) (by omega)
      have e : gaw a (x3 + 1 - 1).toNat = gaw a (x3 - 1).toNat + gerrs (gh a x3) := by
        rw [show (x3 + 1 - 1).toNat = (x3 - 1).toNat + 1 by omega]
        show gaw a (x3 - 1).toNat + gerrs (gh a (((x3 - 1).toNat : Int) + 1)) = _
        rw [show (((x3 - 1).toNat : Nat) : Int) + 1 = x3 by omega]
      rw [e] at this
      rw [v2]; exact this
end
