/-! THE REFERENCE: its own methods, against the same picture -/
def RF (Z : zM) (n W h : Int) (K F P T : Int → Int) : Prop := Z 100 5 = n ∧ Z 100 6 = W ∧ Z 100 7 = h ∧ (∀ b, 0 ≤ b → b < n → Z 103 b = K b ∧ Z 104 b = F b ∧ Z 105 b = P b) ∧ ∀ w, 0 ≤ w → w < 6 → Z 102 w = T w
def fR (S : Nat → Int → Prop) (Z Z' : zM) : Prop := ∀ q p, ¬ S q p → Z' q p = Z q p
theorem fR.refl (S : Nat → Int → Prop) (Z : zM) : fR S Z Z := fun _ _ _ => rfl
theorem fR.trans {S : Nat → Int → Prop} {Z Z1 Z2 : zM} (h1 : fR S Z Z1) (h2 : fR S Z1 Z2) : fR S Z Z2 := fun q p h => (h2 q p h).trans (h1 q p h)
theorem fR.mono {S S' : Nat → Int → Prop} {Z Z' : zM} (h : fR S Z Z') (hs : ∀ q p, S q p → S' q p) : fR S' Z Z' := fun q p hq => h q p fun x => hq (hs q p x)
theorem fR_up {S : Nat → Int → Prop} {k : Nat} {Z : zM} {j x : Int} (h : S k j) : fR S Z (zup Z k j x) := fun q p hq => by
  unfold zup
  by_cases e : q = k
  · rw [if_pos e]
    by_cases e2 : p = j
    · subst e; subst e2; exact absurd h hq
    · rw [if_neg e2]
  · rw [if_neg e]
/-- where all sit, and the HOUR -/
def SH (q : Nat) (p : Int) : Prop := q = 105 ∨ (q = 100 ∧ p = 7)
def SP (q : Nat) (_ : Int) : Prop := q = 105
def rsum (P T : Int → Int) : Nat → Int
  | 0 => 0
  | m + 1 => rsum P T m + (if 0 ≤ P m then T (P m) else 0)
theorem gsum_step {N : Nat} {P T : Int → Int} : ∀ M : Nat, gsum ((N + 1 : Nat) : Int) P T M = gsum (N : Int) P T M + (if 0 ≤ P N ∧ P N < M then T (P N) else 0)
  | 0 => by rw [if_neg (by omega)]; rfl
  | M + 1 => by
    have e1 : (((N + 1 : Nat) : Int)).toNat = N + 1 := by omega
    have e2 : ((N : Int)).toNat = N := by omega
    have ih := gsum_step (N := N) (P := P) (T := T) M
    unfold gsum
    rw [ih, e1, e2]
    have ec : cnt P (M : Int) (N + 1) = cnt P (M : Int) N + (if P (N : Int) = (M : Int) then 1 else 0) := rfl
    rw [ec, Int.mul_add]
    by_cases h : P N = (M : Int)
    · rw [if_pos h, if_neg (by omega), if_pos (by omega), h]; omega
    · rw [if_neg h]
      by_cases h2 : 0 ≤ P N ∧ P N < (M : Int)
      · rw [if_pos h2, if_pos (by omega)]; omega
      · rw [if_neg h2, if_neg (by omega)]; omega
theorem gsum_0 {P T : Int → Int} : ∀ M : Nat, gsum 0 P T M = 0
  | 0 => rfl
  | M + 1 => by
    unfold gsum
    rw [gsum_0 M]
    show 0 + T M * cnt P M 0 = 0
    unfold cnt
    omega
theorem gsum_r {P T : Int → Int} {W : Int} (hW : 0 ≤ W) : ∀ N : Nat, (∀ b, 0 ≤ b → b < (N : Int) → P b < W) → gsum (N : Int) P T W.toNat = rsum P T N
  | 0, _ => gsum_0 _
  | N + 1, h => by
    rw [gsum_step, gsum_r hW N (fun b h1 h2 => h b h1 (by omega)), show rsum P T (N + 1) = rsum P T N + (if 0 ≤ P N then T (P N) else 0) from rfl]
    have := h N (by omega) (by omega)
    by_cases c : 0 ≤ P N
    · rw [if_pos c, if_pos ⟨c, by omega⟩]
    · rw [if_neg c, if_neg (fun x => c x.1)]
section
variable {d : Nat} {Z : zM} {n W h : Int} {K F P T : Int → Int}
theorem R_isIn {x lo hi : Int} {Q : Int → zM → Prop} (hx : zR x) (hl : zR lo) (hh : zR hi) (h1 : lo ≤ x ∧ x ≤ hi → Q 1 Z) (h0 : ¬ (lo ≤ x ∧ x ≤ hi) → Q 0 Z) : TI d 155 [.inl x, .inl lo, .inl hi] Z Q :=
  w155_0 ⟨hx, hl, fun c => h0 (by omega), fun c => ⟨hx, hh, fun c2 => h0 (by omega), fun c2 => h1 (by omega)⟩⟩
theorem R_bound {x lo hi : Int} {Q : Int → zM → Prop} (hx : zR x) (hl : zR lo) (hh : zR hi) (hQ : Q (gout x lo hi) Z) : TI d 156 [.inl x, .inl lo, .inl hi] Z Q := by
  unfold gout at hQ
  refine w156_0 ⟨hx, hl, fun c => ⟨hx, hh, fun c2 => ?_, fun c2 => ?_⟩, fun c => ?_⟩
  · rwa [if_neg (by omega), if_neg (by omega)] at hQ
  · rwa [if_neg (by omega), if_pos (by omega)] at hQ
  · rwa [if_pos (by omega)] at hQ
theorem R_isWire {w : Int} {Q : Int → zM → Prop} (e : Z 100 6 = W) (hW : zR W) (hw : zR w) (h1 : 0 ≤ w ∧ w < W → Q 1 Z) (h0 : ¬ (0 ≤ w ∧ w < W) → Q 0 Z) : TI d 157 [.inr 100, .inl w] Z Q := by
  refine w157_0 ?_
  rw [e]
  exact ⟨hw, fun c => h0 (by omega), fun c => ⟨hw, hW, fun c2 => h0 (by omega), fun c2 => h1 (by omega)⟩⟩
theorem R_isBird {w : Int} {Q : Int → zM → Prop} (e : Z 100 5 = n) (hW : zR n) (hw : zR w) (h1 : 0 ≤ w ∧ w < n → Q 1 Z) (h0 : ¬ (0 ≤ w ∧ w < n) → Q 0 Z) : TI d 158 [.inr 100, .inl w] Z Q := by
  refine w158_0 ?_
  rw [e]
  exact ⟨hw, fun c => h0 (by omega), fun c => ⟨hw, hW, fun c2 => h0 (by omega), fun c2 => h1 (by omega)⟩⟩
/-- all sit somewhere, or nowhere -/
def PB (n : Int) (P : Int → Int) : Prop := (0 ≤ n ∧ n ≤ 8) ∧ ∀ b, 0 ≤ b → b < n → -1 ≤ P b ∧ P b < 6
theorem WF.pb (wf : WF n W h K F P T) : PB n P := ⟨wf.1, fun b h1 h2 => by have := (wf.2.2.2.1 b h1 h2).2.2; have := wf.2.1; omega⟩
theorem R_many {w : Int} {Q : Int → zM → Prop} (A : RF Z n W h K F P T) (hP : PB n P) (hw : zR w) (hQ : Q (cnt P w n.toNat) Z) : TI d 159 [.inr 100, .inl w] Z Q := by
  obtain ⟨e5, e6, e7, eb, ew⟩ := A
  obtain ⟨hn, hp⟩ := hP
  refine w159_0 ?_
  suffices H : ∀ m : Nat, m ≤ n.toNat → TZ d 159 4 [some (.inr 100), some (.inl w), some (.inl (cnt P w m)), some (.inl (m : Int))] [] Z (zri Q) from H 0 (Nat.zero_le _)
  intro m hm
  refine zdown (P := fun m => TZ d 159 4 [some (.inr 100), some (.inl w), some (.inl (cnt P w m)), some (.inl (m : Int))] [] Z (zri Q)) (n := n.toNat) ?_ ?_ m hm
  · exact w159_4 ⟨by unfold zR; omega, by unfold zR; omega, fun _ => hQ, fun c => absurd (show Z 100 5 ≤ (n.toNat : Int) by omega) c⟩
  · intro m hm ih
    have q := (eb m (by omega) (by omega)).2.2
    have b := hp m (by omega) (by omega)
    unfold cnt at ih
    refine w159_4 ⟨by unfold zR; omega, by unfold zR; omega, fun c => absurd c (by omega), fun c => ?_⟩
    rw [q]
    refine ⟨by omega, by unfold zR; omega, hw, fun c2 => ?_, fun c2 => ?_⟩
    · rwa [if_neg c2] at ih
    · rwa [if_pos (by omega)] at ih
theorem R_room {w : Int} {Q : Int → zM → Prop} (A : RF Z n W h K F P T) (hP : PB n P) (hw : zR w) (h1 : cnt P w n.toNat < 4 → Q 1 Z) (h0 : ¬ cnt P w n.toNat < 4 → Q 0 Z) : TI (d + 1) 160 [.inr 100, .inl w] Z Q := by
  have hc := cnt_b P w n.toNat
  have hn := hP.1
  exact w160_0 (R_many A hP hw ⟨by unfold zR; omega, fun c => h0 (by omega), fun c => h1 (by omega)⟩)
theorem rsum_b (hn : 0 ≤ n ∧ n ≤ 8) (hp : ∀ b, 0 ≤ b → b < n → P b < 6) (ht : ∀ w, 0 ≤ w → w < 6 → 0 ≤ T w ∧ T w ≤ 11) : ∀ m : Nat, (m : Int) ≤ n → 0 ≤ rsum P T m ∧ rsum P T m ≤ 11 * m
  | 0, _ => by simp [rsum]
  | m + 1, hm => by
    have ih := rsum_b hn hp ht m (by omega)
    have h1 := hp m (by omega) (by omega)
    unfold rsum
    split
    · next c => have := ht (P m) c h1; omega
    · omega
def rshow (n : Int) (P T : Int → Int) : Int := (rsum P T n.toNat).tmod 12
theorem rshow_b (hP : PB n P) (ht : ∀ w, 0 ≤ w → w < 6 → 0 ≤ T w ∧ T w ≤ 11) : 0 ≤ rshow n P T ∧ rshow n P T < 12 := by
  have b := rsum_b (P := P) hP.1 (fun b h1 h2 => (hP.2 b h1 h2).2) ht n.toNat (by have := hP.1; omega)
  unfold rshow
  rw [Int.tmod_eq_emod_of_nonneg b.1]
  omega
theorem rshow_g (wf : WF n W h K F P T) : rshow n P T = gshow n W P T := by
  have hn := wf.1
  have hW := wf.2.1
  unfold rshow gshow
  have := gsum_r (P := P) (T := T) (W := W) (by omega) n.toNat (fun b h1 h2 => (wf.2.2.2.1 b h1 (by omega)).2.2.2)
  rw [show ((n.toNat : Nat) : Int) = n by omega] at this
  rw [this]
theorem R_shown0 {Q : Int → zM → Prop} (A : RF Z n W h K F P T) (hP : PB n P) (ht : ∀ w, 0 ≤ w → w < 6 → 0 ≤ T w ∧ T w ≤ 11) (hQ : Q (rshow n P T) Z) : TI d 161 [.inr 100] Z Q := by
  obtain ⟨e5, e6, e7, eb, ew⟩ := A
  obtain ⟨hn, hp⟩ := hP
  refine w161_0 ?_
  suffices H : ∀ m : Nat, m ≤ n.toNat → TZ d 161 4 [some (.inr 100), some (.inl (rsum P T m)), some (.inl (m : Int))] [] Z (zri Q) from H 0 (Nat.zero_le _)
  intro m hm
  refine zdown (P := fun m => TZ d 161 4 [some (.inr 100), some (.inl (rsum P T m)), some (.inl (m : Int))] [] Z (zri Q)) (n := n.toNat) ?_ ?_ m hm
  · have b := rsum_b (P := P) hn (fun b h1 h2 => (hp b h1 h2).2) ht n.toNat (by omega)
    exact w161_4 ⟨by unfold zR; omega, by unfold zR; omega, fun _ => ⟨by unfold zR; omega, hQ⟩, fun c => absurd (show Z 100 5 ≤ (n.toNat : Int) by omega) c⟩
  · intro m hm ih
    have q := (eb m (by omega) (by omega)).2.2
    have b := hp m (by omega) (by omega)
    unfold rsum at ih
    refine w161_4 ⟨by unfold zR; omega, by unfold zR; omega, fun c => absurd c (by omega), fun c => ?_⟩
    rw [q]
    refine ⟨by omega, by unfold zR; omega, fun c2 => ⟨by omega, by omega, ?_⟩, fun c2 => ?_⟩
    · rw [ew (P m) c2 (by omega)]
      rwa [if_pos c2] at ih
    · rwa [if_neg c2] at ih
theorem R_shown {Q : Int → zM → Prop} (A : RF Z n W h K F P T) (wf : WF n W h K F P T) (hQ : Q (gshow n W P T) Z) : TI d 161 [.inr 100] Z Q :=
  R_shown0 A wf.pb wf.2.2.2.2 (by rw [rshow_g wf]; exact hQ)
theorem R_wrong0 {Q : Int → zM → Prop} (A : RF Z n W h K F P T) (hP : PB n P) (ht : ∀ w, 0 ≤ w → w < 6 → 0 ≤ T w ∧ T w ≤ 11) (hh : 0 ≤ h ∧ h ≤ 1000000) (hQ : Q (gapart (rshow n P T) h) Z) : TI (d + 1) 162 [.inr 100] Z Q := by
  have b := rshow_b hP ht
  refine w162_0 (R_shown0 A hP ht ?_)
  rw [A.2.2.1]
  have m1 : h.tmod 12 = h % 12 := Int.tmod_eq_emod_of_nonneg hh.1
  rw [m1]
  unfold gapart at hQ
  refine ⟨by unfold zR; omega, by unfold zR; omega, fun c => ⟨by unfold zR; omega, fun c2 => ?_, fun c2 => ?_⟩, fun c => ⟨by unfold zR; omega, fun c2 => ?_, fun c2 => ?_⟩⟩
  · rwa [show min ((rshow n P T - h) % 12) (12 - (rshow n P T - h) % 12) = rshow n P T - h % 12 by omega] at hQ
  · rwa [show min ((rshow n P T - h) % 12) (12 - (rshow n P T - h) % 12) = 12 - (rshow n P T - h % 12) by omega] at hQ
  · rwa [show min ((rshow n P T - h) % 12) (12 - (rshow n P T - h) % 12) = -(rshow n P T - h % 12) by omega] at hQ
  · rwa [show min ((rshow n P T - h) % 12) (12 - (rshow n P T - h) % 12) = 12 - -(rshow n P T - h % 12) by omega] at hQ
theorem R_wrong {Q : Int → zM → Prop} (A : RF Z n W h K F P T) (wf : WF n W h K F P T) (hQ : Q (gapart (gshow n W P T) h) Z) : TI (d + 1) 162 [.inr 100] Z Q :=
  R_wrong0 A wf.pb wf.2.2.2.2 wf.2.2.1 (by rw [rshow_g wf]; exact hQ)
theorem R_far {x y : Int} {Q : Int → zM → Prop} (hx : zR x) (hy : zR y) (hQ : Q (if y ≤ x then x - y else y - x) Z) : TI d 182 [.inl x, .inl y] Z Q :=
  w182_0 ⟨hx, hy, fun c => by rwa [if_pos c] at hQ, fun c => by rwa [if_neg c] at hQ⟩
theorem R_lesser {x y : Int} {Q : Int → zM → Prop} (hx : zR x) (hy : zR y) (hQ : Q (min x y) Z) : TI d 183 [.inl x, .inl y] Z Q :=
  w183_0 ⟨hx, hy, fun c => by rwa [Int.min_eq_right c] at hQ, fun c => by rwa [Int.min_eq_left (by omega)] at hQ⟩
theorem R_near {own fl : Int} {Q : Int → zM → Prop} (ho : zR own) (hf : -1 ≤ fl ∧ zR fl) (hQ : Q (gnear own fl) Z) : TI d 184 [.inl own, .inl fl] Z Q := by
  unfold gnear at hQ
  refine w184_0 ⟨hf.2, fun a => by rwa [if_pos (Or.inl (by omega))] at hQ, fun a => ⟨hf.2, ho, fun b => ⟨hf.2, ho, fun c => ?_, fun c => ?_⟩, fun b => ?_⟩⟩
  · rwa [if_neg (by omega), if_pos c] at hQ
  · rwa [if_neg (by omega), if_neg c] at hQ
  · rwa [if_pos (Or.inr (by omega))] at hQ
theorem R_young {b fl : Int} {Q : Int → zM → Prop} (A : RF Z n W h K F P T) (wf : WF n W h K F P T) (hb : 0 ≤ b ∧ b < n) (hf : -1 ≤ fl ∧ fl < W) (hQ : Q (gyoung F h b (gnear (P b) fl)) Z) : TI (d + 1) 185 [.inr 100, .inl b, .inl fl] Z Q := by
  obtain ⟨e5, e6, e7, eb, ew⟩ := A
  obtain ⟨hn, hW, hh, wb, ww⟩ := wf
  have q := eb b hb.1 hb.2
  have q' := wb b hb.1 hb.2
  have m := ztm3 (h + F b)
  have g := gnear_b q'.2.2 hf
  refine w185_0 ?_
  rw [q.2.2]
  refine ⟨by omega, R_near (by unfold zR; omega) ⟨hf.1, by unfold zR; omega⟩ ?_⟩
  rw [e7, q.2.1]
  unfold gyoung at hQ
  refine ⟨by omega, by unfold zR; omega, by unfold zR; omega, fun a => ?_, fun a => ⟨by unfold zR; omega, fun c => ?_, fun c => ?_⟩⟩
  · rwa [if_neg a] at hQ
  · rwa [if_pos (by omega), show max 0 (gnear (P b) fl - 1) = gnear (P b) fl by omega] at hQ
  · rwa [if_pos (by omega), show max 0 (gnear (P b) fl - 1) = gnear (P b) fl - 1 by omega] at hQ
theorem R_old {b fl : Int} {Q : Int → zM → Prop} (A : RF Z n W h K F P T) (wf : WF n W h K F P T) (hb : 0 ≤ b ∧ b < n) (hf : -1 ≤ fl ∧ fl < W) (hQ : Q (gold (P b) fl (gnear (P b) fl)) Z) : TI (d + 1) 186 [.inr 100, .inl b, .inl fl] Z Q := by
  obtain ⟨e5, e6, e7, eb, ew⟩ := A
  obtain ⟨hn, hW, hh, wb, ww⟩ := wf
  have q := eb b hb.1 hb.2
  have q' := wb b hb.1 hb.2
  unfold gold at hQ
  refine w186_0 ?_
  rw [q.2.2]
  refine ⟨by unfold zR; omega, fun c => ⟨by omega, R_near (by unfold zR; omega) ⟨hf.1, by unfold zR; omega⟩ ?_⟩, fun c => ⟨by omega, R_far (by unfold zR; omega) (by unfold zR; omega) ?_⟩⟩
  · rwa [if_neg (by omega)] at hQ
  · rw [q.2.2]
    refine ⟨by unfold zR; split <;> omega, fun c2 => ⟨by omega, R_near (by unfold zR; omega) ⟨hf.1, by unfold zR; omega⟩ ?_⟩, fun c2 => ⟨by omega, ?_⟩⟩
    · rwa [if_neg (by split at c2 <;> omega)] at hQ
    · rwa [if_pos (by split at c2 <;> omega)] at hQ
theorem R_want {b fl : Int} {Q : Int → zM → Prop} (A : RF Z n W h K F P T) (wf : WF n W h K F P T) (hb : 0 ≤ b ∧ b < n) (hf : -1 ≤ fl ∧ fl < W) (hQ : Q (gwant n h K F P b fl) Z) : TI (d + 2) 187 [.inr 100, .inl b, .inl fl] Z Q := by
  have A0 := A
  have wf0 := wf
  obtain ⟨e5, e6, e7, eb, ew⟩ := A
  obtain ⟨hn, hW, hh, wb, ww⟩ := wf
  have q := eb b hb.1 hb.2
  have q' := wb b hb.1 hb.2
  have m1 := gnear_b q'.2.2 hf
  have m2 := gold_b (fl := fl) q'.2.2 m1
  have m4 : 0 ≤ (F b).tdiv 3 ∧ (F b).tdiv 3 ≤ 3 := by
    rw [Int.tdiv_eq_ediv_of_nonneg q'.2.1.1]; omega
  have hc := cnt_b P (P b) n.toNat
  unfold gwant at hQ
  refine w187_0 ?_
  rw [q.1, q.2.2]
  refine ⟨by omega, by unfold zR; omega, fun c => ?_, fun c => ?_, fun c => ?_, fun c => ?_, fun c => ?_, fun c => ?_⟩
  · rw [if_pos c] at hQ
    exact R_young A0 wf0 hb hf hQ
  · rw [if_neg (by omega), if_pos c] at hQ
    exact R_old A0 wf0 hb hf hQ
  · rw [if_neg (by omega), if_neg (by omega), if_pos c] at hQ
    refine ⟨by unfold zR; omega, fun x => ?_, fun x => ⟨by omega, R_far (by unfold zR; omega) (by unfold zR; omega) ?_⟩⟩
    · rw [if_neg (fun y => by rw [greachb_iff] at y; exact y.1 (by omega))] at hQ
      exact R_young A0 wf0 hb hf hQ
    · rw [q.2.1]
      refine ⟨by omega, by unfold zR; split <;> omega, by unfold zR; omega, fun y => ?_, fun y => ?_⟩
      · rw [if_neg (fun z => by rw [greachb_iff] at z; unfold greach at z; split at y <;> omega)] at hQ
        exact R_young A0 wf0 hb hf hQ
      · rwa [if_pos (by rw [greachb_iff]; unfold greach; split at y <;> omega)] at hQ
  · rw [if_neg (by omega), if_neg (by omega), if_neg (by omega), if_pos c] at hQ
    refine ⟨by omega, R_many A0 wf0.pb (by unfold zR; omega) ⟨by unfold zR; omega, fun r => ?_, fun r => ⟨by omega, ?_⟩⟩⟩
    · rw [if_neg r] at hQ
      exact R_old A0 wf0 hb hf hQ
    · rw [if_pos (by omega)] at hQ
      rw [q.2.2]
      exact R_near (by unfold zR; omega) ⟨hf.1, by unfold zR; omega⟩ hQ
  · rw [if_neg (by omega), if_neg (by omega), if_neg (by omega), if_neg (by omega), if_pos c] at hQ
    refine R_old A0 wf0 hb hf ?_
    rw [q.2.1]
    exact ⟨by omega, by unfold zR; omega, R_lesser (by unfold zR; omega) (by unfold zR; omega) hQ⟩
  · rw [if_neg (by omega), if_neg (by omega), if_neg (by omega), if_neg (by omega), if_neg (by omega)] at hQ
    exact ⟨by omega, R_near (by unfold zR; omega) ⟨hf.1, by unfold zR; omega⟩ hQ⟩
theorem RF.sit {b x : Int} (A : RF Z n W h K F P T) (hb : 0 ≤ b) : RF (zup Z 105 b x) n W h K F (gup P b x) T := by
  obtain ⟨e5, e6, e7, eb, ew⟩ := A
  refine ⟨by simp [zup, e5], by simp [zup, e6], by simp [zup, e7], fun c h1 h2 => ?_, fun w h1 h2 => by simp [zup, ew w h1 h2]⟩
  obtain ⟨q1, q2, q3⟩ := eb c h1 h2
  refine ⟨by simp [zup, q1], by simp [zup, q2], ?_⟩
  by_cases e : c = b
  · subst e; simp [zup, gup]
  · simp [zup, gup, e, q3]
theorem R_goes1 {fl : Int} {Q : Int → zM → Prop} (A : RF Z n W h K F P T) (wf : WF n W h K F P T) (hf : -1 ≤ fl ∧ fl < W) (hh : h < 1000000) (hQ : ∀ Z', RF Z' n W (h + 1) K F (gP n W h K F P fl n.toNat).1 T → fR SH Z Z' → Q (gP n W h K F P fl n.toNat).2 Z') : TI (d + 3) 188 [.inr 100, .inl fl] Z Q := by
  obtain ⟨hn, hW, hh0, wb, ww⟩ := id wf
  refine w188_0 ?_
  suffices H : ∀ m : Nat, m ≤ n.toNat → ∀ (Z1 : zM) (o4 : Option zV), RF Z1 n W h K F (gP n W h K F P fl m).1 T → fR SH Z Z1 → TZ (d + 3) 188 4 [some (.inr 100), some (.inl fl), some (.inl (gP n W h K F P fl m).2), some (.inl (m : Int)), o4] [] Z1 (zri Q) by
    exact H 0 (Nat.zero_le _) Z none A (fR.refl _ _)
  intro m hm
  refine zdown (P := fun m => ∀ (Z1 : zM) (o4 : Option zV), RF Z1 n W h K F (gP n W h K F P fl m).1 T → fR SH Z Z1 → TZ (d + 3) 188 4 [some (.inr 100), some (.inl fl), some (.inl (gP n W h K F P fl m).2), some (.inl (m : Int)), o4] [] Z1 (zri Q)) (n := n.toNat) ?_ ?_ m hm
  · intro Z1 o4 A1 f1
    obtain ⟨e5, e6, e7, eb, ew⟩ := A1
    refine w188_4 ⟨by unfold zR; omega, by unfold zR; omega, fun c Z2 z2 => hQ Z2 ?_ ?_, fun c => absurd (show Z1 100 5 ≤ (n.toNat : Int) by omega) c⟩
    · subst z2
      rw [e7]
      exact ⟨by simp [zup, e5], by simp [zup, e6], by simp [zup], fun b h1 h2 => by simpa [zup] using eb b h1 h2, fun w h1 h2 => by simpa [zup] using ew w h1 h2⟩
    · subst z2
      exact f1.trans (fR_up (Or.inr ⟨rfl, rfl⟩))
  · intro m hm ih Z1 o4 A1 f1
    have wf1 := gP_wf wf hf m (by omega)
    have A1' := A1
    obtain ⟨e5, e6, e7, eb, ew⟩ := A1
    have hw := gwant_b (b := m) wf1 (by omega) hf
    have e3 := (eb m (by omega) (by omega)).2.2
    have b3 := (wf1.2.2.2.1 m (by omega) (by omega)).2.2
    refine w188_4 ⟨by unfold zR; omega, by unfold zR; omega, fun c => absurd c (by omega), fun c => ?_⟩
    refine R_want A1' wf1 (by omega) hf ?_
    rw [e3]
    unfold gP at ih
    dsimp only at ih
    refine ⟨by omega, by unfold zR; omega, by unfold zR; omega, fun r => ?_, fun r => ?_⟩
    · rw [if_neg (fun x => x.1 r)] at ih
      exact ih Z1 _ A1' f1
    · refine R_room A1' wf1.pb (by unfold zR; omega) (fun x => ?_) (fun x => ?_)
      · rw [if_pos ⟨r, roomb_iff.mpr ⟨hw.1, hw.2, x⟩⟩] at ih
        refine ⟨by decide, fun _ => ⟨by omega, fun Z2 z2 => ?_⟩, fun y => absurd (show (1 : Int) ≠ 0 by decide) y⟩
        subst z2
        exact ih _ _ (A1'.sit (by omega)) (f1.trans (fR_up (Or.inl rfl)))
      · rw [if_neg (fun y => x (roomb_iff.mp y.2).2.2)] at ih
        exact ⟨by decide, fun y => absurd rfl y, fun _ => ih Z1 _ A1' f1⟩
end
