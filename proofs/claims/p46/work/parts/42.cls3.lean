/-! THE CLASS: what is SHOWN, WRONG; birds that come, flocks that become others -/
theorem cnt3 {P : Int → Int} {a b c : Int} (h1 : a ≠ b) (h2 : a ≠ c) (h3 : b ≠ c) : ∀ m : Nat, cnt P a m + cnt P b m + cnt P c m ≤ m
  | 0 => by simp [cnt]
  | m + 1 => by
    have := cnt3 h1 h2 h3 (P := P) m
    have c1 : ((m + 1 : Nat) : Int) = (m : Int) + 1 := by omega
    rw [c1]
    unfold cnt
    repeat' split
    all_goals omega
theorem gsum_b {n : Int} {P T : Int → Int} (hn : 0 ≤ n ∧ n ≤ 8) (ht : ∀ w, 0 ≤ w → w < 6 → 0 ≤ T w ∧ T w ≤ 11) : ∀ m : Nat, m ≤ 6 → 0 ≤ gsum n P T m ∧ gsum n P T m ≤ 88 * m
  | 0, _ => by simp [gsum]
  | m + 1, hm => by
    have ih := gsum_b hn ht (P := P) m (by omega)
    have h1 := ht m (by omega) (by omega)
    have h2 := cnt_b P (m : Int) n.toNat
    unfold gsum
    have h3 : 0 ≤ T m * cnt P m n.toNat := Int.mul_nonneg h1.1 h2.1
    have h4 : T m * cnt P m n.toNat ≤ 11 * 8 := Int.mul_le_mul h1.2 (by omega) h2.1 (by decide)
    omega
theorem gshow_b {n W h : Int} {K F P T : Int → Int} (wf : WF n W h K F P T) : 0 ≤ gshow n W P T ∧ gshow n W P T < 12 := by
  obtain ⟨hn, hW, hh, wb, ww⟩ := wf
  have := gsum_b (P := P) hn ww W.toNat (by omega)
  unfold gshow
  rw [Int.tmod_eq_emod_of_nonneg this.1]
  omega
theorem zxor_sign {x y : Int} (hx : zR x) (hy : 0 ≤ y ∧ y ≤ 2147483647) : 0 ≤ zbit 5 x y ↔ 0 ≤ x := by
  have e : zbit 5 x y = (Int32.ofInt x ^^^ Int32.ofInt y).toInt := rfl
  rw [e]
  have ex := zoi hx
  have ey := zoi (x := y) ⟨by omega, by omega⟩
  have h1 : ∀ z : Int32, z.toBitVec.msb = decide (z.toInt < 0) := fun z => BitVec.msb_eq_toInt
  have h2 : (Int32.ofInt x ^^^ Int32.ofInt y).toBitVec.msb = ((Int32.ofInt x).toBitVec.msb ^^ (Int32.ofInt y).toBitVec.msb) := by
    rw [Int32.toBitVec_xor, BitVec.msb_xor]
  rw [h1, h1, h1, ex, ey] at h2
  have h3 : decide (y < 0) = false := decide_eq_false (by omega)
  rw [h3] at h2
  simp only [Bool.xor_false, decide_eq_decide] at h2
  omega
section
variable {d k : Nat} {Z : zM} {n W h : Int} {K F P T : Int → Int}
theorem C_fmod {x : Int} {Q : Int → zM → Prop} (hx : zR x) (hQ : Q (x % 12) Z) : TI d 2 [.inl x, .inl 12] Z Q := by
  have hs := zxor_sign hx (y := 12) (by omega)
  have h1 := Int.tmod_lt_of_pos x (show (0 : Int) < 12 by decide)
  have h2 := Int.lt_tmod_of_pos x (show (0 : Int) < 12 by decide)
  have h3 : x % 12 = if 0 ≤ x then x.tmod 12 else if x.tmod 12 = 0 then 0 else x.tmod 12 + 12 := by
    split
    · next h => rw [Int.tmod_eq_emod_of_nonneg h]
    · next h =>
      rw [Int.tmod_eq_emod]
      split <;> omega
  rw [h3] at hQ
  refine w2_0 ⟨hx, by omega, zbit_r _ _ _, fun c => ?_, fun c => ⟨by unfold zR; omega, fun c2 => ?_, fun c2 => ?_⟩⟩
  · rwa [if_pos (hs.mp c)] at hQ
  · rw [if_neg (fun y => c (hs.mpr y)), if_pos c2] at hQ; rwa [c2]
  · rwa [if_neg (fun y => c (hs.mpr y)), if_neg c2] at hQ
theorem C_apart {s x : Int} {Q : Int → zM → Prop} (hx : zR (s - x)) (hQ : Q (gapart s x) Z) : TI (d + 1) 152 [.inl s, .inl x] Z Q :=
  w152_0 (C_fmod hx ⟨by unfold zR; omega, by unfold zR; omega, hQ⟩)
theorem C_shows {Q : Int → zM → Prop} (hk : k ∈ zFl) (A : CF k Z n W h K F P T) (wf : WF n W h K F P T) (hQ : Q (gshow n W P T) Z) : TI d 22 [.inr k] Z Q := by
  obtain ⟨e5, e6, e7, eb, ew⟩ := A
  obtain ⟨hn, hW, hh, wb, ww⟩ := wf
  refine w22_0 hk ?_
  suffices H : ∀ m : Nat, m ≤ W.toNat → TZ d 22 4 [some (.inr k), some (.inl (gsum n P T m)), some (.inl (m : Int))] [] Z (zri Q) from H 0 (Nat.zero_le _)
  intro m hm
  refine zdown (P := fun m => TZ d 22 4 [some (.inr k), some (.inl (gsum n P T m)), some (.inl (m : Int))] [] Z (zri Q)) (n := W.toNat) ?_ ?_ m hm
  · have b := gsum_b (P := P) hn ww W.toNat (by omega)
    exact w22_4 hk ⟨by unfold zR; omega, by unfold zR; omega, fun c => ⟨by unfold zR; omega, hQ⟩, fun c => absurd (show Z k 6 ≤ (W.toNat : Int) by omega) c⟩
  · intro m hm ih
    refine w22_4 hk ⟨by unfold zR; omega, by unfold zR; omega, fun c => absurd c (by omega), fun c => ⟨by omega, by omega, ?_⟩⟩
    rw [(ew m (by omega) (by omega)).1, (ew m (by omega) (by omega)).2]
    exact ih
theorem C_errs {Q : Int → zM → Prop} (hk : k ∈ zFl) (A : CF k Z n W h K F P T) (wf : WF n W h K F P T) (hQ : Q (gapart (gshow n W P T) h) Z) : TI (d + 2) 23 [.inr k] Z Q := by
  have b := gshow_b wf
  have hh := wf.2.2.1
  refine w23_0 hk (C_shows hk A wf ?_)
  rw [A.2.2.1]
  exact C_apart (by unfold zR; omega) hQ
theorem C_satOn {Q : Int → zM → Prop} (hk : k ∈ zFl) (A : CF k Z n W h K F P T) (wf : WF n W h K F P T) (hQ : Q (gchord n P W.toNat) Z) : TI d 24 [.inr k] Z Q := by
  obtain ⟨e5, e6, e7, eb, ew⟩ := A
  obtain ⟨hn, hW, hh, wb, ww⟩ := wf
  refine w24_0 hk ?_
  suffices H : ∀ m : Nat, m ≤ W.toNat → TZ d 24 4 [some (.inr k), some (.inl (gchord n P m)), some (.inl (m : Int))] [] Z (zri Q) from H 0 (Nat.zero_le _)
  intro m hm
  refine zdown (P := fun m => TZ d 24 4 [some (.inr k), some (.inl (gchord n P m)), some (.inl (m : Int))] [] Z (zri Q)) (n := W.toNat) ?_ ?_ m hm
  · exact w24_4 hk ⟨by unfold zR; omega, by unfold zR; omega, fun c => hQ, fun c => absurd (show Z k 6 ≤ (W.toNat : Int) by omega) c⟩
  · intro m hm ih
    have hc := cnt_b P (m : Int) n.toNat
    refine w24_4 hk ⟨by unfold zR; omega, by unfold zR; omega, fun c => absurd c (by omega), fun c => ⟨by omega, ?_⟩⟩
    rw [(ew m (by omega) (by omega)).2]
    unfold gchord at ih
    refine ⟨by unfold zR; omega, fun c2 => ?_, fun c2 => ?_⟩
    · rwa [if_pos c2] at ih
    · rwa [if_neg c2] at ih
theorem C_isWire {w : Int} {Q : Int → zM → Prop} (hk : k ∈ zFl) (hw : zR w) (hW : zR (Z k 6)) (h1 : 0 ≤ w ∧ w < Z k 6 → Q 1 Z) (h0 : ¬ (0 ≤ w ∧ w < Z k 6) → Q 0 Z) : TI d 15 [.inr k, .inl w] Z Q :=
  w15_0 hk ⟨hw, fun c => h0 (by omega), fun c => ⟨hw, hW, fun c2 => h0 (by omega), fun c2 => h1 (by omega)⟩⟩
theorem C_isBird {w : Int} {Q : Int → zM → Prop} (hk : k ∈ zFl) (hw : zR w) (hW : zR (Z k 5)) (h1 : 0 ≤ w ∧ w < Z k 5 → Q 1 Z) (h0 : ¬ (0 ≤ w ∧ w < Z k 5) → Q 0 Z) : TI d 16 [.inr k, .inl w] Z Q :=
  w16_0 hk ⟨hw, fun c => h0 (by omega), fun c => ⟨hw, hW, fun c2 => h0 (by omega), fun c2 => h1 (by omega)⟩⟩
theorem C_sitAs {k2 : Nat} {h' : Int} {P' : Int → Int} {Q : zM → Prop} (hk : k ∈ zFl) (hk2 : k2 ∈ zFl) (hne : k2 + 5 < k ∨ k + 5 < k2) (A : Z k 5 = n ∧ Z k 6 = W ∧ (∀ b, 0 ≤ b → b < n → Z (k + 1) b = K b ∧ Z (k + 2) b = F b) ∧ (∀ w, 0 ≤ w → w < 6 → Z (k + 5) w = T w)) (B : CF k2 Z n W h' K F P' T) (hn : n ≤ 8) (hQ : ∀ Z', CF k Z' n W h' K F P' T → fr k Z Z' → Q Z') : TV (d + 1) 13 [.inr k, .inr k2] Z Q := by
  obtain ⟨e5, e6, eb, ew⟩ := A
  obtain ⟨g5, g6, g7, gb, gw⟩ := B
  refine w13_0 hk hk2 fun Z1 z1 Z2 z2 Z3 z3 => hQ Z3 ?_ ?_
  · subst z1; subst z2; subst z3
    have n1 : ¬ k2 = k := by omega
    have n2 : ¬ k2 = k + 3 := by omega
    have n3 : ¬ k2 = k + 4 := by omega
    have n4 : ¬ k2 + 4 = k + 3 := by omega
    refine ⟨by simp [zup, zcpy, e5], by simp [zup, zcpy, e6], by simp [zup, zcpy, n2, n3, g7], fun b h1 h2 => ?_, fun w h1 h2 => ?_⟩
    · have q := eb b h1 h2
      have q2 := gb b h1 h2
      exact ⟨by simp [zup, zcpy, q.1], by simp [zup, zcpy, q.2], by simp [zup, zcpy, q2.2.2, h1, show b < 8 by omega]⟩
    · exact ⟨by simp [zup, zcpy, ew w h1 h2], by simp [zup, zcpy, n4, (gw w h1 h2).2, h1, h2]⟩
  · subst z1; subst z2; subst z3
    intro q hq
    funext p
    have n1 : ¬ q = k := by omega
    have n2 : ¬ q = k + 3 := by omega
    have n3 : ¬ q = k + 4 := by omega
    simp [zup, zcpy, n1, n2, n3]
theorem CF.keep {Z' : zM} (A : CF k Z n W h K F P T) (hq : ∀ q, k ≤ q → q ≤ k + 5 → Z' q = Z q) : CF k Z' n W h K F P T := by
  unfold CF
  rw [hq k (by omega) (by omega), hq (k + 1) (by omega) (by omega), hq (k + 2) (by omega) (by omega), hq (k + 3) (by omega) (by omega), hq (k + 4) (by omega) (by omega), hq (k + 5) (by omega) (by omega)]
  exact A
theorem C_become {k2 : Nat} {Q : zM → Prop} (hk : k ∈ zFl) (hk2 : k2 ∈ zFl) (hne : k2 + 5 < k ∨ k + 5 < k2) (B : CF k2 Z n W h K F P T) (hn : n ≤ 8) (hQ : ∀ Z', CF k Z' n W h K F P T → fr k Z Z' → Q Z') : TV (d + 2) 12 [.inr k, .inr k2] Z Q := by
  obtain ⟨g5, g6, g7, gb, gw⟩ := B
  refine w12_0 hk hk2 fun Z1 z1 Z2 z2 Z3 z3 Z4 z4 Z5 z5 => ?_
  have n1 : ¬ k2 = k := by omega
  have n2 : ¬ k2 = k + 1 := by omega
  have n3 : ¬ k2 = k + 2 := by omega
  have n4 : ¬ k2 = k + 5 := by omega
  have n5 : ¬ k2 + 2 = k + 1 := by omega
  have n6 : ¬ k2 + 5 = k + 1 := by omega
  have n7 : ¬ k2 + 5 = k + 2 := by omega
  have f5 : fr k Z Z5 := by
    subst z1; subst z2; subst z3; subst z4; subst z5
    intro q hq
    funext p
    have a1 : ¬ q = k := by omega
    have a2 : ¬ q = k + 1 := by omega
    have a3 : ¬ q = k + 2 := by omega
    have a4 : ¬ q = k + 5 := by omega
    simp [zup, zcpy, a1, a2, a3, a4]
  have B5 : CF k2 Z5 n W h K F P T := CF.keep ⟨g5, g6, g7, gb, gw⟩ fun q h1 h2 => f5 q (by omega)
  refine C_sitAs (K := K) (F := F) (T := T) (n := n) (W := W) hk hk2 hne ⟨?_, ?_, ?_, ?_⟩ B5 hn fun Z' C' f' => hQ Z' C' (fr.trans f5 f')
  · subst z1; subst z2; subst z3; subst z4; subst z5
    simp [zup, zcpy, n1, n2, n3, n4, g5]
  · subst z1; subst z2; subst z3; subst z4; subst z5
    simp [zup, zcpy, n1, n2, n3, n4, g6]
  · subst z1; subst z2; subst z3; subst z4; subst z5
    intro b h1 h2
    obtain ⟨q1, q2, q3⟩ := gb b h1 h2
    exact ⟨by simp [zup, zcpy, q1, h1, show b < 8 by omega], by simp [zup, zcpy, n5, q2, h1, show b < 8 by omega]⟩
  · subst z1; subst z2; subst z3; subst z4; subst z5
    intro w h1 h2
    simp [zup, zcpy, n6, n7, (gw w h1 h2).1, h1, h2]
theorem C_sitsAs {k2 : Nat} {h2 : Int} {P2 : Int → Int} {Q : Int → zM → Prop} (hk : k ∈ zFl) (hk2 : k2 ∈ zFl) (A : CF k Z n W h K F P T) (B : CF k2 Z n W h2 K F P2 T) (wf : WF n W h K F P T) (wf2 : WF n W h2 K F P2 T) (h1 : (∀ b, 0 ≤ b → b < n → P b = P2 b) → Q 1 Z) (h0 : ¬ (∀ b, 0 ≤ b → b < n → P b = P2 b) → Q 0 Z) : TI d 14 [.inr k, .inr k2] Z Q := by
  obtain ⟨e5, e6, e7, eb, ew⟩ := A
  obtain ⟨hn, hW, hh, wb, ww⟩ := wf
  refine w14_0 hk hk2 ?_
  suffices H : ∀ m : Nat, m ≤ n.toNat → (∀ b, 0 ≤ b → b < (m : Int) → P b = P2 b) → TZ d 14 2 [some (.inr k), some (.inr k2), some (.inl (m : Int))] [] Z (zri Q) from H 0 (Nat.zero_le _) (fun b _ _ => by omega)
  intro m hm
  refine zdown (P := fun m => (∀ b, 0 ≤ b → b < (m : Int) → P b = P2 b) → TZ d 14 2 [some (.inr k), some (.inr k2), some (.inl (m : Int))] [] Z (zri Q)) (n := n.toNat) ?_ ?_ m hm
  · intro hb
    exact w14_2 hk hk2 ⟨by unfold zR; omega, by unfold zR; omega, fun c => h1 fun b x y => hb b x (by omega), fun c => absurd (show Z k 5 ≤ (n.toNat : Int) by omega) c⟩
  · intro m hm ih hb
    have q := eb m (by omega) (by omega)
    have q2 := B.2.2.2.1 m (by omega) (by omega)
    have b1 := (wb m (by omega) (by omega)).2.2
    have b2 := (wf2.2.2.2.1 m (by omega) (by omega)).2.2
    refine w14_2 hk hk2 ⟨by unfold zR; omega, by unfold zR; omega, fun c => absurd c (by omega), fun c => ⟨by omega, by omega, by unfold zR; omega, by unfold zR; omega, fun c2 => ih fun b x y => ?_, fun c2 => h0 fun x => c2 ?_⟩⟩
    · by_cases e : b = m
      · subst e; omega
      · exact hb b x (by omega)
    · have := x m (by omega) (by omega); omega
theorem C_add {kd fg w : Int} {Q : Int → zM → Prop} (hk : k ∈ zFl) (A : CF k Z n W h K F P T) (wf : WF n W h K F P T) (hn8 : n < 8) (hr : room P n W w) (hQ : ∀ Z', CF k Z' (n + 1) W h (gup K n kd) (gup F n fg) (gup P n w) T → fr k Z Z' → Q n Z') : TI (d + 1) 18 [.inr k, .inl kd, .inl fg, .inl w] Z Q := by
  have A0 := A
  obtain ⟨e5, e6, e7, eb, ew⟩ := A
  obtain ⟨hn, hW, hh, wb, ww⟩ := id wf
  obtain ⟨r1, r2, r3⟩ := id hr
  refine w18_0 hk ?_
  rw [e5]
  refine ⟨by unfold zR; omega, fun c => absurd c (by omega), fun c => C_room hk A0 wf (by unfold zR; omega) (fun _ => ?_) (fun x => absurd hr x)⟩
  refine ⟨by decide, fun x => absurd x (by decide), fun _ => ⟨by omega, fun Z1 z1 => ⟨by omega, fun Z2 z2 => ⟨by omega, fun Z3 z3 => ⟨by omega, by omega, fun Z4 z4 Z5 z5 => hQ Z5 ?_ ?_⟩⟩⟩⟩⟩
  · subst z1; subst z2; subst z3; subst z4; subst z5
    refine ⟨by simp [zup, e5], by simp [zup, e6], by simp [zup, e7], fun b h1 h2 => ?_, fun v h1 h2 => ?_⟩
    · by_cases e : b = n
      · subst e
        simp [zup, gup]
      · obtain ⟨q1, q2, q3⟩ := eb b h1 (by omega)
        exact ⟨by simp [zup, gup, e, q1], by simp [zup, gup, e, q2], by simp [zup, gup, e, q3]⟩
    · obtain ⟨q1, q2⟩ := ew v h1 h2
      refine ⟨by simp [zup, q1], ?_⟩
      have c1 : (n + 1).toNat = n.toNat + 1 := by omega
      have c2 : (n.toNat : Int) = n := by omega
      rw [c1]
      unfold cnt
      rw [c2, gup_same, cnt_up hn.1, if_neg (by omega)]
      by_cases e : w = v
      · subst e; simp [zup]; omega
      · have e' : ¬ v = w := fun x => e x.symm
        simp [zup, e, e']; omega
  · subst z1; subst z2; subst z3; subst z4; subst z5
    exact fr.trans (fr.trans (fr.trans (fr.trans (fr_up (by omega)) (fr_up (by omega))) (fr_up (by omega))) (fr_up (by omega))) (fr_up (by omega))
theorem gadd_wf {kd fg w : Int} (wf : WF n W h K F P T) (hn8 : n < 8) (hr : 0 ≤ w ∧ w < W) (hk : 0 ≤ kd ∧ kd ≤ 5) (hf : 0 ≤ fg ∧ fg ≤ 9) : WF (n + 1) W h (gup K n kd) (gup F n fg) (gup P n w) T := by
  obtain ⟨hn, hW, hh, wb, ww⟩ := wf
  refine ⟨by omega, hW, hh, fun b h1 h2 => ?_, ww⟩
  unfold gup
  by_cases e : b = n
  · rw [if_pos e, if_pos e, if_pos e]; exact ⟨hk, hf, hr⟩
  · rw [if_neg e, if_neg e, if_neg e]; exact wb b h1 (by omega)
/-- a thing as of HAPPENED -/
def gthing (n W : Int) (P : Int → Int) (t : Int) : Int → Int :=
  if t = 1 then (gH n W P n.toNat).1 else if t = 2 then (gR n W P n.toNat).1 else if 3 ≤ t then (gC n W P (t - 3) n.toNat).1 else P
theorem gthing_wf {t : Int} (wf : WF n W h K F P T) (ht : 0 ≤ t ∧ t ≤ 7) : WF n W h K F (gthing n W P t) T := by
  have hn := wf.1
  unfold gthing
  split
  · exact gH_wf wf _ (by omega)
  · split
    · exact gR_wf wf _ (by omega)
    · split
      · exact gC_wf wf (by omega) _ (by omega)
      · exact wf
theorem C_undergo {t : Int} {Q : zM → Prop} (hk : k ∈ zFl) (A : CF k Z n W h K F P T) (wf : WF n W h K F P T) (ht : 0 ≤ t ∧ t ≤ 7) (hQ : ∀ Z', CF k Z' n W h K F (gthing n W P t) T → fr k Z Z' → Q Z') : TV (d + 3) 31 [.inr k, .inl t] Z Q := by
  unfold gthing at hQ
  refine w31_0 hk ⟨by unfold zR; omega, fun c => ⟨by unfold zR; omega, fun c2 => ⟨by unfold zR; omega, fun c3 => ?_, fun c3 => ?_⟩, fun c2 => ?_⟩, fun c => ?_⟩
  · rw [if_neg c, if_neg c2, if_neg (by omega)] at hQ
    exact hQ Z A (fr.refl _ _)
  · rw [if_neg c, if_neg c2, if_pos (by omega)] at hQ
    exact C_scare hk A wf (by omega) hQ
  · rw [if_neg c, if_pos (by omega)] at hQ
    exact C_down hk A wf hQ
  · rw [if_pos (by omega)] at hQ
    exact C_up hk A wf hQ
/-- the sixth wire is hung (1) or not (0) -/
def ghang (n W : Int) (P : Int → Int) (x : Int) : Int → Int := if x = 0 ∧ W = 6 then (gC n 6 P 5 n.toNat).1 else P
theorem gref5 (hn : 0 ≤ n ∧ n ≤ 8) : 0 ≤ gref P n 6 5 ∧ gref P n 6 5 < 5 := by
  have h1 : gfup P n 6 8 (5 + 1) = -9 := by unfold gfup; rw [if_pos (by decide)]
  unfold gref
  rw [h1, if_pos (by decide)]
  have c := cnt3 (P := P) (a := 4) (b := 3) (c := 2) (by decide) (by decide) (by decide) n.toNat
  have b2 := cnt_b P 2 n.toNat
  have b3 := cnt_b P 3 n.toNat
  have b4 := cnt_b P 4 n.toNat
  have hs : ∀ (f : Nat) (v : Int), gfdn P n 6 (f + 1) v = if v < 0 then -9 else if roomb P n 6 v = true then v else gfdn P n 6 f (v - 1) := fun f v => rfl
  rw [show (5 : Int) - 1 = 4 by decide, hs 7 4, if_neg (by decide)]
  split
  · omega
  · next r4 =>
    rw [roomb_iff] at r4
    unfold room at r4
    rw [show (4 : Int) - 1 = 3 by decide, hs 6 3, if_neg (by decide)]
    split
    · omega
    · next r3 =>
      rw [roomb_iff] at r3
      unfold room at r3
      rw [show (3 : Int) - 1 = 2 by decide, hs 5 2, if_neg (by decide)]
      split
      · omega
      · next r2 =>
        rw [roomb_iff] at r2
        unfold room at r2
        omega
theorem gC5 (wf : WF n 6 h K F P T) : ∀ m : Nat, (m : Int) ≤ n → ∀ b, 0 ≤ b → b < (m : Int) → (gC n 6 P 5 m).1 b < 5
  | 0, _, b, h1, h2 => by omega
  | m + 1, hm, b, h1, h2 => by
    have ih := gC5 wf m (by omega)
    have wf1 := gC_wf (w := 5) wf (by decide) m (by omega)
    have g := gref5 (P := (gC n 6 P 5 m).1) wf.1
    have b3 := (wf1.2.2.2.1 m (by omega) (by omega)).2.2
    unfold gC
    dsimp only
    by_cases e : b = m
    · subst e
      split
      · dsimp only; rw [gup_same]; exact g.2
      · next hc => have : ¬ (gC n 6 P 5 m).1 m = 5 := fun x => hc ⟨x, g.1⟩
                   omega
    · split
      · dsimp only; rw [gup_ne _ _ e]; exact ih b h1 (by omega)
      · exact ih b h1 (by omega)
theorem ghang_wf {x : Int} (wf : WF n W h K F P T) (hx : x = 0 ∨ x = 1) : WF n (if x = 1 then 6 else 5) h K F (ghang n W P x) T := by
  have hn := wf.1
  have hW := wf.2.1
  unfold ghang
  rcases hx with rfl | rfl
  · rw [if_neg (by decide)]
    by_cases e : W = 6
    · subst e
      rw [if_pos ⟨rfl, rfl⟩]
      have wf1 := gC_wf (w := 5) wf (by decide) n.toNat (by omega)
      refine ⟨hn, by omega, wf.2.2.1, fun b h1 h2 => ⟨(wf1.2.2.2.1 b h1 h2).1, (wf1.2.2.2.1 b h1 h2).2.1, (wf1.2.2.2.1 b h1 h2).2.2.1, gC5 wf n.toNat (by omega) b h1 (by omega)⟩, wf.2.2.2.2⟩
    · rw [if_neg (fun y => e y.2)]
      have : W = 5 := by omega
      subst this
      exact wf
  · rw [if_pos rfl, if_neg (fun y => absurd y.1 (by decide))]
    exact ⟨hn, by omega, wf.2.2.1, fun b h1 h2 => ⟨(wf.2.2.2.1 b h1 h2).1, (wf.2.2.2.1 b h1 h2).2.1, (wf.2.2.2.1 b h1 h2).2.2.1, by have := (wf.2.2.2.1 b h1 h2).2.2.2; omega⟩, wf.2.2.2.2⟩
theorem CF.wires {W' : Int} (A : CF k Z n W h K F P T) : CF k (zup Z k 6 W') n W' h K F P T := by
  obtain ⟨e5, e6, e7, eb, ew⟩ := A
  exact ⟨by simp [zup, e5], by simp [zup], by simp [zup, e7], fun b h1 h2 => by simpa [zup] using eb b h1 h2, fun w h1 h2 => by simpa [zup] using ew w h1 h2⟩
theorem C_hang {x : Int} {Q : zM → Prop} (hk : k ∈ zFl) (A : CF k Z n W h K F P T) (wf : WF n W h K F P T) (hx : x = 0 ∨ x = 1) (hQ : ∀ Z', CF k Z' n (if x = 1 then 6 else 5) h K F (ghang n W P x) T → fr k Z Z' → Q Z') : TV (d + 3) 21 [.inr k, .inl x] Z Q := by
  have e6 := A.2.1
  have hW := wf.2.1
  unfold ghang at hQ
  rcases hx with rfl | rfl
  · rw [if_neg (show ¬ (0 : Int) = 1 by decide)] at hQ
    refine w21_0 hk ⟨by decide, fun c => absurd rfl c, fun _ => ⟨by unfold zR; omega, fun c => ⟨by decide, fun _ Z1 z1 => ?_, fun c2 => absurd rfl c2⟩, fun c => ?_⟩⟩
    · rw [if_neg (fun y => by omega)] at hQ
      subst z1
      exact hQ _ A.wires (fr_up (by omega))
    · have : W = 6 := by omega
      subst this
      rw [if_pos ⟨rfl, rfl⟩] at hQ
      exact C_scare hk A wf (by omega) fun Z1 A1 f1 => ⟨by decide, fun _ Z2 z2 => by subst z2; exact hQ _ A1.wires (fr.trans f1 (fr_up (by omega))), fun c2 => absurd rfl c2⟩
  · rw [if_pos rfl, if_neg (fun y => absurd y.1 (by decide))] at hQ
    refine w21_0 hk ⟨by decide, fun _ => ⟨by decide, fun c2 => absurd c2 (by decide), fun _ Z1 z1 => ?_⟩, fun c => absurd (show (1 : Int) ≠ 0 by decide) c⟩
    subst z1
    exact hQ _ A.wires (fr_up (by omega))
end
