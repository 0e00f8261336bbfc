/-! LOOKS with their very answers: ways of flies, by numbers -/
def gB (a : gX) : Nat := a.1.2.1.toNat + 1
def gpre (B : Nat) : Nat → Nat → Nat
  | 0, k => k
  | m + 1, k => gpre B m (k / B)
theorem gpre_div {B : Nat} : ∀ m k : Nat, gpre B m k = k / B ^ m
  | 0, k => by unfold gpre; rw [Nat.pow_zero, Nat.div_one]
  | m + 1, k => by
    unfold gpre
    rw [gpre_div m (k / B), Nat.div_div_eq_div_mul, Nat.pow_succ, Nat.mul_comm]
theorem gpre_s {B : Nat} (m k : Nat) : gpre B (m + 1) k = gpre B m k / B := by
  rw [gpre_div, gpre_div, Nat.div_div_eq_div_mul, Nat.pow_succ]
theorem nB_div {B K x : Nat} (hx : x < B) : (K * B + x) / B = K := by
  rw [Nat.mul_comm, Nat.mul_add_div (by omega), Nat.div_eq_of_lt hx, Nat.add_zero]
theorem nB_mod {B K x : Nat} (hx : x < B) : (K * B + x) % B = x := by
  rw [Nat.mul_comm, Nat.mul_add_mod, Nat.mod_eq_of_lt hx]
theorem gpre_c {B K x : Nat} (hx : x < B) (m : Nat) : gpre B (m + 1) (K * B + x) = gpre B m K := by
  show gpre B m ((K * B + x) / B) = _
  rw [nB_div hx]
/-- where all sit behind i hours, by the way of number k -/
def gwP (a : gX) : Nat → Nat → Int → Int
  | 0, _ => a.1.2.2.2.2.2.1
  | i + 1, k => (gP a.1.1 a.1.2.1 (a.1.2.2.1 + i) a.1.2.2.2.1 a.1.2.2.2.2.1 (gwP a i (k / gB a)) (((k % gB a : Nat) : Int) - 1) a.1.1.toNat).1
def gwy (a : gX) (i k : Nat) : gS := (a.1.1, a.1.2.1, a.1.2.2.1 + i, a.1.2.2.2.1, a.1.2.2.2.2.1, gwP a i k, a.1.2.2.2.2.2.2)
theorem gwy_0 {a : gX} {k : Nat} : gwy a 0 k = a.1 := by
  unfold gwy gwP
  rw [show a.1.2.2.1 + ((0 : Nat) : Int) = a.1.2.2.1 by omega]
theorem gwy_s {a : gX} {i k : Nat} : gwy a (i + 1) k = gpass (((k % gB a : Nat) : Int) - 1) (gwy a i (k / gB a)) := by
  show (a.1.1, a.1.2.1, a.1.2.2.1 + ((i + 1 : Nat) : Int), a.1.2.2.2.1, a.1.2.2.2.2.1, gwP a (i + 1) k, a.1.2.2.2.2.2.2) = (a.1.1, a.1.2.1, a.1.2.2.1 + (i : Int) + 1, a.1.2.2.2.1, a.1.2.2.2.2.1, gwP a (i + 1) k, a.1.2.2.2.2.2.2)
  rw [show a.1.2.2.1 + ((i + 1 : Nat) : Int) = a.1.2.2.1 + (i : Int) + 1 by omega]
theorem gB_b {a : gX} (wx : WX a) : 6 ≤ gB a ∧ gB a ≤ 7 ∧ (gB a : Int) = a.1.2.1 + 1 := by
  have hW : 5 ≤ a.1.2.1 ∧ a.1.2.1 ≤ 6 := wx.1.1.2.1
  unfold gB; omega
theorem gwy_wf {a : gX} (wx : WX a) : ∀ i k : Nat, i ≤ 1000 → WFs (gwy a i k)
  | 0, k, _ => by rw [gwy_0]; exact wx.1.1
  | i + 1, k, h => by
    have b := gB_b wx
    have m := Nat.mod_lt k (show 0 < gB a by omega)
    have hh := wx.1.2
    rw [gwy_s]
    exact gpass_wf (gwy_wf wx i _ (by omega)) (by show -1 ≤ (((k % gB a : Nat) : Int) - 1) ∧ (((k % gB a : Nat) : Int) - 1) < a.1.2.1; omega) (by show a.1.2.2.1 + (i : Int) < 1000000; omega)
theorem gwP_4 {a : gX} (wx : WX a) (vx : VX a) : ∀ i k : Nat, W4 a.1.1 (gwP a i k)
  | 0, _ => vx.1
  | i + 1, k => by
    have hn : 0 ≤ a.1.1 ∧ a.1.1 ≤ 8 := wx.1.1.1
    unfold gwP
    exact gP_w4 (gwP_4 wx vx i _) _ (by omega)
/-- flies in all -/
def gfs (B : Nat) : Nat → Nat → Int
  | 0, _ => 0
  | i + 1, k => gfs B i (k / B) + ((k % B : Nat) : Int)
theorem gfs_b {B : Nat} (hB : 0 < B ∧ B ≤ 7) : ∀ i k : Nat, 0 ≤ gfs B i k ∧ gfs B i k ≤ 6 * i
  | 0, k => by unfold gfs; omega
  | i + 1, k => by
    have := gfs_b hB i (k / B)
    have m := Nat.mod_lt k hB.1
    unfold gfs
    omega
theorem gfs_le {B : Nat} (hB : 0 < B ∧ B ≤ 7) : ∀ m i k : Nat, gfs B i (gpre B m k) ≤ gfs B (i + m) k
  | 0, i, k => Int.le_refl _
  | m + 1, i, k => by
    have := gfs_le hB m i (k / B)
    show gfs B i (gpre B m (k / B)) ≤ gfs B (i + m) (k / B) + ((k % B : Nat) : Int)
    omega
/-- behind each hour it is as asked: not wrong (0), as the row tells wrong (1), chords (2), anyhow (3) -/
def gtst (a : gX) (sort : Nat) (i : Nat) (s : gS) : Bool := if sort = 0 then decide (gerrs s = 0) else if sort = 1 then decide (a.2.2.2.2.1.2 (i : Int) = gerrs s) else if sort = 2 then decide (a.2.2.2.2.1.2 (i : Int) = gsit s) else true
def gok (a : gX) (sort : Nat) : Nat → Nat → Bool
  | 0, _ => true
  | i + 1, k => gok a sort i (k / gB a) && gtst a sort i (gwy a (i + 1) k)
theorem gok_le {a : gX} {sort : Nat} : ∀ m i k : Nat, gok a sort (i + m) k = true → gok a sort i (gpre (gB a) m k) = true
  | 0, i, k, h => h
  | m + 1, i, k, h => by
    have h : (gok a sort (i + m) (k / gB a) && gtst a sort (i + m) (gwy a (i + m + 1) k)) = true := h
    rw [Bool.and_eq_true] at h
    exact gok_le m i (k / gB a) h.1
/-- a fold over all numbers below -/
def gfold {S : Type} (f : Nat → S → S) (s : S) : Nat → S
  | 0 => s
  | k + 1 => f k (gfold f s k)
theorem gfold_const {S : Type} {f : Nat → S → S} {s : S} {lo : Nat} : ∀ m : Nat, (∀ k, lo ≤ k → k < lo + m → f k (gfold f s lo) = gfold f s lo) → gfold f s (lo + m) = gfold f s lo
  | 0, _ => rfl
  | m + 1, h => by
    have ih := gfold_const (f := f) (s := s) (lo := lo) m (fun k h1 h2 => h k h1 (by omega))
    show f (lo + m) (gfold f s (lo + m)) = _
    rw [ih]
    exact h (lo + m) (by omega) (by omega)
/-- those numbers whose first digits are K -/
theorem gpre_in {B K m k : Nat} (hB : 0 < B) (h1 : K * B ^ m ≤ k) (h2 : k < K * B ^ m + B ^ m) : gpre B m k = K := by
  have p : 0 < B ^ m := Nat.pow_pos hB
  rw [gpre_div]
  exact Nat.div_eq_of_lt_le h1 (by rw [Nat.add_mul, Nat.one_mul]; exact h2)
/-! the steps of a quest: those at node (i, K) are the states along its way -/
def gway4 (q : Nat) (Z1 : zM) (B i K : Nat) : Prop := ∀ j : Nat, j < i → Z1 (q + 1) j = ((gpre B (i - 1 - j) K % B : Nat) : Int)
def QX (q : Nat) (Z Z1 : zM) (a : gX) (i K : Nat) : Prop := frs SQ Z Z1 ∧ (∀ j : Nat, j ≤ i → CFs (70 + 6 * j) Z1 (gwy a j (gpre (gB a) (i - j) K))) ∧ (∀ j : Nat, j ≤ 4 → ∃ h P, CF (70 + 6 * j) Z1 a.1.1 a.1.2.1 h a.1.2.2.2.1 a.1.2.2.2.2.1 P a.1.2.2.2.2.2.2) ∧ gway4 q Z1 (gB a) i K
abbrev gJ : Type := Nat → Nat → (Int → Int) → (Int → Int) → (Int → Int) → Prop
/-- from a child to the next, from the last child back -/
def QP (a : gX) (J J' : gJ) : Prop := (∀ i K x O F T, i < 4 → x + 1 < gB a → J' (i + 1) (K * gB a + x) O F T → J (i + 1) (K * gB a + (x + 1)) O F T) ∧ (∀ i K O F T, i < 4 → J' (i + 1) (K * gB a + (gB a - 1)) O F T → J' i K O F T)
def QO (q y d : Nat) (Z : zM) (a : gX) (J J' : gJ) : Prop := ∀ (i K : Nat) (x : Int) (Z1 : zM) (Q : Int → zM → Prop), i ≤ 4 → x = i → QX q Z Z1 a i K → J i K (Z1 q) (Z1 (q + 2)) (Z1 (q + 3)) → (∀ r Z2, QX q Z Z2 a i K → ((r = 0 ∧ J' i K (Z2 q) (Z2 (q + 2)) (Z2 (q + 3))) ∨ (r = 1 ∧ i < 4 ∧ J (i + 1) (K * gB a) (Z2 q) (Z2 (q + 2)) (Z2 (q + 3)))) → Q r Z2) → TI (d + 3) y [.inr q, .inr (70 + 6 * i), .inl x] Z1 Q
section
variable {d : Nat} {Z Z1 Z2 : zM} {a : gX} {q i K : Nat}
theorem QX.scr (m : QX q Z Z1 a i K) (hq : 46 ≤ q ∧ q ≤ 66) (h : ∀ c, c ≠ q → c ≠ q + 2 → Z2 c = Z1 c) : QX q Z Z2 a i K := by
  obtain ⟨f, s, o, w⟩ := m
  refine ⟨fun c hc => by rw [h c (by unfold SQ at hc; omega) (by unfold SQ at hc; omega), f c hc], fun j hj => CF.keep (s j hj) fun c h1 h2 => h c (by omega) (by omega), fun j hj => ?_, fun j hj => by rw [h (q + 1) (by omega) (by omega)]; exact w j hj⟩
  obtain ⟨h', P, C⟩ := o j hj
  exact ⟨h', P, CF.keep C fun c h1 h2 => h c (by omega) (by omega)⟩
theorem QX.down {x : Nat} (hx : x < gB a) (m : QX q Z Z1 a (i + 1) (K * gB a + x)) : QX q Z Z1 a i K := by
  obtain ⟨f, s, o, w⟩ := m
  refine ⟨f, fun j hj => ?_, o, fun j hj => ?_⟩
  · have := s j (by omega)
    rw [show i + 1 - j = i - j + 1 by omega, gpre_c hx] at this
    exact this
  · have := w j (by omega)
    rw [show i + 1 - 1 - j = (i - 1 - j) + 1 by omega, gpre_c hx] at this
    exact this
/-- a child is entered: the way is longer, the next flock passes -/
theorem QX.child {x : Nat} {x5 : Int} {Z5 Z7 : zM} (hx : x < gB a) (e5 : x5 = (x : Int) - 1) (hi : i < 4) (hq : 46 ≤ q ∧ q ≤ 66) (m : QX q Z Z1 a i K) (z5 : Z5 = zup Z1 (q + 1) i (x5 + 1)) (fr7 : fr (70 + 6 * (i + 1)) Z5 Z7) (C7 : CFs (70 + 6 * (i + 1)) Z7 (gpass x5 (gwy a i K))) : QX q Z Z7 a (i + 1) (K * gB a + x) := by
  obtain ⟨f, s, o, w⟩ := m
  have c5 : ∀ c, c ≠ q + 1 → Z5 c = Z1 c := fun c hc => by rw [z5]; funext p; exact zup_cell _ _ _ _ hc
  have st : gwy a (i + 1) (K * gB a + x) = gpass x5 (gwy a i K) := by
    rw [gwy_s, nB_div hx, nB_mod hx, e5]
  refine ⟨fun c hc => by rw [fr7 c (by unfold SQ at hc; omega), c5 c (by unfold SQ at hc; omega), f c hc], fun j hj => ?_, fun j hj => ?_, fun j hj => ?_⟩
  · by_cases e : j = i + 1
    · subst e
      rw [Nat.sub_self]
      show CFs _ Z7 (gwy a (i + 1) (K * gB a + x))
      rw [st]; exact C7
    · rw [show i + 1 - j = i - j + 1 by omega, gpre_c hx]
      exact CF.keep (s j (by omega)) fun c h1 h2 => by rw [fr7 c (by omega), c5 c (by omega)]
  · by_cases e : j = i + 1
    · subst e
      rw [← st] at C7
      exact ⟨_, _, C7⟩
    · obtain ⟨h', P, C⟩ := o j hj
      exact ⟨h', P, CF.keep C fun c h1 h2 => by rw [fr7 c (by omega), c5 c (by omega)]⟩
  · rw [fr7 (q + 1) (by omega), z5]
    by_cases e : j = i
    · subst e
      rw [zup_same, show j + 1 - 1 - j = 0 by omega]
      show x5 + 1 = (((K * gB a + x) % gB a : Nat) : Int)
      rw [nB_mod hx]; omega
    · rw [zup_place _ _ _ _ (by omega), show i + 1 - 1 - j = (i - 1 - j) + 1 by omega, gpre_c hx]
      exact w j (by omega)
/-- flies put so far -/
theorem F_54 {x : Int} {Q : Int → zM → Prop} (hq : q ∈ zQu) (wx : WX a) (m : gway4 q Z1 (gB a) i K) (hi : i ≤ 4) (hx : x = i) (hQ : Q (gfs (gB a) i K) Z1) : TI d 54 [.inr q, .inl x] Z1 Q := by
  have bB := gB_b wx
  refine w54_0 hq ?_
  suffices H : ∀ (f j : Nat) (x3 : Int), x3 = j → f = i - j → j ≤ i → TZ d 54 4 [some (.inr q), some (.inl x), some (.inl (gfs (gB a) j (gpre (gB a) (i - j) K))), some (.inl x3)] [] Z1 (zri Q) from H i 0 0 rfl rfl (by omega)
  intro f
  induction f with
  | zero =>
    intro j x3 e y1 y2
    have ej : j = i := by omega
    subst ej
    refine w54_4 hq ⟨by unfold zR; omega, by unfold zR; omega, fun _ => ?_, fun c => absurd (show x ≤ x3 by omega) c⟩
    rw [Nat.sub_self]; exact hQ
  | succ f ih =>
    intro j x3 e y1 y2
    have v := m j (by omega)
    have st : gpre (gB a) (i - j) K = gpre (gB a) (i - 1 - j) K / gB a := by
      rw [show i - j = (i - 1 - j) + 1 by omega, gpre_s]
    refine w54_4 hq ⟨by unfold zR; omega, by unfold zR; omega, fun c => by omega, fun _ => ⟨by unfold zR; omega, fun c => by omega, fun _ => ⟨by omega, ?_⟩⟩⟩
    have := ih (j + 1) (x3 + 1) (by omega) (by omega) (by omega)
    rw [show i - (j + 1) = i - 1 - j by omega] at this
    rw [e, v, st, ← e]
    exact this
theorem F_53 {x1 x2 : Int} {Q : zM → Prop} (hq : q ∈ zQu) (hi : i ≤ 4) (hx : x2 = i) (hQ : ∀ Z', (∀ c, c ≠ q → c ≠ q + 2 → Z' c = Z1 c) → (∀ p, p ≠ 4 → p ≠ 5 → Z' q p = Z1 q p) → Z' q 4 = x1 → Z' q 5 = (i : Int) → (∀ j : Nat, j < i → Z' (q + 2) j = Z1 (q + 1) j) → Q Z') : TV (d + 1) 53 [.inr q, .inl x1, .inl x2] Z1 Q := by
  have b := quB hq
  refine w53_0 hq fun Z2 e2 => ⟨by unfold zR; omega, fun Z3 e3 => ?_⟩
  have k3 : Z3 q 5 = i := by rw [e3, zup_same]; omega
  refine ⟨by rw [k3]; omega, fun Z5 e5 => hQ Z5 (fun c hc hc2 => ?_) (fun p h4 h5 => ?_) ?_ ?_ fun j hj => ?_⟩
  · subst e5 e3 e2; funext p; unfold zcpy; rw [if_neg hc2, zup_cell _ _ _ _ hc, zup_cell _ _ _ _ hc]
  · subst e5 e3 e2; unfold zcpy; rw [if_neg (by omega), zup_place _ _ _ _ h5, zup_place _ _ _ _ h4]
  · subst e5; unfold zcpy; rw [if_neg (by omega), e3, zup_place _ _ _ _ (by decide), e2, zup_same]
  · subst e5; unfold zcpy; rw [if_neg (by omega)]; exact k3
  · subst e5; unfold zcpy
    rw [if_pos rfl, k3, if_pos (by omega), e3, zup_cell _ _ _ _ (by omega), e2, zup_cell _ _ _ _ (by omega)]
end
