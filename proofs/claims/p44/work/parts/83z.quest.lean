/-! LOOKS with their very answers: quests for ways as long as asked -/
def gdig (B n k j : Nat) : Nat := gpre B (n - 1 - j) k % B
def glo (B n i K : Nat) : Nat := K * B ^ (n - i)
theorem glo_c {B n i K : Nat} (h : i < n) : glo B n (i + 1) (K * B) = glo B n i K := by
  unfold glo
  rw [show n - i = (n - (i + 1)) + 1 by omega, Nat.pow_succ, Nat.mul_assoc, Nat.mul_comm B]
theorem glo_n {B n K : Nat} : glo B n n K = K := by unfold glo; rw [Nat.sub_self, Nat.pow_zero, Nat.mul_one]
theorem glo_0 {B n i : Nat} : glo B n i 0 = 0 := by unfold glo; rw [Nat.zero_mul]
theorem glo_s {B n i K : Nat} : glo B n i (K + 1) = glo B n i K + B ^ (n - i) := by unfold glo; rw [Nat.succ_mul]
abbrev gRl : Type := (Int → Int) → (Int → Int) → (Int → Int) → Prop
/-- on entry: all ways before those that begin so are done; on leaving: those too -/
def JL {S : Type} (a : gX) (sort n : Nat) (f : Nat → S → S) (s0 : S) (R0 : gRl) (R : S → gRl) : gJ := fun i K O F T => O 3 = (n : Int) ∧ i ≤ n ∧ gok a sort (i - 1) (K / gB a) = true ∧ (i = 0 → K = 0 ∧ R0 O F T) ∧ (i ≠ 0 → R (gfold f s0 (glo (gB a) n i K)) O F T)
def JM {S : Type} (a : gX) (sort n : Nat) (f : Nat → S → S) (s0 : S) (R : S → gRl) : gJ := fun i K O F T => O 3 = (n : Int) ∧ i ≤ n ∧ gok a sort (i - 1) (K / gB a) = true ∧ R (gfold f s0 (glo (gB a) n i (K + 1))) O F T
section
variable {d : Nat} {Z Z1 Z2 : zM} {a : gX} {q i K n sort : Nat} {S : Type} {f : Nat → S → S} {s0 : S} {R0 : gRl} {R : S → gRl} {O F T : Int → Int}
theorem JL_p (wx : WX a) : QP a (JL a sort n f s0 R0 R) (JM a sort n f s0 R) := by
  have b := gB_b wx
  constructor
  · rintro i K x O F T hi hx ⟨o, h1, h2, h3⟩
    refine ⟨o, h1, ?_, fun e => absurd e (Nat.succ_ne_zero i), fun _ => h3⟩
    show gok a sort i ((K * gB a + (x + 1)) / gB a) = true
    rw [nB_div hx]
    have h2 : gok a sort i ((K * gB a + x) / gB a) = true := h2
    rw [nB_div (by omega)] at h2; exact h2
  · rintro i K O F T hi ⟨o, h1, h2, h3⟩
    have h2 : gok a sort i ((K * gB a + (gB a - 1)) / gB a) = true := h2
    rw [nB_div (by omega)] at h2
    refine ⟨o, by omega, ?_, ?_⟩
    · cases i with
      | zero => rfl
      | succ i =>
        have h2 : (gok a sort i (K / gB a) && gtst a sort i (gwy a (i + 1) K)) = true := h2
        rw [Bool.and_eq_true] at h2
        exact h2.1
    · have e : K * gB a + (gB a - 1) + 1 = (K + 1) * gB a := by rw [Nat.succ_mul]; omega
      rw [e, glo_c (by omega)] at h3
      exact h3
theorem JL_r (j : JL a sort n f s0 R0 R i K O F T) (h : R0 O F T → R s0 O F T) : R (gfold f s0 (glo (gB a) n i K)) O F T := by
  obtain ⟨o, hn, g, j0, j1⟩ := j
  by_cases e : i = 0
  · have j0 := j0 e
    rw [j0.1, glo_0]; exact h j0.2
  · exact j1 e
theorem JL_down (wx : WX a) (h : i < n) (o : O 3 = (n : Int)) (g : gok a sort i K = true) (r : R (gfold f s0 (glo (gB a) n i K)) O F T) : JL a sort n f s0 R0 R (i + 1) (K * gB a) O F T := by
  have b := gB_b wx
  refine ⟨o, h, ?_, fun e => absurd e (Nat.succ_ne_zero i), fun _ => by rw [glo_c h]; exact r⟩
  show gok a sort i (K * gB a / gB a) = true
  rw [Nat.mul_div_cancel _ (by omega)]; exact g
theorem JM_leaf (h : i = n) (o : O 3 = (n : Int)) (g : gok a sort (i - 1) (K / gB a) = true) (r : R (f K (gfold f s0 (glo (gB a) n i K))) O F T) : JM a sort n f s0 R i K O F T := by
  refine ⟨o, by omega, g, ?_⟩
  subst h
  rw [glo_n] at r ⊢
  exact r
theorem JM_cut (wx : WX a) (h : i ≤ n) (o : O 3 = (n : Int)) (g : gok a sort (i - 1) (K / gB a) = true) (c : ∀ k, gpre (gB a) (n - i) k = K → f k (gfold f s0 (glo (gB a) n i K)) = gfold f s0 (glo (gB a) n i K)) (r : R (gfold f s0 (glo (gB a) n i K)) O F T) : JM a sort n f s0 R i K O F T := by
  have b := gB_b wx
  refine ⟨o, h, g, ?_⟩
  rw [glo_s, gfold_const (f := f) (s := s0) (lo := glo (gB a) n i K) _ fun k h1 h2 => c k (gpre_in (by omega) h1 h2)]
  exact r
theorem gok_1 (h : i ≠ 0) : gok a sort i K = (gok a sort (i - 1) (K / gB a) && gtst a sort (i - 1) (gwy a i K)) := by
  obtain ⟨j, rfl⟩ : ∃ j, i = j + 1 := ⟨i - 1, by omega⟩
  rfl
theorem gok_y (g : gok a sort (i - 1) (K / gB a) = true) (t : i ≠ 0 → gtst a sort (i - 1) (gwy a i K) = true) : gok a sort i K = true := by
  by_cases e : i = 0
  · subst e; rfl
  · rw [gok_1 e, g, t e]; rfl
theorem gok_n (h : i ≤ n) (e : i ≠ 0) (t : gtst a sort (i - 1) (gwy a i K) = false) {k : Nat} (hk : gpre (gB a) (n - i) k = K) : ¬ gok a sort n k = true := by
  intro y
  have := gok_le (a := a) (sort := sort) (n - i) i k (by rw [show i + (n - i) = n by omega]; exact y)
  rw [hk, gok_1 e, t, Bool.and_false] at this
  exact absurd this (by decide)
theorem F_fin {r x : Int} {Q : Int → zM → Prop} (hq : q ∈ zQu) (hi : i ≤ 4) (hx : x = i) (h3 : zR (Z1 q 3)) (h1 : x < Z1 q 3 → Q 1 Z1) (h2 : ¬ x < Z1 q 3 → ∀ Z', (∀ c, c ≠ q → c ≠ q + 2 → Z' c = Z1 c) → (∀ p, p ≠ 4 → p ≠ 5 → Z' q p = Z1 q p) → Z' q 4 = r → Z' q 5 = (i : Int) → (∀ j : Nat, j < i → Z' (q + 2) j = Z1 (q + 1) j) → Q 0 Z') : zR x ∧ zR (Z1 q 3) ∧ (x < Z1 q 3 → (zR x ∧ zR (Z1 q 3) ∧ (Z1 q 3 ≤ x → Q 0 Z1) ∧ (¬ Z1 q 3 ≤ x → Q 1 Z1))) ∧ (¬ x < Z1 q 3 → TV (d + 1) 53 [.inr q, .inl r, .inl x] Z1 fun Z' => zR x ∧ zR (Z' q 3) ∧ (Z' q 3 ≤ x → Q 0 Z') ∧ (¬ Z' q 3 ≤ x → Q 1 Z')) := by
  have zx : zR x := by unfold zR; omega
  refine ⟨zx, h3, fun c => ⟨zx, h3, fun y => by omega, fun _ => h1 c⟩, fun c => F_53 hq hi hx fun Z' a1 a2 a3 a4 a5 => ?_⟩
  have e := a2 3 (by decide) (by decide)
  rw [e]
  exact ⟨zx, h3, fun _ => h2 c Z' a1 a2 a3 a4 a5, fun y => by omega⟩
/-- as told, behind i hours -/
theorem F_52 {x v : Int} {Q : Int → zM → Prop} (hq : q ∈ zQu) (hi : i ≤ 4) (hx : x = i) (h3 : i ≠ 0 → zR (Z1 (q + 3) (x - 1))) (hv : zR v) (h1 : (i ≠ 0 → Z1 (q + 3) (x - 1) = v) → Q 1 Z1) (h0 : i ≠ 0 → Z1 (q + 3) (x - 1) ≠ v → Q 0 Z1) : TI d 52 [.inr q, .inl x, .inl v] Z1 Q :=
  w52_0 hq ⟨by unfold zR; omega, fun c => h1 fun e => by omega, fun c => ⟨by unfold zR; omega, fun y => by omega, fun _ => ⟨by omega, h3 (by omega), hv, fun y => h0 (by omega) y, fun y => h1 fun _ => by omega⟩⟩⟩
/-! the first way of the fewest, and whether there is one: what is kept of it -/
def RW (a : gX) (n : Nat) (s : Int × Nat) : gRl := fun O F _ => O 4 = s.1 ∧ (s.1 = 1000000 ∨ (0 ≤ s.1 ∧ s.1 ≤ 24)) ∧ (s.1 = 1000000 → O 5 = 0) ∧ (s.1 ≠ 1000000 → O 5 = (n : Int) ∧ ∀ j : Nat, j < n → F j = ((gdig (gB a) n s.2 j : Nat) : Int))
/-- the answer at i of what is kept -/
def gans (a : gX) (n : Nat) (s : Int × Nat) (i : Int) : Int := if s.1 = 1000000 then -9 else if i < 0 ∨ (n : Int) ≤ i then -9 else ((gdig (gB a) n s.2 i.toNat : Nat) : Int)
theorem F_56 {x : Int} {s : Int × Nat} {Q : Int → zM → Prop} (hq : q ∈ zQu) (hn : n ≤ 4) (h1 : zR x) (r : RW a n s (Z1 q) (Z1 (q + 2)) (Z1 (q + 3))) (hQ : Q (gans a n s x) Z1) : TI d 56 [.inr q, .inl x] Z1 Q := by
  obtain ⟨r1, r2, r3, r4⟩ := r
  unfold gans at hQ
  by_cases e : s.1 = 1000000
  · have r3 := r3 e
    rw [if_pos e] at hQ
    exact w56_0 hq ⟨h1, fun _ => hQ, fun c => ⟨h1, by rw [r3]; decide, fun _ => hQ, fun y => by omega⟩⟩
  · obtain ⟨r4, r5⟩ := r4 e
    rw [if_neg e] at hQ
    refine w56_0 hq ⟨h1, fun c => ?_, fun c => ⟨h1, by rw [r4]; unfold zR; omega, fun y => ?_, fun y => ⟨by omega, ?_⟩⟩⟩
    · rw [if_pos (Or.inl c)] at hQ; exact hQ
    · rw [if_pos (Or.inr (by omega))] at hQ; exact hQ
    · rw [if_neg (by omega), ← r5 x.toNat (by omega), Int.toNat_of_nonneg (by omega)] at hQ; exact hQ
def gmin (s : Int) : Int := if s = 1000000 then -9 else s
theorem F_55 {v : Int} {Q : Int → zM → Prop} (hq : q ∈ zQu) (r : Z1 q 4 = v) (r2 : v = 1000000 ∨ (0 ≤ v ∧ v ≤ 24)) (hQ : Q (gmin v) Z1) : TI d 55 [.inr q] Z1 Q := by
  unfold gmin at hQ
  refine w55_0 hq ⟨by rw [r]; unfold zR; omega, fun c => ?_, fun c => ?_⟩
  · rw [if_pos (by omega)] at hQ; exact hQ
  · rw [if_neg (by omega), ← r] at hQ; exact hQ
/-- the quest is begun -/
theorem F_50 {x1 : Int} {Q : zM → Prop} (hq : q ∈ zQu) (hQ : ∀ Z', (∀ c, c ≠ q → Z' c = Z1 c) → Z' q 3 = x1 → Z' q 4 = 1000000 → Z' q 5 = 0 → Q Z') : TV d 50 [.inr q, .inl x1] Z1 Q := by
  refine w50_0 hq fun Z2 e2 Z3 e3 Z4 e4 => hQ Z4 (fun c hc => ?_) ?_ ?_ ?_
  · subst e4 e3 e2; funext p; rw [zup_cell _ _ _ _ hc, zup_cell _ _ _ _ hc, zup_cell _ _ _ _ hc]
  · subst e4 e3 e2; rw [zup_place _ _ _ _ (by decide), zup_place _ _ _ _ (by decide), zup_same]
  · subst e4 e3 e2; rw [zup_place _ _ _ _ (by decide), zup_same]
  · rw [e4, zup_same]
/-! never wrong, with the fewest flies -/
def ffd (a : gX) (n k : Nat) (s : Int × Nat) : Int × Nat := if gok a 0 n k = true ∧ gfs (gB a) n k < s.1 then (gfs (gB a) n k, k) else s
theorem ffd_s {a : gX} {n k : Nat} {s : Int × Nat} : ffd a n k s = if gok a 0 n k = true ∧ gfs (gB a) n k < s.1 then (gfs (gB a) n k, k) else s := rfl
def gfd0 (a : gX) (n : Nat) : Int × Nat := gfold (ffd a n) (1000000, 0) (gB a ^ n)
def vFeeding (a : gX) (x1 x2 : Int) : Int := if x2 = -1 then gmin (gfd0 a x1.toNat).1 else gans a x1.toNat (gfd0 a x1.toNat) x2
theorem F_o46 (wx : WX a) (hn : n ≤ 4) : QO 46 10 d Z a (JL a 0 n (ffd a n) (1000000, 0) (RW a n (1000000, 0)) (RW a n)) (JM a 0 n (ffd a n) (1000000, 0) (RW a n)) := by
  intro i K x Z1 Q hi hx m j hQ
  have r := JL_r j id
  obtain ⟨o, h1, g, -, -⟩ := j
  have b := gB_b wx
  have C := m.2.1 i (Nat.le_refl _)
  rw [Nat.sub_self] at C
  have C : CFs (70 + 6 * i) Z1 (gwy a i K) := C
  have wf := gwy_wf wx i K (by omega)
  have G := gfs_b (B := gB a) (by omega) i K
  have zx : zR x := by unfold zR; omega
  have hq : 46 ∈ zQu := by decide
  have r4 : zR (Z1 46 4) := by rw [r.1]; have := r.2.1; unfold zR; omega
  refine w10_0 (zFi hi) (F_54 hq wx m.2.2.2 hi hx ⟨by unfold zR; omega, r4, fun c => ?_, fun c => ?_⟩)
  · refine hQ 0 Z1 m (Or.inl ⟨rfl, JM_cut wx h1 o g (fun k hk => ?_) r⟩)
    rw [ffd_s]
    refine if_neg fun h => ?_
    have := gfs_le (B := gB a) (by omega) (n - i) i k
    rw [hk, show i + (n - i) = n by omega] at this
    have := r.1
    omega
  · have tl : gok a 0 i K = true → _ := fun gk => F_fin (d := d + 1) (Z1 := Z1) (r := gfs (gB a) i K) (Q := Q) hq hi hx (by rw [o]; unfold zR; omega) (fun c2 => hQ 1 Z1 m (Or.inr ⟨rfl, by omega, JL_down wx (by omega) o gk r⟩)) (fun c2 Z' a1 a2 a3 a4 a5 => by
      have ei : i = n := by omega
      refine hQ 0 Z' (m.scr (by decide) a1) (Or.inl ⟨rfl, JM_leaf ei ((a2 3 (by decide) (by decide)).trans o) g ?_⟩)
      rw [ffd_s]
      rw [if_pos ⟨by rw [← ei]; exact gk, by have e2 : gfs (gB a) n K = gfs (gB a) i K := (by rw [ei]); have := r.1; omega⟩]
      refine ⟨by rw [a3, ei], Or.inr (by rw [← ei]; dsimp only; omega), fun y => absurd y (by rw [← ei]; dsimp only; omega), fun _ => ⟨by rw [a4, ei], fun j hj => ?_⟩⟩
      rw [a5 j (by omega), m.2.2.2 j (by omega), ei]
      rfl)
    refine ⟨zx, fun c0 => tl (gok_y g fun e => by omega), fun c0 => C_errs (zFi hi) C wf ⟨by have : 0 ≤ gerrs (gwy a i K) ∧ gerrs (gwy a i K) ≤ 6 := gerrs_b; show zR (gerrs (gwy a i K)); unfold zR; omega, fun e0 => tl (gok_y g fun _ => ?_), fun e0 => ?_⟩⟩
    · show decide (gerrs (gwy a i K) = 0) = true
      exact decide_eq_true e0
    · refine hQ 0 Z1 m (Or.inl ⟨rfl, JM_cut wx h1 o g (fun k hk => ?_) r⟩)
      rw [ffd_s]
      exact if_neg fun h => gok_n (a := a) (sort := 0) h1 (by omega) (show decide (gerrs (gwy a i K) = 0) = false from decide_eq_false e0) hk h.1
theorem X_feeding {x1 x2 : Int} (A : CX Z a) (wx : WX a) (h1 : zR x1) (h2 : zR x2) : TI (d + 10) 126 [.inr 0, .inl x1, .inl x2] Z (PostC Z (oq a (geith (gund x2 (-1)) (gout x1 1 4)) (vFeeding a x1 x2))) := by
  have g := geith_b (gb4 (x := x2) (lo := -1)) (gb3 (x := x1) (lo := 1) (hi := 4))
  refine w126_0 (C_under h2 (by decide) (C_outside h1 (by decide) (by decide) (C_either (zR9 gb4) ⟨zR9 g, fun c => ?_, fun c => C_refuse (by omega) (PRq A c g)⟩)))
  have c1 := gout_0.mp (geith_0.mp c).2
  have en : x1 = (x1.toNat : Int) := (Int.toNat_of_nonneg (by omega)).symm
  have hn : x1.toNat ≤ 4 := by omega
  refine F_50 (by decide) fun Z1 k1 k3 k4 k5 => F_open46 A wx (JL_p wx) (fun d => F_o46 wx hn) (sq50 (frs.refl _ _) (by decide) k1) ⟨by rw [k3]; exact en, Nat.zero_le _, rfl, fun _ => ⟨rfl, k4, Or.inl rfl, fun _ => k5, fun y => absurd rfl y⟩, fun y => absurd rfl y⟩ fun Z2 f2 j => ?_
  obtain ⟨-, -, -, r⟩ := j
  have eg : glo (gB a) x1.toNat 0 (0 + 1) = gB a ^ x1.toNat := by unfold glo; rw [Nat.zero_add, Nat.one_mul, Nat.sub_zero]
  rw [eg] at r
  have ok := PQ (v := vFeeding a x1 x2) A c f2
  unfold vFeeding at ok ⊢
  refine ⟨h2, fun y => ?_, fun y => ?_⟩
  · rw [if_neg y] at ok ⊢
    exact F_56 (by decide) hn h2 r ok
  · rw [if_pos (by omega)] at ok ⊢
    exact F_55 (by decide) r.1 r.2.1 ok
end
/-! THE REFERENCE's quests, with their very answers -/
def WG (a : gX) (n k : Nat) (Z1 : zM) : Prop := ∀ j : Nat, j < n → Z1 114 j = ((gdig (gB a) n k j : Nat) : Int)
section
variable {d : Nat} {Z Z1 Z2 : zM} {a : gX} {n k : Nat} {s : gS}
theorem QE.row (m : QE Z Z1 a s) : (0 ≤ a.2.2.2.2.1.1 ∧ a.2.2.2.2.1.1 ≤ 12) ∧ ∀ j, 0 ≤ j → j < a.2.2.2.2.1.1 → Z1 116 j = a.2.2.2.2.1.2 j ∧ 0 ≤ Z1 116 j ∧ Z1 116 j ≤ 99 := by
  obtain ⟨r1, r2, r3⟩ := m.1.2.2.2.2.2.1
  refine ⟨r2, fun j h1 h2 => ?_⟩
  obtain ⟨q1, q2, q3⟩ := r3 j h1 h2
  rw [q1]; exact ⟨rfl, q2, q3⟩
theorem WG.same (w : WG a n k Z1) (s : same Z1 Z2) : WG a n k Z2 := fun j hj => by rw [s 114 (by decide)]; exact w j hj
theorem gdig_b {B n k j : Nat} (hB : 0 < B ∧ B ≤ 7) : gdig B n k j < B ∧ gdig B n k j ≤ 6 := by
  have := Nat.mod_lt (gpre B (n - 1 - j) k) hB.1
  unfold gdig; omega
theorem gpre_le {B m k : Nat} : gpre B m k ≤ k := by rw [gpre_div]; exact Nat.div_le_self _ _
theorem G_212 {x1 : Int} {Q : Int → zM → Prop} (e : Z1 100 6 = a.1.2.1) (wx : WX a) (hn : n ≤ 4) (en : x1 = n) (hQ : Q ((gB a ^ n : Nat) : Int) Z1) : TI d 212 [.inr 100, .inl x1] Z1 Q := by
  have b := gB_b wx
  refine w212_0 ?_
  suffices H : ∀ (f j : Nat) (x3 : Int), x3 = j → f = n - j → j ≤ n → TZ d 212 4 [some (.inr 100), some (.inl x1), some (.inl ((gB a ^ j : Nat) : Int)), some (.inl x3)] [] Z1 (zri Q) from H n 0 0 rfl rfl (Nat.zero_le _)
  intro f
  induction f with
  | zero =>
    intro j x3 ej ef y
    have : j = n := by omega
    subst this
    exact w212_4 ⟨by unfold zR; omega, by unfold zR; omega, fun _ => hQ, fun c => by omega⟩
  | succ f ih =>
    intro j x3 ej ef y
    have := ih (j + 1) (x3 + 1) (by omega) (by omega) (by omega)
    rw [Nat.pow_succ, Int.natCast_mul, b.2.2, ← e] at this
    exact w212_4 ⟨by unfold zR; omega, by unfold zR; omega, fun c => by omega, fun _ => this⟩
theorem G_213 {x1 x2 : Int} {Q : zM → Prop} (e : Z1 100 6 = a.1.2.1) (wx : WX a) (hn : n ≤ 4) (hk : k ≤ 5000) (e1 : x1 = k) (e2 : x2 = n) (hQ : ∀ Z2, (∀ q, q ≠ 114 → Z2 q = Z1 q) → WG a n k Z2 → Q Z2) : TV (d + 1) 213 [.inr 100, .inl x1, .inl x2] Z1 Q := by
  have b := gB_b wx
  refine w213_0 ?_
  suffices H : ∀ (f m : Nat) (x3 x4 : Int) (Z2 : zM), x3 = ((gpre (gB a) m k : Nat) : Int) → x4 = (n : Int) - 1 - m → f = n - m → m ≤ n → (∀ q, q ≠ 114 → Z2 q = Z1 q) → (∀ j : Nat, j < n → n - m ≤ j → Z2 114 j = ((gdig (gB a) n k j : Nat) : Int)) → TZ (d + 1) 213 7 [some (.inr 100), some (.inl x1), some (.inl x2), some (.inl x3), some (.inl x4)] [] Z2 (zrv Q) from H n 0 x1 (x2 - 1) Z1 e1 (by omega) rfl (Nat.zero_le _) (fun _ _ => rfl) (fun j u v => by omega)
  intro f
  induction f with
  | zero => intro m x3 x4 Z2 h3 h4 hf hm g w; exact w213_7 ⟨by unfold zR; omega, fun _ => hQ Z2 g fun j hj => w j hj (by omega), fun c => by omega⟩
  | succ f ih =>
    intro m x3 x4 Z2 h3 h4 hf hm g w
    have e6 : Z2 100 6 = a.1.2.1 := by rw [g 100 (by decide)]; exact e
    have le := @gpre_le (gB a) m k
    refine w213_7 ⟨by unfold zR; omega, fun c => by omega, fun _ => ⟨by unfold zR; omega, by omega, by omega, fun Z6 z6 => ?_⟩⟩
    have e7 : Z6 100 6 = a.1.2.1 := by rw [z6, zup_cell _ _ _ _ (by decide)]; exact e6
    have t1 : Int.tdiv x3 (Z6 100 6 + 1) = ((gpre (gB a) (m + 1) k : Nat) : Int) := by
      rw [e7, ← b.2.2, h3, Int.tdiv_eq_ediv_of_nonneg (by omega), gpre_s, Int.natCast_ediv]
    have t2 : Int.tmod x3 (Z2 100 6 + 1) = ((gpre (gB a) m k % gB a : Nat) : Int) := by
      rw [e6, ← b.2.2, h3, Int.tmod_eq_emod_of_nonneg (by omega), Int.natCast_emod]
    refine ⟨by unfold zR; omega, by omega, ih (m + 1) _ _ Z6 t1 (by omega) (by omega) (by omega) (fun q hq => by rw [z6]; funext p; rw [zup_cell _ _ _ _ hq, g q hq]) fun j u v => ?_⟩
    rw [z6]
    by_cases ej : (j : Int) = x4
    · rw [ej, zup_same, t2]
      unfold gdig
      rw [show n - 1 - j = m by omega]
    · rw [zup_place _ _ _ _ ej]; exact w j u (by omega)
theorem G_214 {x1 : Int} {Q : Int → zM → Prop} (wx : WX a) (hn : n ≤ 4) (en : x1 = n) (w : WG a n k Z1) (hQ : Q (gfs (gB a) n k) Z1) : TI d 214 [.inr 100, .inl x1] Z1 Q := by
  refine w214_0 ?_
  suffices H : ∀ (f j : Nat) (x3 : Int), x3 = j → f = n - j → j ≤ n → TZ d 214 4 [some (.inr 100), some (.inl x1), some (.inl (gfs (gB a) j (gpre (gB a) (n - j) k))), some (.inl x3)] [] Z1 (zri Q) from H n 0 0 rfl rfl (Nat.zero_le _)
  intro f
  induction f with
  | zero =>
    intro j x3 ej ef y
    have : j = n := by omega
    subst this
    rw [Nat.sub_self]
    exact w214_4 ⟨by unfold zR; omega, by unfold zR; omega, fun _ => hQ, fun c => by omega⟩
  | succ f ih =>
    intro j x3 ej ef y
    have v := w j (by omega)
    have := ih (j + 1) (x3 + 1) (by omega) (by omega) (by omega)
    have st : gfs (gB a) (j + 1) (gpre (gB a) (n - (j + 1)) k) = gfs (gB a) j (gpre (gB a) (n - j) k) + Z1 114 x3 := by
      rw [ej, v, show n - j = (n - (j + 1)) + 1 by omega, gpre_s]
      unfold gdig
      rw [show n - 1 - j = n - (j + 1) by omega]
      rfl
    rw [st] at this
    exact w214_4 ⟨by unfold zR; omega, by unfold zR; omega, fun c => by omega, fun _ => ⟨by omega, this⟩⟩
theorem G_218 {x1 : Int} {Q : zM → Prop} (hn : n ≤ 4) (en : x1 = n) (hQ : ∀ Z2, (∀ q, q ≠ 115 → Z2 q = Z1 q) → (∀ j : Nat, j < n → Z2 115 j = Z1 114 j) → Q Z2) : TV d 218 [.inr 100, .inl x1] Z1 Q := by
  refine w218_0 ?_
  suffices H : ∀ (f j : Nat) (x2 : Int) (Z2 : zM), x2 = j → f = n - j → j ≤ n → (∀ q, q ≠ 115 → Z2 q = Z1 q) → (∀ i : Nat, i < j → Z2 115 i = Z1 114 i) → TZ d 218 2 [some (.inr 100), some (.inl x1), some (.inl x2)] [] Z2 (zrv Q) from H n 0 0 Z1 rfl rfl (Nat.zero_le _) (fun _ _ => rfl) (fun i hi => absurd hi (Nat.not_lt_zero i))
  intro f
  induction f with
  | zero =>
    intro j x2 Z2 ej ef y g h
    exact w218_2 ⟨by unfold zR; omega, by unfold zR; omega, fun _ => hQ Z2 g fun i hi => h i (by omega), fun c => by omega⟩
  | succ f ih =>
    intro j x2 Z2 ej ef y g h
    refine w218_2 ⟨by unfold zR; omega, by unfold zR; omega, fun c => by omega, fun _ => ⟨by omega, by omega, fun Z6 z6 => ih (j + 1) _ Z6 (by omega) (by omega) (by omega) (fun q hq => by rw [z6]; funext p; rw [zup_cell _ _ _ _ hq, g q hq]) fun i hi => ?_⟩⟩
    rw [z6]
    by_cases ei : (i : Int) = x2
    · rw [← ei, zup_same, g 114 (by decide)]
    · rw [zup_place _ _ _ _ ei]; exact h i (by omega)
theorem G_217 {sort : Nat} {x1 x2 : Int} {Q : Int → zM → Prop} (m : QS Z Z1 a) (wx : WX a) (hs : sort = 0 ∨ sort = 1 ∨ sort = 2) (e1 : x1 = sort) (e2 : x2 = n) (hn : n ≤ 4) (hr : sort ≠ 0 → (n : Int) ≤ a.2.2.2.2.1.1) (w : WG a n k Z1) (h1 : gok a sort n k = true → ∀ Z2, QS Z Z2 a → same Z1 Z2 → Q 1 Z2) (h0 : ¬ gok a sort n k = true → ∀ Z2, QS Z Z2 a → same Z1 Z2 → Q 0 Z2) : TI (d + 4) 217 [.inr 100, .inl x1, .inl x2] Z1 Q := by
  have b := gB_b wx
  have hh := wx.1.2
  refine w217_0 (G_thinks m wx fun Z2 k2 s2 => ?_)
  suffices H : ∀ (f j : Nat) (x3 x4 : Int) (Z2 : zM), f = n - j → x4 = j → j ≤ n → (gok a sort j (gpre (gB a) (n - j) k) = true → x3 = 1) → (¬ gok a sort j (gpre (gB a) (n - j) k) = true → x3 = 0) → QE Z Z2 a (gwy a j (gpre (gB a) (n - j) k)) → same Z1 Z2 → TZ (d + 4) 217 9 [some (.inr 100), some (.inl x1), some (.inl x2), some (.inl x3), some (.inl x4)] [] Z2 (zri Q) from H n 0 1 0 Z2 rfl rfl (Nat.zero_le _) (fun _ => rfl) (fun c => absurd rfl c) (by rw [gwy_0]; exact k2) s2
  intro f
  induction f with
  | zero =>
    intro j x3 x4 Z2 ef e4 y c1 c0 k2 s2
    have ej : j = n := by omega
    subst ej
    rw [Nat.sub_self] at c1 c0
    refine w217_9 ⟨by unfold zR; omega, by unfold zR; omega, fun _ => G_forgets k2 wx fun Z3 l s3 => ?_, fun c => by omega⟩
    by_cases g : gok a sort j k = true
    · rw [c1 g]; exact ⟨by decide, h1 g Z3 l (s2.trans s3)⟩
    · rw [c0 g]; exact ⟨by decide, h0 g Z3 l (s2.trans s3)⟩
  | succ f ih =>
    intro j x3 x4 Z2 ef e4 y c1 c0 k2 s2
    by_cases g : gok a sort j (gpre (gB a) (n - j) k) = true
    · have ed : Z2 114 x4 = ((gdig (gB a) n k j : Nat) : Int) := by rw [e4]; exact (w.same s2) j (by omega)
      have db := gdig_b (B := gB a) (n := n) (k := k) (j := j) (by omega)
      have wf := gwy_wf wx j (gpre (gB a) (n - j) k) (by omega)
      have st : gpass (Z2 114 x4 - 1) (gwy a j (gpre (gB a) (n - j) k)) = gwy a (j + 1) (gpre (gB a) (n - (j + 1)) k) := by
        rw [gwy_s, ed, show n - j = (n - (j + 1)) + 1 by omega, gpre_s]
        unfold gdig
        rw [show n - 1 - j = n - (j + 1) by omega]
      have sg : gok a sort (j + 1) (gpre (gB a) (n - (j + 1)) k) = gtst a sort j (gwy a (j + 1) (gpre (gB a) (n - (j + 1)) k)) := by
        show (gok a sort j (gpre (gB a) (n - (j + 1)) k / gB a) && _) = _
        rw [← gpre_s, show n - (j + 1) + 1 = n - j by omega, g, Bool.true_and]
      have g1 := c1 g
      subst g1
      refine w217_9 ⟨by unfold zR; omega, by unfold zR; omega, fun c => by omega, fun _ => ⟨by decide, fun c => absurd c (by decide), fun _ => ⟨by omega, G_passf k2 wx wf (by show -1 ≤ Z2 114 x4 - 1 ∧ Z2 114 x4 - 1 < a.1.2.1; omega) (by show a.1.2.2.1 + (j : Int) < 1000000; omega) fun r Z3 k3 s3 => ?_⟩⟩⟩
      rw [st] at k3
      have wf3 := gwy_wf wx (j + 1) (gpre (gB a) (n - (j + 1)) k) (by omega)
      have q1 : gtst a sort j (gwy a (j + 1) (gpre (gB a) (n - (j + 1)) k)) = true → TZ (d + 4) 217 9 [some (.inr 100), some (.inl x1), some (.inl x2), some (.inl 1), some (.inl (x4 + 1))] [] Z3 (zri Q) := fun t => ih (j + 1) 1 (x4 + 1) Z3 (by omega) (by omega) (by omega) (fun _ => rfl) (fun c => absurd (sg.trans t) c) k3 (s2.trans s3)
      have q0 : gtst a sort j (gwy a (j + 1) (gpre (gB a) (n - (j + 1)) k)) = false → TZ (d + 4) 217 9 [some (.inr 100), some (.inl x1), some (.inl x2), some (.inl 0), some (.inl (x4 + 1))] [] Z3 (zri Q) := fun t => ih (j + 1) 0 (x4 + 1) Z3 (by omega) (by omega) (by omega) (fun c => absurd (c.symm.trans (sg.trans t)) (by decide)) (fun _ => rfl) k3 (s2.trans s3)
      refine G_wrong k3 wf3 (G_chord k3 wf3 ?_)
      have er := gerrs_b (s := gwy a (j + 1) (gpre (gB a) (n - (j + 1)) k))
      have zc := gsit_r (s := gwy a (j + 1) (gpre (gB a) (n - (j + 1)) k))
      rcases hs with h | h | h <;> subst h
      · refine w215_0 ⟨by unfold zR; omega, fun c => by omega, fun _ => ⟨by unfold zR; omega, fun c => ⟨by unfold zR; omega, fun c' => by omega, fun _ => ⟨by decide, fun _ => q0 (decide_eq_false c), fun c' => absurd (show (0 : Int) ≠ 1 by decide) c'⟩⟩, fun c => ⟨by unfold zR; omega, fun c' => by omega, fun _ => ⟨by decide, fun c' => absurd rfl c', fun _ => q1 (decide_eq_true (by omega))⟩⟩⟩⟩
      · have rw1 := k3.row.2 x4 (by omega) (by have := hr (by decide); omega)
        refine w215_0 ⟨by unfold zR; omega, fun _ => ⟨by unfold zR; omega, fun c' => by omega, fun _ => ⟨by unfold zR; omega, fun _ => ⟨by omega, by unfold zR; omega, by unfold zR; omega, fun c => q0 (decide_eq_false ?_), fun c => q1 (decide_eq_true ?_)⟩, fun c' => by omega⟩⟩, fun c => by omega⟩
        · rw [← e4, ← rw1.1]; omega
        · rw [← e4, ← rw1.1]; omega
      · have rw1 := k3.row.2 x4 (by omega) (by have := hr (by decide); omega)
        refine w215_0 ⟨by unfold zR; omega, fun _ => ⟨by unfold zR; omega, fun _ => ⟨by unfold zR; omega, fun _ => ⟨by omega, zc, by unfold zR; omega, fun c => q0 (decide_eq_false ?_), fun c => q1 (decide_eq_true ?_)⟩, fun c' => by omega⟩, fun c' => by omega⟩, fun c => by omega⟩
        · rw [← e4, ← rw1.1]; omega
        · rw [← e4, ← rw1.1]; omega
    · have ng : ¬ gok a sort n k = true := fun h => g (gok_le (n - j) j k (by rw [show j + (n - j) = n by omega]; exact h))
      have g0 := c0 g
      subst g0
      exact w217_9 ⟨by unfold zR; omega, by unfold zR; omega, fun c => by omega, fun _ => ⟨by decide, fun _ => G_forgets k2 wx fun Z3 l s3 => ⟨by decide, h0 ng Z3 l (s2.trans s3)⟩, fun c => absurd rfl c⟩⟩
theorem gBn_b (wx : WX a) (hn : n ≤ 4) : gB a ^ n ≤ 2401 := by
  have b := gB_b wx
  rcases (show gB a = 6 ∨ gB a = 7 by omega) with h | h <;> rw [h] <;> rcases (show n = 0 ∨ n = 1 ∨ n = 2 ∨ n = 3 ∨ n = 4 by omega) with e | e | e | e | e <;> subst e <;> decide
end
/-! LOOKS with their very answers: feeding, by the reference; plays, whoMoved, highest, by the class -/
theorem gfold_inv {S : Type} {f : Nat → S → S} {s : S} {P : S → Prop} (h0 : P s) (h : ∀ k s, P s → P (f k s)) : ∀ k, P (gfold f s k)
  | 0 => h0
  | k + 1 => h k _ (gfold_inv h0 h k)
section
variable {d : Nat} {Z Z1 Z2 : zM} {a : gX} {n k i K : Nat} {s : gS}
theorem ffd_b (wx : WX a) (hn : n ≤ 4) (k : Nat) : (gfold (ffd a n) (1000000, 0) k).1 = 1000000 ∨ (0 ≤ (gfold (ffd a n) (1000000, 0) k).1 ∧ (gfold (ffd a n) (1000000, 0) k).1 ≤ 24) := by
  refine gfold_inv (P := fun s : Int × Nat => s.1 = 1000000 ∨ (0 ≤ s.1 ∧ s.1 ≤ 24)) (Or.inl rfl) (fun k s h => ?_) k
  have b := gB_b wx
  have G := gfs_b (B := gB a) (by omega) n k
  unfold ffd
  split
  · exact Or.inr ⟨G.1, by dsimp only; omega⟩
  · exact h
theorem Y_feeding {x1 x2 : Int} (A : RX Z a) (wx : WX a) (h1 : zR x1) (h2 : zR x2) : TI (d + 5) 219 [.inr 100, .inl x1, .inl x2] Z (PostR Z (oq a (geith (gund x2 (-1)) (gout x1 1 4)) (vFeeding a x1 x2))) := by
  have m := QS.refl A
  have b := gB_b wx
  refine w219_0 ⟨h1, fun c => G_no m wx (by unfold geith gund gout; (repeat' split) <;> omega) (by decide), fun c => ⟨h2, fun c2 => ⟨h1, fun c3 => ?_, fun c3 => G_no m wx (by unfold geith gund gout; (repeat' split) <;> omega) (by decide)⟩, fun c2 => G_no m wx (by unfold geith gund gout; (repeat' split) <;> omega) (by decide)⟩⟩
  have hc : geith (gund x2 (-1)) (gout x1 1 4) = 0 := by unfold geith gund gout; (repeat' split) <;> omega
  obtain ⟨n, en⟩ : ∃ n : Nat, x1 = n := ⟨x1.toNat, by omega⟩
  have hn : n ≤ 4 := by omega
  have e1 : x1.toNat = n := by omega
  have B4 := gBn_b wx hn
  suffices H : ∀ (f k : Nat) (x3 x5 : Int) (Z1 : zM), x5 = k → f = gB a ^ n - k → k ≤ gB a ^ n → QS Z Z1 a → ((gfold (ffd a n) (1000000, 0) k).1 ≠ 1000000 → ∀ j : Nat, j < n → Z1 115 j = ((gdig (gB a) n (gfold (ffd a n) (1000000, 0) k).2 j : Nat) : Int)) → TZ (d + 5) 219 44 [some (.inr 100), some (.inl x1), some (.inl x2), some (.inl x3), some (.inl (gmin (gfold (ffd a n) (1000000, 0) k).1)), some (.inl x5)] [] Z1 (zri (PostR Z (oq a (geith (gund x2 (-1)) (gout x1 1 4)) (vFeeding a x1 x2)))) from H (gB a ^ n) 0 0 0 Z rfl rfl (Nat.zero_le _) m (fun y => absurd rfl y)
  intro f
  induction f with
  | zero =>
    intro k x3 x5 Z1 e5 ef y l h
    have ek : k = gB a ^ n := by omega
    have sb := ffd_b wx hn k
    refine w219_44 (G_212 l.now.2.1 wx hn en ⟨by unfold zR; omega, by unfold zR; omega, fun _ => ?_, fun c4 => by omega⟩)
    have ok : ∀ v, v = vFeeding a x1 x2 → PostR Z (oq a (geith (gund x2 (-1)) (gout x1 1 4)) (vFeeding a x1 x2)) v Z1 := fun v hv => by rw [hv]; exact G_ok l hc
    have v1 : vFeeding a x1 x2 = if x2 = -1 then gmin (gfold (ffd a n) (1000000, 0) k).1 else gans a n (gfold (ffd a n) (1000000, 0) k) x2 := by
      unfold vFeeding gfd0; rw [e1, ek]
    rw [v1] at ok ⊢
    generalize gfold (ffd a n) (1000000, 0) k = s at h sb ok
    unfold gmin gans at *
    refine ⟨h2, fun c => ok _ (by rw [if_pos (show x2 = -1 by omega)]), fun c => ⟨by unfold zR; split <;> omega, fun c5 => ⟨h2, h1, fun c6 => ok _ ?_, fun c6 => ⟨by omega, ok _ ?_⟩⟩, fun c5 => ok _ ?_⟩⟩
    · have ns : s.1 ≠ 1000000 := by intro e; rw [if_pos e] at c5; omega
      rw [if_neg (show ¬ x2 = -1 by omega), if_neg ns, if_pos (Or.inr (by omega))]
    · have ns : s.1 ≠ 1000000 := by intro e; rw [if_pos e] at c5; omega
      rw [if_neg (show ¬ x2 = -1 by omega), if_neg ns, if_neg (by omega), ← h ns x2.toNat (by omega), Int.toNat_of_nonneg (by omega)]
    · have ns : s.1 = 1000000 := by
        by_cases e : s.1 = 1000000
        · exact e
        · rw [if_neg e] at c5; omega
      rw [if_neg (show ¬ x2 = -1 by omega), if_pos ns, if_pos ns]
  | succ f ih =>
    intro k x3 x5 Z1 e5 ef y l h
    have sb := ffd_b wx hn k
    have nx : gfold (ffd a n) (1000000, 0) (k + 1) = ffd a n k (gfold (ffd a n) (1000000, 0) k) := rfl
    have ih := ih (k + 1)
    rw [nx] at ih
    generalize gfold (ffd a n) (1000000, 0) k = s at h sb ih
    have G := gfs_b (B := gB a) (by omega) n k
    refine w219_44 (G_212 l.now.2.1 wx hn en ⟨by unfold zR; omega, by unfold zR; omega, fun c4 => by omega, fun c4 => G_213 l.now.2.1 wx hn (by omega) e5 en fun Z14 g14 wd => ?_⟩)
    have l14 : QS Z Z14 a := l.one wx (c := 114) (by unfold scq; omega) g14
    have h14 : s.1 ≠ 1000000 → ∀ j : Nat, j < n → Z14 115 j = ((gdig (gB a) n s.2 j : Nat) : Int) := by rw [g14 115 (by decide)]; exact h
    have tk : gok a 0 n k = true → gfs (gB a) n k < s.1 → ∀ Z3, QS Z Z3 a → WG a n k Z3 → TI (d + 4) 214 [.inr 100, .inl x1] Z3 (fun r22 Z21 => TV (d + 4) 218 [.inr 100, .inl x1] Z21 (fun Z23 => TZ (d + 5) 219 44 [some (.inr 100), some (.inl x1), some (.inl x2), some (.inl x3), some (.inl r22), some (.inl (x5 + 1))] [] Z23 (zri (PostR Z (oq a (geith (gund x2 (-1)) (gout x1 1 4)) (vFeeding a x1 x2)))))) := by
      intro gk lt Z3 l3 w3
      refine G_214 wx hn en w3 (G_218 hn en fun Z4 g4 c4 => ?_)
      have := ih x3 (x5 + 1) Z4 (by omega) (by omega) (by omega) (l3.one wx (c := 115) (by unfold scq; omega) g4)
      rw [ffd_s, if_pos ⟨gk, lt⟩] at this
      unfold gmin at this
      rw [if_neg (by dsimp only; omega)] at this
      exact this fun _ j hj => by rw [c4 j hj, w3 j hj]
    have sk : ¬ (gok a 0 n k = true ∧ gfs (gB a) n k < s.1) → ∀ Z3, QS Z Z3 a → (s.1 ≠ 1000000 → ∀ j : Nat, j < n → Z3 115 j = ((gdig (gB a) n s.2 j : Nat) : Int)) → TZ (d + 5) 219 44 [some (.inr 100), some (.inl x1), some (.inl x2), some (.inl x3), some (.inl (gmin s.1)), some (.inl (x5 + 1))] [] Z3 (zri (PostR Z (oq a (geith (gund x2 (-1)) (gout x1 1 4)) (vFeeding a x1 x2)))) := by
      intro ng Z3 l3 h3
      have := ih x3 (x5 + 1) Z3 (by omega) (by omega) (by omega) l3
      rw [ffd_s, if_neg ng] at this
      exact this h3
    have m4 : zR (gmin s.1) := by unfold gmin zR; split <;> omega
    have kp : ∀ Z3, same Z14 Z3 → (s.1 ≠ 1000000 → ∀ j : Nat, j < n → Z3 115 j = ((gdig (gB a) n s.2 j : Nat) : Int)) := fun Z3 s3 => by rw [s3 115 (by decide)]; exact h14
    refine ⟨m4, fun c5 => G_217 (sort := 0) l14 wx (Or.inl rfl) rfl en hn (fun e => absurd rfl e) wd (fun gk Z3 l3 s3 => ⟨by decide, fun _ => tk gk ?_ Z3 l3 (wd.same s3), fun c6 => absurd (show (1 : Int) ≠ 0 by decide) c6⟩) (fun ng Z3 l3 s3 => ⟨by decide, fun c6 => absurd rfl c6, fun _ => sk (fun q => ng q.1) Z3 l3 (kp Z3 s3)⟩), fun c5 => G_214 wx hn en wd ⟨by unfold zR; omega, m4, fun c6 => sk (fun q => ?_) Z14 l14 h14, fun c6 => G_217 (sort := 0) l14 wx (Or.inl rfl) rfl en hn (fun e => absurd rfl e) wd (fun gk Z3 l3 s3 => ⟨by decide, fun _ => tk gk ?_ Z3 l3 (wd.same s3), fun c7 => absurd (show (1 : Int) ≠ 0 by decide) c7⟩) (fun ng Z3 l3 s3 => ⟨by decide, fun c7 => absurd rfl c7, fun _ => sk (fun q => ng q.1) Z3 l3 (kp Z3 s3)⟩)⟩⟩
    · unfold gmin at c5; split at c5 <;> omega
    · unfold gmin at c5 c6; split at c5 <;> omega
    · unfold gmin at c5 c6; split at c5 <;> omega
/-- what the row tells is put down -/
theorem F_51 {q : Nat} {Q : zM → Prop} (hq : q ∈ zQu) (hQ : ∀ Z', (∀ c, c ≠ q + 3 → Z' c = Z1 c) → (∀ p, 0 ≤ p → p < 4 → Z' (q + 3) p = Z1 40 p) → Q Z') : TV (d + 1) 51 [.inr q, .inr 39] Z1 Q :=
  w51_0 hq fun Z2 e2 => hQ Z2 (fun c hc => by subst e2; funext p; unfold zcpy; rw [if_neg hc]) fun p h1 h2 => by subst e2; unfold zcpy; rw [if_pos rfl, if_pos ⟨h1, h2⟩]
theorem rowE (A : CX Z a) : Z 39 3 = a.2.2.2.2.1.1 ∧ (0 ≤ a.2.2.2.2.1.1 ∧ a.2.2.2.2.1.1 ≤ 12) ∧ ∀ j, 0 ≤ j → j < a.2.2.2.2.1.1 → Z 40 j = a.2.2.2.2.1.2 j ∧ zR (a.2.2.2.2.1.2 j) := by
  obtain ⟨b1, b2, b3⟩ := A.2.2.2.2.1
  exact ⟨b1, b2, fun j h1 h2 => ⟨(b3 j h1 h2).1, by have := (b3 j h1 h2).2; unfold zR; omega⟩⟩
def TD (a : gX) (n : Nat) (T : Int → Int) : Prop := ∀ j : Nat, j < n → T j = a.2.2.2.2.1.2 j ∧ zR (a.2.2.2.2.1.2 j)
/-! chords as the row tells: the first way -/
def fpl (a : gX) (n k : Nat) (s : Int × Nat) : Int × Nat := if gok a 2 n k = true ∧ s.1 = 1000000 then (1, k) else s
theorem fpl_s {s : Int × Nat} : fpl a n k s = if gok a 2 n k = true ∧ s.1 = 1000000 then (1, k) else s := rfl
def gpl (a : gX) (n : Nat) : Int × Nat := gfold (fpl a n) (1000000, 0) (gB a ^ n)
def vPlays (a : gX) (x1 : Int) : Int := if x1 = -1 then (if (gpl a a.2.2.2.2.1.1.toNat).1 = 1000000 then 0 else 1) else gans a a.2.2.2.2.1.1.toNat (gpl a a.2.2.2.2.1.1.toNat) x1
def RPl (a : gX) (n : Nat) (s : Int × Nat) : gRl := fun O F T => RW a n s O F T ∧ TD a n T
theorem F_o54 (wx : WX a) (hn : n ≤ 4) : QO 54 8 d Z a (JL a 2 n (fpl a n) (1000000, 0) (RPl a n (1000000, 0)) (RPl a n)) (JM a 2 n (fpl a n) (1000000, 0) (RPl a n)) := by
  intro i K x Z1 Q hi hx m j hQ
  have r := JL_r j id
  obtain ⟨o, h1, g, -, -⟩ := j
  obtain ⟨r, td⟩ := r
  have C := m.2.1 i (Nat.le_refl _)
  rw [Nat.sub_self] at C
  have C : CFs (70 + 6 * i) Z1 (gwy a i K) := C
  have wf := gwy_wf wx i K (by omega)
  have zx : zR x := by unfold zR; omega
  have hq : 54 ∈ zQu := by decide
  have r4 : zR (Z1 54 4) := by rw [r.1]; have := r.2.1; unfold zR; omega
  refine w8_0 (zFi hi) ⟨r4, fun c => ?_, fun c => C_satOn (zFi hi) C wf (F_52 (v := gsit (gwy a i K)) hq hi hx (fun e => ?_) gsit_r (fun hv => ⟨by decide, fun _ => ?_, fun y => absurd (show (1 : Int) ≠ 0 by decide) y⟩) (fun e hv => ⟨by decide, fun y => absurd rfl y, fun _ => ?_⟩))⟩
  · refine hQ 0 Z1 m (Or.inl ⟨rfl, JM_cut wx h1 o g (fun k hk => ?_) ⟨r, td⟩⟩)
    rw [fpl_s]
    exact if_neg fun h => by have := r.1; omega
  · have := td (i - 1) (by omega)
    rw [show x - 1 = ((i - 1 : Nat) : Int) by omega]
    show zR (Z1 57 _)
    rw [this.1]; exact this.2
  · have gk : gok a 2 i K = true := gok_y g fun e => by
      have t := hv e
      have := td (i - 1) (by omega)
      rw [show x - 1 = ((i - 1 : Nat) : Int) by omega] at t
      exact decide_eq_true (this.1.symm.trans t)
    refine F_fin (d := d + 1) (Z1 := Z1) (r := 1) (Q := Q) hq hi hx (by rw [o]; unfold zR; omega) (fun c2 => hQ 1 Z1 m (Or.inr ⟨rfl, by omega, JL_down wx (by omega) o gk ⟨r, td⟩⟩)) (fun c2 Z' a1 a2 a3 a4 a5 => ?_)
    have ei : i = n := by omega
    refine hQ 0 Z' (m.scr (by decide) a1) (Or.inl ⟨rfl, JM_leaf ei ((a2 3 (by decide) (by decide)).trans o) g ?_⟩)
    have r1 := r.1
    have rb := r.2.1
    rw [fpl_s, if_pos ⟨by rw [← ei]; exact gk, by omega⟩]
    refine ⟨⟨a3, Or.inr (by dsimp only; omega), fun y => absurd y (by dsimp only; omega), fun _ => ⟨by rw [a4, ei], fun j hj => ?_⟩⟩, fun j hj => by rw [a1 (54 + 3) (by decide) (by decide)]; exact td j hj⟩
    rw [a5 j (by omega), m.2.2.2 j (by omega), ei]
    rfl
  · refine hQ 0 Z1 m (Or.inl ⟨rfl, JM_cut wx h1 o g (fun k hk => ?_) ⟨r, td⟩⟩)
    rw [fpl_s]
    refine if_neg fun h => gok_n (a := a) (sort := 2) h1 e ?_ hk h.1
    have := td (i - 1) (by omega)
    rw [show x - 1 = ((i - 1 : Nat) : Int) by omega] at hv
    exact decide_eq_false fun y => hv (this.1.trans y)
theorem gunfit_l {x : Int} (u : gunfit a x = 0) (b : 0 ≤ a.2.2.2.2.1.1) : a.2.2.2.2.1.1.toNat ≤ 4 ∧ a.2.2.2.2.1.1 = (a.2.2.2.2.1.1.toNat : Int) := by
  unfold gunfit at u
  split at u
  · exact absurd u (by decide)
  · omega
theorem glo_e {B : Nat} : glo B n 0 (0 + 1) = B ^ n := by unfold glo; rw [Nat.zero_add, Nat.one_mul, Nat.sub_zero]
theorem X_plays {x1 : Int} (A : CX Z a) (wx : WX a) (h1 : zR x1) : TI (d + 10) 128 [.inr 0, .inl x1] Z (PostC Z (oq a (geith (gund x1 (-1)) (gunfit a 63)) (vPlays a x1))) := by
  have g := geith_b (gb4 (x := x1) (lo := -1)) (gunfit_b (a := a) (x := 63))
  obtain ⟨re, rb, rv⟩ := rowE A
  refine w128_0 (C_under h1 (by decide) (C_unfit A (by decide) (C_either (zR9 gb4) ⟨zR9 g, fun c => ?_, fun c => C_refuse (by omega) (PRq A c g)⟩)))
  obtain ⟨hn, en⟩ := gunfit_l (geith_0.mp c).2 rb.1
  refine F_50 (by decide) fun Z1 k1 k3 k4 k5 => F_51 (by decide) fun Z3 k6 k7 => F_open54 A wx (JL_p wx) (fun d => F_o54 wx hn) (sq50 (sq50 (frs.refl _ _) (by decide) k1) (by decide) k6) ⟨by rw [k6 54 (by decide), k3, re]; exact en, Nat.zero_le _, rfl, fun _ => ⟨rfl, ⟨by rw [k6 54 (by decide)]; exact k4, Or.inl rfl, fun _ => by rw [k6 54 (by decide)]; exact k5, fun y => absurd rfl y⟩, fun j hj => ?_⟩, fun y => absurd rfl y⟩ fun Z2 f2 j => ?_
  · have := rv j (by omega) (by omega)
    rw [k7 j (by omega) (by omega), k1 40 (by decide)]
    exact this
  · obtain ⟨-, -, -, r, td⟩ := j
    rw [glo_e] at r
    have ok := PQ (v := vPlays a x1) A c f2
    unfold vPlays at ok ⊢
    refine ⟨h1, fun y => ?_, fun y => ⟨?_, fun q => ?_, fun q => ?_⟩⟩
    · rw [if_neg y] at ok ⊢
      exact F_56 (by decide) hn h1 r ok
    · rw [r.1]; have := r.2.1; unfold zR; omega
    · rw [if_pos (by omega), if_neg (by rw [r.1] at q; exact q)] at ok ⊢
      exact ok
    · rw [if_pos (by omega), if_pos (by have := r.1; show (gpl a a.2.2.2.2.1.1.toNat).1 = 1000000; unfold gpl; omega)] at ok ⊢
      exact ok
end
/-! plays, by the reference; whoMoved and highest -/
section
variable {d : Nat} {Z Z1 Z2 : zM} {a : gX} {n k i K : Nat} {s : gS}
theorem Y_plays {x1 : Int} (A : RX Z a) (wx : WX a) (h1 : zR x1) : TI (d + 5) 241 [.inr 100, .inl x1] Z (PostR Z (oq a (geith (gund x1 (-1)) (gunfit a 63)) (vPlays a x1))) := by
  have m := QS.refl A
  have b := gB_b wx
  refine w241_0 ⟨h1, fun c => D_240 m (by decide) ?_, fun c => G_no m wx (by rw [gu4 c]; rfl) (by decide)⟩
  by_cases u : gunfit a 63 = 0
  · rw [if_pos u]
    refine ⟨by decide, fun _ => ?_, fun e => absurd (show (1 : Int) ≠ 0 by decide) e⟩
    have hc : geith (gund x1 (-1)) (gunfit a 63) = 0 := geith_0.mpr ⟨gu0 c, u⟩
    obtain ⟨hn, en⟩ := gunfit_l u m.row.1.1
    have hv : vPlays a x1 = if x1 = -1 then (if (gfold (fpl a a.2.2.2.2.1.1.toNat) (1000000, 0) (gB a ^ a.2.2.2.2.1.1.toNat)).1 = 1000000 then 0 else 1) else gans a a.2.2.2.2.1.1.toNat (gfold (fpl a a.2.2.2.2.1.1.toNat) (1000000, 0) (gB a ^ a.2.2.2.2.1.1.toNat)) x1 := rfl
    have mr := m.row.1
    generalize a.2.2.2.2.1.1.toNat = n at hn en hv
    have B4 := gBn_b wx hn
    suffices H : ∀ (f k : Nat) (x2 x3 : Int) (Z1 : zM), x3 = k → f = gB a ^ n - k → k ≤ gB a ^ n → (gfold (fpl a n) (1000000, 0) k).1 = 1000000 → QS Z Z1 a → TZ (d + 5) 241 38 [some (.inr 100), some (.inl x1), some (.inl x2), some (.inl x3)] [] Z1 (zri (PostR Z (oq a (geith (gund x1 (-1)) (gunfit a 63)) (vPlays a x1)))) from H _ 0 0 0 Z rfl rfl (Nat.zero_le _) rfl m
    intro f
    induction f with
    | zero =>
      intro k x2 x3 Z1 e3 ef y hs l
      have e26 := l.now.2.2.2
      have ek : k = gB a ^ n := by omega
      have ok : ∀ v, v = vPlays a x1 → PostR Z (oq a (geith (gund x1 (-1)) (gunfit a 63)) (vPlays a x1)) v Z1 := fun v hv => by rw [hv]; exact G_ok l hc
      rw [hv, ← ek] at ok ⊢
      unfold gans at ok ⊢
      exact w241_38 (G_212 l.now.2.1 wx hn (by omega) ⟨by unfold zR; omega, by unfold zR; omega, fun _ => ⟨h1, fun _ => ok _ (by rw [if_neg (show ¬ x1 = -1 by omega), if_pos hs]), fun _ => ok _ (by rw [if_pos (show x1 = -1 by omega), if_pos hs])⟩, fun c4 => by omega⟩)
    | succ f ih =>
      intro k x2 x3 Z1 e3 ef y hs l
      have e26 := l.now.2.2.2
      refine w241_38 (G_212 l.now.2.1 wx hn (by omega) ⟨by unfold zR; omega, by unfold zR; omega, fun c4 => by omega, fun c4 => G_213 (n := n) l.now.2.1 wx hn (by omega) e3 (by omega) fun Z8 g8 wd => ?_⟩)
      have l8 : QS Z Z8 a := l.one wx (c := 114) (by unfold scq; omega) g8
      have e8 := l8.now.2.2.2
      refine G_217 (sort := 2) l8 wx (Or.inr (Or.inr rfl)) rfl (show Z8 100 26 = (n : Int) by omega) hn (fun _ => by omega) wd (fun gk Z3 l3 s3 => ⟨by decide, fun c => absurd c (by decide), fun _ => ?_⟩) (fun ng Z3 l3 s3 => ⟨by decide, fun _ => ?_, fun c => absurd rfl c⟩)
      · have e3' := l3.now.2.2.2
        have st : gfold (fpl a n) (1000000, 0) (gB a ^ n) = (1, k) := by
          have s1 : gfold (fpl a n) (1000000, 0) (k + 1) = (1, k) := by
            show fpl a n k (gfold (fpl a n) (1000000, 0) k) = _
            rw [fpl_s, if_pos ⟨gk, hs⟩]
          have := gfold_const (f := fpl a n) (s := (1000000, 0)) (lo := k + 1) (gB a ^ n - (k + 1)) fun k' _ _ => by
            rw [s1, fpl_s, if_neg fun q => absurd q.2 (show ¬ (1 : Int) = 1000000 by decide)]
          rw [show k + 1 + (gB a ^ n - (k + 1)) = gB a ^ n by omega] at this
          rw [this, s1]
        have ok : ∀ v, v = vPlays a x1 → PostR Z (oq a (geith (gund x1 (-1)) (gunfit a 63)) (vPlays a x1)) v Z3 := fun v hv => by rw [hv]; exact G_ok l3 hc
        rw [hv, st] at ok ⊢
        unfold gans at ok ⊢
        have n1 : ¬ (1 : Int) = 1000000 := by decide
        refine ⟨h1, fun c1 => ⟨h1, by unfold zR; omega, fun c2 => ok _ ?_, fun c2 => ⟨by omega, ok _ ?_⟩⟩, fun c1 => ok _ ?_⟩
        · rw [if_neg (show ¬ x1 = -1 by omega), if_neg n1, if_pos (Or.inr (by omega))]
        · rw [if_neg (show ¬ x1 = -1 by omega), if_neg n1, if_neg (by omega)]
          have := (wd.same s3) x1.toNat (by omega)
          rw [Int.toNat_of_nonneg (by omega)] at this
          exact this
        · rw [if_pos (show x1 = -1 by omega), if_neg n1]
      · refine ih (k + 1) _ _ Z3 (by omega) (by omega) (by omega) ?_ l3
        show (fpl a n k (gfold (fpl a n) (1000000, 0) k)).1 = 1000000
        rw [fpl_s, if_neg fun q => ng q.1]
        exact hs
  · rw [if_neg u]
    exact ⟨by decide, fun e => absurd rfl e, fun _ => G_no m wx (by rw [ge0 (gu0 c)]; exact gunfit_v u) (by decide)⟩
/-! all ways by which wrong is as the row tells -/
def gfd (B n k : Nat) (x : Int) : Nat → Int
  | 0 => x
  | j + 1 => if gdig B n k j = 0 then gfd B n k x j else zbit 4 (gfd B n k x j) (zbit 6 1 (((gdig B n k j : Nat) : Int) - 1))
theorem gfd_r {B n k : Nat} {x : Int} (h : zR x) : ∀ j, zR (gfd B n k x j)
  | 0 => h
  | j + 1 => by
    unfold gfd
    split
    · exact gfd_r h j
    · exact zbit_r _ _ _
def fwm (a : gX) (n k : Nat) (s : Int × Int × Int) : Int × Int × Int := if gok a 1 n k = true then (s.1 + 1, gfd (gB a) n k s.2.1 n, min s.2.2 (gfs (gB a) n k)) else s
theorem fwm_s {s : Int × Int × Int} : fwm a n k s = if gok a 1 n k = true then (s.1 + 1, gfd (gB a) n k s.2.1 n, min s.2.2 (gfs (gB a) n k)) else s := rfl
def gmd (a : gX) (n : Nat) : Int × Int × Int := gfold (fwm a n) (0, 0, 1000000) (gB a ^ n)
def vWhoMoved (a : gX) (x1 : Int) : Int := if x1 = 0 then (gmd a a.2.2.2.2.1.1.toNat).1 else if x1 = 1 then (gmd a a.2.2.2.2.1.1.toNat).2.1 else gmin (gmd a a.2.2.2.2.1.1.toNat).2.2
def RV (a : gX) (n : Nat) (s : Int × Int × Int) : gRl := fun O _ T => O 6 = s.1 ∧ O 7 = s.2.1 ∧ O 4 = s.2.2 ∧ (s.2.2 = 1000000 ∨ (0 ≤ s.2.2 ∧ s.2.2 ≤ 24)) ∧ TD a n T
def RV0 (a : gX) (n : Nat) : gRl := fun O _ T => O 4 = 1000000 ∧ TD a n T
theorem F_44 {x : Int} {Q : zM → Prop} (wx : WX a) (m : QX 58 Z Z1 a i K) (hi : i ≤ 4) (hx : x = i) (hv : zR (Z1 58 4)) (hQ : ∀ Z', (∀ c, c ≠ 58 → Z' c = Z1 c) → Z' 58 3 = Z1 58 3 → Z' 58 6 = Z1 58 6 + 1 → Z' 58 4 = min (Z1 58 4) (gfs (gB a) i K) → Z' 58 7 = gfd (gB a) i K (Z1 58 7) i → Q Z') : TV (d + 1) 44 [.inr 58, .inl x] Z1 Q := by
  have b := gB_b wx
  have G := gfs_b (B := gB a) (by omega) i K
  have w := m.2.2.2
  refine w44_0 fun Z2 e2 => F_54 (q := 58) (a := a) (i := i) (K := K) (by decide) wx (fun j hj => ?_) hi hx ⟨?_, by unfold zR; omega, fun Z6 e6 => ?_⟩
  · rw [e2, zup_cell _ _ _ _ (by decide)]; exact w j hj
  · rw [e2, zup_place _ _ _ _ (by decide)]; exact hv
  · suffices H : ∀ (f j : Nat) (x2 : Int) (Z7 : zM), x2 = j → f = i - j → j ≤ i → (∀ c, c ≠ 58 → Z7 c = Z1 c) → Z7 58 3 = Z1 58 3 → Z7 58 6 = Z1 58 6 + 1 → Z7 58 4 = min (Z1 58 4) (gfs (gB a) i K) → Z7 58 7 = gfd (gB a) i K (Z1 58 7) j → TZ (d + 1) 44 28 [some (.inr 58), some (.inl x), some (.inl x2)] [] Z7 (zrv Q) from by
      refine H i 0 0 Z6 rfl rfl (Nat.zero_le _) (fun c hc => ?_) ?_ ?_ ?_ ?_
      · subst e6 e2; funext p; rw [zup_cell _ _ _ _ hc, zup_cell _ _ _ _ hc]
      · subst e6 e2; rw [zup_place _ _ _ _ (by decide), zup_place _ _ _ _ (by decide)]
      · subst e6 e2; rw [zup_place _ _ _ _ (by decide), zup_same]
      · subst e6 e2; rw [zup_same, zup_place _ _ _ _ (by decide)]
      · subst e6 e2; rw [zup_place _ _ _ _ (by decide), zup_place _ _ _ _ (by decide)]; rfl
    intro f
    induction f with
    | zero =>
      intro j x2 Z7 ej ef y g h3 h6 h4 h7
      have : j = i := by omega
      subst this
      exact w44_28 ⟨by unfold zR; omega, by unfold zR; omega, fun _ => hQ Z7 g h3 h6 h4 h7, fun c => by omega⟩
    | succ f ih =>
      intro j x2 Z7 ej ef y g h3 h6 h4 h7
      have v : Z7 59 x2 = ((gdig (gB a) i K j : Nat) : Int) := by rw [g 59 (by decide), ej]; exact w j (by omega)
      have db := gdig_b (B := gB a) (n := i) (k := K) (j := j) (by omega)
      refine w44_28 ⟨by unfold zR; omega, by unfold zR; omega, fun c => by omega, fun _ => ⟨by unfold zR; omega, fun c => by omega, fun _ => ⟨by omega, by unfold zR; omega, fun c => ?_, fun c => ⟨by omega, fun Z8 e8 => ?_⟩⟩⟩⟩
      · refine ih (j + 1) _ Z7 (by omega) (by omega) (by omega) g h3 h6 h4 ?_
        rw [h7]
        show _ = if gdig (gB a) i K j = 0 then _ else _
        rw [if_pos (by omega)]
      · refine ih (j + 1) _ Z8 (by omega) (by omega) (by omega) (fun c hc => by rw [e8]; funext p; rw [zup_cell _ _ _ _ hc, g c hc]) (by rw [e8, zup_place _ _ _ _ (by decide)]; exact h3) (by rw [e8, zup_place _ _ _ _ (by decide)]; exact h6) (by rw [e8, zup_place _ _ _ _ (by decide)]; exact h4) ?_
        rw [e8, zup_same, h7, v]
        show _ = if gdig (gB a) i K j = 0 then _ else _
        rw [if_neg (by omega)]
theorem F_r58 {x : Int} {Q : Int → zM → Prop} (wx : WX a) (hn : n ≤ 4) (hi : i ≤ 4) (hx : x = i) (m : QX 58 Z Z1 a i K) (o : Z1 58 3 = (n : Int)) (h1 : i ≤ n) (g : gok a 1 (i - 1) (K / gB a) = true) (r : RV a n (gfold (fwm a n) (0, 0, 1000000) (glo (gB a) n i K)) (Z1 58) (Z1 60) (Z1 61)) (hQ : ∀ r Z2, QX 58 Z Z2 a i K → ((r = 0 ∧ JM a 1 n (fwm a n) (0, 0, 1000000) (RV a n) i K (Z2 58) (Z2 60) (Z2 61)) ∨ (r = 1 ∧ i < 4 ∧ JL a 1 n (fwm a n) (0, 0, 1000000) (RV0 a n) (RV a n) (i + 1) (K * gB a) (Z2 58) (Z2 60) (Z2 61))) → Q r Z2) : TI (d + 2) 23 [.inr (70 + 6 * i)] Z1 (fun r4 Z3 => TI (d + 2) 52 [.inr 58, .inl x, .inl r4] Z3 (fun r6 Z5 => zR r6 ∧ (r6 ≠ 0 → (zR x ∧ zR (Z5 58 3) ∧ (x < (Z5 58 3) → (zR x ∧ zR (Z5 58 3) ∧ ((Z5 58 3) ≤ x → Q 0 Z5) ∧ (¬ (Z5 58 3) ≤ x → Q 1 Z5))) ∧ (¬ x < (Z5 58 3) → TV (d + 2) 44 [.inr 58, .inl x] Z5 (fun Z15 => zR x ∧ zR (Z15 58 3) ∧ ((Z15 58 3) ≤ x → Q 0 Z15) ∧ (¬ (Z15 58 3) ≤ x → Q 1 Z15))))) ∧ (¬ r6 ≠ 0 → Q 0 Z5))) := by
  have C := m.2.1 i (Nat.le_refl _)
  rw [Nat.sub_self] at C
  have C : CFs (70 + 6 * i) Z1 (gwy a i K) := C
  have wf := gwy_wf wx i K (by omega)
  have zx : zR x := by unfold zR; omega
  have zn : zR (Z1 58 3) := by rw [o]; unfold zR; omega
  have hq : 58 ∈ zQu := by decide
  have b := gB_b wx
  have G := gfs_b (B := gB a) (by omega) i K
  have er := gerrs_b (s := gwy a i K)
  have td := r.2.2.2.2
  refine C_errs (zFi hi) C wf (F_52 (v := gerrs (gwy a i K)) hq hi hx (fun e => ?_) (by unfold zR; omega) (fun hv => ⟨by decide, fun _ => ⟨zx, zn, fun c2 => ⟨zx, zn, fun y => by omega, fun _ => ?_⟩, fun c2 => ?_⟩, fun y => absurd (show (1 : Int) ≠ 0 by decide) y⟩) (fun e hv => ⟨by decide, fun y => absurd rfl y, fun _ => ?_⟩))
  · have := td (i - 1) (by omega)
    rw [show x - 1 = ((i - 1 : Nat) : Int) by omega]
    show zR (Z1 61 _)
    rw [this.1]; exact this.2
  · have gk : gok a 1 i K = true := gok_y g fun e => by
      have t := hv e
      have := td (i - 1) (by omega)
      rw [show x - 1 = ((i - 1 : Nat) : Int) by omega] at t
      exact decide_eq_true (this.1.symm.trans t)
    exact hQ 1 Z1 m (Or.inr ⟨rfl, by omega, JL_down wx (by omega) o gk r⟩)
  · have gk : gok a 1 i K = true := gok_y g fun e => by
      have t := hv e
      have := td (i - 1) (by omega)
      rw [show x - 1 = ((i - 1 : Nat) : Int) by omega] at t
      exact decide_eq_true (this.1.symm.trans t)
    have ei : i = n := by omega
    refine F_44 wx m hi hx (by rw [r.2.2.1]; have := r.2.2.2.1; unfold zR; omega) fun Z' g0 g3 g6 g4 g7 => ?_
    have o' : Z' 58 3 = (n : Int) := g3.trans o
    refine ⟨zx, by rw [o']; unfold zR; omega, fun _ => hQ 0 Z' (m.scr (by decide) fun c c1 c2 => g0 c c1) (Or.inl ⟨rfl, JM_leaf ei o' g ?_⟩), fun y => by omega⟩
    rw [fwm_s, if_pos (by rw [← ei]; exact gk)]
    rw [g0 61 (by decide)]
    refine ⟨by rw [g6, r.1], by rw [g7, r.2.1, ei], by rw [g4, r.2.2.1, ei], ?_, td⟩
    have := r.2.2.2.1
    rw [ei] at G
    dsimp only
    rw [ei] at this ⊢
    omega
  · refine hQ 0 Z1 m (Or.inl ⟨rfl, JM_cut wx h1 o g (fun k hk => ?_) r⟩)
    rw [fwm_s]
    refine if_neg fun h => gok_n (a := a) (sort := 1) h1 e ?_ hk h
    have := td (i - 1) (by omega)
    rw [show x - 1 = ((i - 1 : Nat) : Int) by omega] at hv
    exact decide_eq_false fun y => hv (this.1.trans y)
theorem F_o58 (wx : WX a) (hn : n ≤ 4) : QO 58 43 d Z a (JL a 1 n (fwm a n) (0, 0, 1000000) (RV0 a n) (RV a n)) (JM a 1 n (fwm a n) (0, 0, 1000000) (RV a n)) := by
  intro i K x Z1 Q hi hx m j hQ
  obtain ⟨o, h1, g, j0, j1⟩ := j
  have zx : zR x := by unfold zR; omega
  refine w43_0 (zFi hi) ⟨zx, fun c => F_r58 wx hn hi hx m o h1 g (j1 (by omega)) hQ, fun c Z2 e2 Z3 e3 => ?_⟩
  have g0 : ∀ c, c ≠ 58 → Z3 c = Z1 c := fun c hc => by subst e3 e2; funext p; rw [zup_cell _ _ _ _ hc, zup_cell _ _ _ _ hc]
  have o3 : Z3 58 3 = (n : Int) := by rw [e3, zup_place _ _ _ _ (by decide), e2, zup_place _ _ _ _ (by decide)]; exact o
  obtain ⟨k0, r4, td⟩ := j0 (by omega)
  refine F_r58 wx hn hi hx (m.scr (by decide) fun c c1 c2 => g0 c c1) o3 h1 g ?_ hQ
  rw [k0, glo_0]
  refine ⟨?_, ?_, ?_, Or.inl rfl, by rw [g0 61 (by decide)]; exact td⟩
  · rw [e3, zup_place _ _ _ _ (by decide), e2, zup_same]; rfl
  · rw [e3, zup_same]; rfl
  · rw [e3, zup_place _ _ _ _ (by decide), e2, zup_place _ _ _ _ (by decide)]; exact r4
theorem X_whoMoved {x1 : Int} (A : CX Z a) (wx : WX a) (h1 : zR x1) : TI (d + 10) 129 [.inr 0, .inl x1] Z (PostC Z (oq a (geith (gunk x1 2) (gunfit a 6)) (vWhoMoved a x1))) := by
  have g := geith_b (gb2 (x := x1) (m := 2)) (gunfit_b (a := a) (x := 6))
  obtain ⟨re, rb, rv⟩ := rowE A
  refine w129_0 (C_unknown h1 (by decide) (C_unfit A (by decide) (C_either (zR9 gb2) ⟨zR9 g, fun c => ?_, fun c => C_refuse (by omega) (PRq A c g)⟩)))
  have ck := gunk_0.mp (geith_0.mp c).1
  obtain ⟨hn, en⟩ := gunfit_l (geith_0.mp c).2 rb.1
  refine F_50 (by decide) fun Z1 k1 k3 k4 k5 => F_51 (by decide) fun Z3 k6 k7 => F_open58 A wx (JL_p wx) (fun d => F_o58 wx hn) (sq50 (sq50 (frs.refl _ _) (by decide) k1) (by decide) k6) ⟨by rw [k6 58 (by decide), k3, re]; exact en, Nat.zero_le _, rfl, fun _ => ⟨rfl, by rw [k6 58 (by decide)]; exact k4, fun j hj => ?_⟩, fun y => absurd rfl y⟩ fun Z2 f2 j => ?_
  · have := rv j (by omega) (by omega)
    rw [k7 j (by omega) (by omega), k1 40 (by decide)]
    exact this
  · obtain ⟨-, -, -, r1, r2, r3, r4, td⟩ := j
    rw [glo_e] at r1 r2 r3 r4
    have ok := PQ (v := vWhoMoved a x1) A c f2
    unfold vWhoMoved at ok ⊢
    refine ⟨h1, fun y => ⟨h1, fun q => ?_, fun q => ?_⟩, fun y => ?_⟩
    · rw [if_neg y, if_neg q] at ok ⊢
      exact F_55 (by decide) r3 r4 ok
    · rw [if_neg y, if_pos (by omega)] at ok ⊢
      rw [r2]; exact ok
    · rw [if_pos (by omega)] at ok ⊢
      rw [r1]; exact ok
end
/-! whoMoved, by the reference; highest -/
section
variable {d : Nat} {Z Z1 Z2 : zM} {a : gX} {n k i K : Nat} {s : gS}
theorem fwm_b (wx : WX a) (hn : n ≤ 4) (k : Nat) : zR (gfold (fwm a n) (0, 0, 1000000) k).2.1 ∧ ((gfold (fwm a n) (0, 0, 1000000) k).2.2 = 1000000 ∨ (0 ≤ (gfold (fwm a n) (0, 0, 1000000) k).2.2 ∧ (gfold (fwm a n) (0, 0, 1000000) k).2.2 ≤ 24)) := by
  refine gfold_inv (P := fun s : Int × Int × Int => zR s.2.1 ∧ (s.2.2 = 1000000 ∨ (0 ≤ s.2.2 ∧ s.2.2 ≤ 24))) ⟨(by decide : zR 0), Or.inl rfl⟩ (fun k s h => ?_) k
  have b := gB_b wx
  have G := gfs_b (B := gB a) (by omega) n k
  rw [fwm_s]
  split
  · exact ⟨gfd_r h.1 _, by have := h.2; dsimp only; omega⟩
  · exact h
theorem Y_whoMoved {x1 : Int} (A : RX Z a) (wx : WX a) (h1 : zR x1) : TI (d + 5) 244 [.inr 100, .inl x1] Z (PostR Z (oq a (geith (gunk x1 2) (gunfit a 6)) (vWhoMoved a x1))) := by
  have m := QS.refl A
  have b := gB_b wx
  refine w244_0 (R_isIn h1 (by decide) (by decide) (fun i => ⟨by decide, fun _ => D_240 m (by decide) ?_, fun e => absurd (show (1 : Int) ≠ 0 by decide) e⟩) (fun i => ⟨by decide, fun e => absurd rfl e, fun _ => G_no m wx (by rw [gu2 i]; rfl) (by decide)⟩))
  by_cases u : gunfit a 6 = 0
  · rw [if_pos u]
    refine ⟨by decide, fun _ => ?_, fun e => absurd (show (1 : Int) ≠ 0 by decide) e⟩
    have hc : geith (gunk x1 2) (gunfit a 6) = 0 := geith_0.mpr ⟨gunk_0.mpr i, u⟩
    obtain ⟨hn, en⟩ := gunfit_l u m.row.1.1
    have hv : vWhoMoved a x1 = if x1 = 0 then (gfold (fwm a a.2.2.2.2.1.1.toNat) (0, 0, 1000000) (gB a ^ a.2.2.2.2.1.1.toNat)).1 else if x1 = 1 then (gfold (fwm a a.2.2.2.2.1.1.toNat) (0, 0, 1000000) (gB a ^ a.2.2.2.2.1.1.toNat)).2.1 else gmin (gfold (fwm a a.2.2.2.2.1.1.toNat) (0, 0, 1000000) (gB a ^ a.2.2.2.2.1.1.toNat)).2.2 := rfl
    have mr := m.row.1
    generalize a.2.2.2.2.1.1.toNat = n at hn en hv
    have B4 := gBn_b wx hn
    suffices H : ∀ (f k : Nat) (x2 x6 : Int) (o7 : Option zV) (Z1 : zM), x6 = k → f = gB a ^ n - k → k ≤ gB a ^ n → QS Z Z1 a → TZ (d + 5) 244 52 [some (.inr 100), some (.inl x1), some (.inl x2), some (.inl (gfold (fwm a n) (0, 0, 1000000) k).1), some (.inl (gfold (fwm a n) (0, 0, 1000000) k).2.1), some (.inl (gmin (gfold (fwm a n) (0, 0, 1000000) k).2.2)), some (.inl x6), o7] [] Z1 (zri (PostR Z (oq a (geith (gunk x1 2) (gunfit a 6)) (vWhoMoved a x1)))) from H _ 0 0 0 none Z rfl rfl (Nat.zero_le _) m
    intro f
    induction f with
    | zero =>
      intro k x2 x6 o7 Z1 e6 ef y l
      have e26 := l.now.2.2.2
      have ek : k = gB a ^ n := by omega
      have ok : ∀ v, v = vWhoMoved a x1 → PostR Z (oq a (geith (gunk x1 2) (gunfit a 6)) (vWhoMoved a x1)) v Z1 := fun v hv => by rw [hv]; exact G_ok l hc
      rw [hv, ← ek] at ok ⊢
      exact w244_52 (G_212 l.now.2.1 wx hn (by omega) ⟨by unfold zR; omega, by unfold zR; omega, fun _ => ⟨h1, fun c0 => ⟨h1, fun c1 => ok _ (by rw [if_neg c0, if_neg c1]), fun c1 => ok _ (by rw [if_neg c0, if_pos (by omega)])⟩, fun c0 => ok _ (by rw [if_pos (by omega)])⟩, fun c4 => by omega⟩)
    | succ f ih =>
      intro k x2 x6 o7 Z1 e6 ef y l
      have e26 := l.now.2.2.2
      have sb := fwm_b wx hn k
      have ih := ih (k + 1)
      rw [show gfold (fwm a n) (0, 0, 1000000) (k + 1) = fwm a n k (gfold (fwm a n) (0, 0, 1000000) k) from rfl] at ih
      generalize gfold (fwm a n) (0, 0, 1000000) k = s at sb ih
      have G := gfs_b (B := gB a) (by omega) n k
      refine w244_52 (G_212 l.now.2.1 wx hn (by omega) ⟨by unfold zR; omega, by unfold zR; omega, fun c4 => by omega, fun c4 => G_213 (n := n) l.now.2.1 wx hn (by omega) e6 (by omega) fun Z8 g8 wd => ?_⟩)
      have l8 : QS Z Z8 a := l.one wx (c := 114) (by unfold scq; omega) g8
      have e8 := l8.now.2.2.2
      refine G_217 (sort := 1) l8 wx (Or.inr (Or.inl rfl)) rfl (show Z8 100 26 = (n : Int) by omega) hn (fun _ => by omega) wd (fun gk Z3 l3 s3 => ⟨by decide, fun _ => ?_, fun c => absurd (show (1 : Int) ≠ 0 by decide) c⟩) (fun ng Z3 l3 s3 => ⟨by decide, fun c => absurd rfl c, fun _ => ?_⟩)
      · have e3 := l3.now.2.2.2
        have wd3 := wd.same s3
        suffices H : ∀ (g j : Nat) (x7 : Int), x7 = j → g = n - j → j ≤ n → TZ (d + 5) 244 96 [some (.inr 100), some (.inl x1), some (.inl x2), some (.inl (s.1 + 1)), some (.inl (gfd (gB a) n k s.2.1 j)), some (.inl (gmin s.2.2)), some (.inl x6), some (.inl x7)] [] Z3 (zri (PostR Z (oq a (geith (gunk x1 2) (gunfit a 6)) (vWhoMoved a x1)))) from H n 0 0 rfl rfl (Nat.zero_le _)
        intro g
        induction g with
        | zero =>
          intro j x7 e7 eg yj
          have ej : j = n := by omega
          subst ej
          have zm : zR (gmin s.2.2) := by have := sb.2; unfold gmin zR; split <;> omega
          have nx : ∀ v, v = gmin (min s.2.2 (gfs (gB a) j k)) → TZ (d + 5) 244 52 [some (.inr 100), some (.inl x1), some (.inl x2), some (.inl (s.1 + 1)), some (.inl (gfd (gB a) j k s.2.1 j)), some (.inl v), some (.inl (x6 + 1)), some (.inl x7)] [] Z3 (zri (PostR Z (oq a (geith (gunk x1 2) (gunfit a 6)) (vWhoMoved a x1)))) := fun v hv => by
            have := ih x2 (x6 + 1) (some (.inl x7)) Z3 (by omega) (by omega) (by omega) l3
            rw [fwm_s, if_pos gk] at this
            rw [hv]; exact this
          have b2 := sb.2
          refine w244_96 ⟨by unfold zR; omega, by rw [e3]; unfold zR; omega, fun _ => ⟨zm, fun c => G_214 wx hn (by omega) wd3 (nx _ ?_), fun c => G_214 wx hn (by omega) wd3 ⟨by unfold zR; omega, zm, fun c' => nx _ ?_, fun c' => G_214 wx hn (by omega) wd3 (nx _ ?_)⟩⟩, fun c => by omega⟩
          · unfold gmin at c ⊢
            split at c <;> (repeat' split) <;> omega
          · unfold gmin at c c' ⊢
            split at c <;> (repeat' split) <;> omega
          · unfold gmin at c c' ⊢
            split at c <;> (repeat' split) <;> omega
        | succ g ihg =>
          intro j x7 e7 eg yj
          have v : Z3 114 x7 = ((gdig (gB a) n k j : Nat) : Int) := by rw [e7]; exact wd3 j (by omega)
          have db := gdig_b (B := gB a) (n := n) (k := k) (j := j) (by omega)
          have := ihg (j + 1) (x7 + 1) (by omega) (by omega) (by omega)
          have st : gfd (gB a) n k s.2.1 (j + 1) = if gdig (gB a) n k j = 0 then gfd (gB a) n k s.2.1 j else zbit 4 (gfd (gB a) n k s.2.1 j) (zbit 6 1 (((gdig (gB a) n k j : Nat) : Int) - 1)) := rfl
          rw [st] at this
          refine w244_96 ⟨by unfold zR; omega, by rw [e3]; unfold zR; omega, fun c => by omega, fun _ => ⟨by omega, by unfold zR; omega, fun c => ?_, fun c => ⟨by omega, ?_⟩⟩⟩
          · rw [if_pos (by omega)] at this
            rw [zor_z (gfd_r sb.1 _)]; exact this
          · rw [if_neg (by omega)] at this
            rw [v]; exact this
      · have := ih x2 (x6 + 1) o7 Z3 (by omega) (by omega) (by omega) l3
        rw [fwm_s, if_neg ng] at this
        exact this
  · rw [if_neg u]
    exact ⟨by decide, fun e => absurd rfl e, fun _ => G_no m wx (by rw [ge0 (gunk_0.mpr i)]; exact gunfit_v u) (by decide)⟩
/-! the most on the highest wire -/
def fhi (a : gX) (n k : Nat) (s : Int) : Int := max s (gsat (gwy a n k) (a.1.2.1 - 1))
def vHighest (a : gX) (x1 : Int) : Int := gfold (fhi a x1.toNat) 0 (gB a ^ x1.toNat)
def RH (a : gX) (n : Nat) (s : Int) : gRl := fun O _ _ => O 6 = s ∧ 0 ≤ s ∧ s ≤ 8
theorem gswy_b (wx : WX a) : 0 ≤ gsat (gwy a n k) (a.1.2.1 - 1) ∧ gsat (gwy a n k) (a.1.2.1 - 1) ≤ a.1.1 := by
  have hn : 0 ≤ a.1.1 ∧ a.1.1 ≤ 8 := wx.1.1.1
  have := cnt_b (gwP a n k) (a.1.2.1 - 1) a.1.1.toNat
  unfold gsat
  show 0 ≤ cnt (gwP a n k) (a.1.2.1 - 1) a.1.1.toNat ∧ cnt (gwP a n k) (a.1.2.1 - 1) a.1.1.toNat ≤ a.1.1
  omega
theorem F_r50 {x v : Int} {Q : Int → zM → Prop} (wx : WX a) (vx : VX a) (hn : n ≤ 4) (hi : i ≤ 4) (hx : x = i) (hv : v = a.1.2.1 - 1) (m : QX 50 Z Z1 a i K) (o : Z1 50 3 = (n : Int)) (h1 : i ≤ n) (g : gok a 3 (i - 1) (K / gB a) = true) (r : RH a n (gfold (fhi a n) 0 (glo (gB a) n i K)) (Z1 50) (Z1 52) (Z1 53)) (hQ : ∀ r Z2, QX 50 Z Z2 a i K → ((r = 0 ∧ JM a 3 n (fhi a n) 0 (RH a n) i K (Z2 50) (Z2 52) (Z2 53)) ∨ (r = 1 ∧ i < 4 ∧ JL a 3 n (fhi a n) 0 (fun _ _ _ => True) (RH a n) (i + 1) (K * gB a) (Z2 50) (Z2 52) (Z2 53))) → Q r Z2) : (zR x ∧
          zR (Z1 50 3) ∧
          (x < (Z1 50 3) → (zR x ∧
              zR (Z1 50 3) ∧
              ((Z1 50 3) ≤ x → Q 0 Z1) ∧
              (¬ (Z1 50 3) ≤ x → (zR (Z1 (70 + 6 * i) 5) ∧
                  zR (Z1 50 6) ∧
                  zR (min (Z1 (70 + 6 * i) 5) 4) ∧
                  ((min (Z1 (70 + 6 * i) 5) 4) ≤ (Z1 50 6) → Q 0 Z1) ∧
                  (¬ (min (Z1 (70 + 6 * i) 5) 4) ≤ (Z1 50 6) → Q 1 Z1))))) ∧
          (¬ x < (Z1 50 3) → TI (d + 2) 15 [.inr (70 + 6 * i), .inl v] Z1 (fun r14 Z13 =>
              zR r14 ∧
                (r14 = 0 → (zR x ∧
                    zR (Z13 50 3) ∧
                    ((Z13 50 3) ≤ x → Q 0 Z13) ∧
                    (¬ (Z13 50 3) ≤ x → (zR (Z13 (70 + 6 * i) 5) ∧
                        zR (Z13 50 6) ∧
                        zR (min (Z13 (70 + 6 * i) 5) 4) ∧
                        ((min (Z13 (70 + 6 * i) 5) 4) ≤ (Z13 50 6) → Q 0 Z13) ∧
                        (¬ (min (Z13 (70 + 6 * i) 5) 4) ≤ (Z13 50 6) → Q 1 Z13))))) ∧
                (¬ r14 = 0 → ((0 ≤ v ∧ v < 6) ∧
                    zR (Z13 50 6) ∧
                    zR (Z13 ((70 + 6 * i) + 4) v) ∧
                    ∀ Z27, Z27 = zup Z13 50 6 (max (Z13 50 6) (Z13 ((70 + 6 * i) + 4) v)) →
                    zR x ∧
                    zR (Z27 50 3) ∧
                    ((Z27 50 3) ≤ x → Q 0 Z27) ∧
                    (¬ (Z27 50 3) ≤ x → (zR (Z27 (70 + 6 * i) 5) ∧
                        zR (Z27 50 6) ∧
                        zR (min (Z27 (70 + 6 * i) 5) 4) ∧
                        ((min (Z27 (70 + 6 * i) 5) 4) ≤ (Z27 50 6) → Q 0 Z27) ∧
                        (¬ (min (Z27 (70 + 6 * i) 5) 4) ≤ (Z27 50 6) → Q 1 Z27)))))))) := by
  have C := m.2.1 i (Nat.le_refl _)
  rw [Nat.sub_self] at C
  have C : CFs (70 + 6 * i) Z1 (gwy a i K) := C
  have zx : zR x := by unfold zR; omega
  have zn : zR (Z1 50 3) := by rw [o]; unfold zR; omega
  have hn8 : 0 ≤ a.1.1 ∧ a.1.1 ≤ 8 := wx.1.1.1
  have hW : 5 ≤ a.1.2.1 ∧ a.1.2.1 ≤ 6 := wx.1.1.2.1
  obtain ⟨r6, rb⟩ := r
  have gk : gok a 3 i K = true := gok_y g fun e => rfl
  have c5 : Z1 (70 + 6 * i) 5 = a.1.1 := C.1
  have c6 : Z1 (70 + 6 * i) 6 = a.1.2.1 := C.2.1
  have z6 : zR (Z1 50 6) := by rw [r6]; unfold zR; omega
  refine ⟨zx, zn, fun c => ⟨zx, zn, fun y => by omega, fun _ => ⟨by unfold zR; omega, z6, by unfold zR; omega, fun q => ?_, fun q => ?_⟩⟩, fun c => C_isWire (zFi hi) (by unfold zR; omega) (by unfold zR; omega) (fun _ => ⟨by decide, fun y => absurd y (by decide), fun _ => ?_⟩) fun y => absurd (show 0 ≤ v ∧ v < Z1 (70 + 6 * i) 6 by omega) y⟩
  · refine hQ 0 Z1 m (Or.inl ⟨rfl, JM_cut wx h1 o g (fun k hk => ?_) ⟨r6, rb⟩⟩)
    have b1 := gswy_b (n := n) (k := k) wx
    have b4 : gsat (gwy a n k) (a.1.2.1 - 1) ≤ 4 := gwP_4 wx vx n k (a.1.2.1 - 1) (by omega)
    unfold fhi at *
    omega
  · exact hQ 1 Z1 m (Or.inr ⟨rfl, by omega, JL_down wx (by omega) o gk ⟨r6, rb⟩⟩)
  · have e4 : Z1 (70 + 6 * i + 4) v = gsat (gwy a i K) (a.1.2.1 - 1) := by
      rw [hv]
      exact (C.2.2.2.2 (a.1.2.1 - 1) (by omega) (by omega)).2
    have b1 := gswy_b (n := i) (k := K) wx
    refine ⟨by omega, z6, by rw [e4]; unfold zR; omega, fun Z3 e3 => ?_⟩
    have o3 : Z3 50 3 = (n : Int) := by rw [e3, zup_place _ _ _ _ (by decide)]; exact o
    refine ⟨zx, by rw [o3]; unfold zR; omega, fun _ => hQ 0 Z3 (m.scr (by decide) fun c c1 c2 => by rw [e3]; funext p; rw [zup_cell _ _ _ _ c1]) (Or.inl ⟨rfl, JM_leaf (by omega) o3 g ?_⟩), fun y => by omega⟩
    have ei : i = n := by omega
    refine ⟨?_, ?_⟩
    · rw [e3, zup_same, e4, r6, ← ei]; rfl
    · unfold fhi at *
      rw [← ei] at rb ⊢
      omega
theorem F_o50 (wx : WX a) (vx : VX a) (hn : n ≤ 4) : QO 50 39 d Z a (JL a 3 n (fhi a n) 0 (fun _ _ _ => True) (RH a n)) (JM a 3 n (fhi a n) 0 (RH a n)) := by
  intro i K x Z1 Q hi hx m j hQ
  obtain ⟨o, h1, g, j0, j1⟩ := j
  have zx : zR x := by unfold zR; omega
  have C := m.2.1 i (Nat.le_refl _)
  have c6 : Z1 (70 + 6 * i) 6 = a.1.2.1 := C.2.1
  refine w39_0 (zFi hi) ⟨zx, fun c => F_r50 wx vx hn hi hx (by omega) m o h1 g (j1 (by omega)) hQ, fun c Z3 e3 => ?_⟩
  have o3 : Z3 50 3 = (n : Int) := by rw [e3, zup_place _ _ _ _ (by decide)]; exact o
  refine F_r50 wx vx hn hi hx (by omega) (m.scr (by decide) fun c c1 c2 => by rw [e3]; funext p; rw [zup_cell _ _ _ _ c1]) o3 h1 g ?_ hQ
  rw [(j0 (by omega)).1, glo_0]
  exact ⟨by rw [e3, zup_same]; rfl, by show (0 : Int) ≤ 0 ∧ (0 : Int) ≤ 8; decide⟩
theorem X_highest {x1 : Int} (A : CX Z a) (wx : WX a) (vx : VX a) (h1 : zR x1) : TI (d + 10) 127 [.inr 0, .inl x1] Z (PostC Z (oq a (gout x1 0 4) (vHighest a x1))) := by
  refine w127_0 (C_outside h1 (by decide) (by decide) ⟨zR9 gb3, fun c => ?_, fun c => C_refuse (by have := @gb3 x1 0 4; omega) (PRq A c gb3)⟩)
  have c1 := gout_0.mp c
  have hn : x1.toNat ≤ 4 := by omega
  refine F_50 (by decide) fun Z1 k1 k3 k4 k5 => F_open50 A wx (JL_p wx) (fun d => F_o50 wx vx hn) (sq50 (frs.refl _ _) (by decide) k1) ⟨by rw [k3]; omega, Nat.zero_le _, rfl, fun _ => ⟨rfl, trivial⟩, fun y => absurd rfl y⟩ fun Z2 f2 j => ?_
  obtain ⟨-, -, -, r, -⟩ := j
  rw [glo_e] at r
  rw [r]
  exact PQ A c f2
theorem Y_highest {x1 : Int} (A : RX Z a) (wx : WX a) (h1 : zR x1) : TI (d + 5) 222 [.inr 100, .inl x1] Z (PostR Z (oq a (gout x1 0 4) (vHighest a x1))) := by
  have m := QS.refl A
  have b := gB_b wx
  have hh := wx.1.2
  have hW : 5 ≤ a.1.2.1 ∧ a.1.2.1 ≤ 6 := wx.1.1.2.1
  refine w222_0 (R_bound h1 (by decide) (by decide) ⟨zR9 gb3, fun c => ?_, fun c => G_no m wx rfl (go_n c)⟩)
  have c1 := gout_0.mp c
  obtain ⟨n, en⟩ : ∃ n : Nat, x1 = n := ⟨x1.toNat, by omega⟩
  have hn : n ≤ 4 := by omega
  have B4 := gBn_b wx hn
  have hv : vHighest a x1 = gfold (fhi a n) 0 (gB a ^ n) := by unfold vHighest; rw [show x1.toNat = n by omega]
  suffices H : ∀ (f k : Nat) (x4 : Int) (o5 : Option zV) (Z1 : zM), x4 = k → f = gB a ^ n - k → k ≤ gB a ^ n → QS Z Z1 a → TZ (d + 5) 222 22 [some (.inr 100), some (.inl x1), some (.inl (gout x1 0 4)), some (.inl (gfold (fhi a n) 0 k)), some (.inl x4), o5] [] Z1 (zri (PostR Z (oq a (gout x1 0 4) (vHighest a x1)))) from H _ 0 0 none Z rfl rfl (Nat.zero_le _) m
  intro f
  induction f with
  | zero =>
    intro k x4 o5 Z1 e4 ef y l
    have ek : k = gB a ^ n := by omega
    have ok := G_ok (v := vHighest a x1) l c
    rw [hv, ← ek] at ok ⊢
    exact w222_22 (G_212 l.now.2.1 wx hn en ⟨by unfold zR; omega, by unfold zR; omega, fun _ => ok, fun c4 => by omega⟩)
  | succ f ih =>
    intro k x4 o5 Z1 e4 ef y l
    have sb : 0 ≤ gfold (fhi a n) 0 k ∧ gfold (fhi a n) 0 k ≤ 8 := by
      refine gfold_inv (P := fun s : Int => 0 ≤ s ∧ s ≤ 8) (by decide) (fun k s h => ?_) k
      have hn : 0 ≤ a.1.1 ∧ a.1.1 ≤ 8 := wx.1.1.1
      have b1 := gswy_b (n := n) (k := k) wx
      unfold fhi; omega
    have ih := ih (k + 1)
    rw [show gfold (fhi a n) 0 (k + 1) = max (gfold (fhi a n) 0 k) (gsat (gwy a n k) (a.1.2.1 - 1)) from rfl] at ih
    generalize gfold (fhi a n) 0 k = s at sb ih
    refine w222_22 (G_212 l.now.2.1 wx hn en ⟨by unfold zR; omega, by unfold zR; omega, fun c4 => by omega, fun c4 => G_213 (n := n) l.now.2.1 wx hn (by omega) e4 en fun Z6 g6 wd => G_thinks (l.one wx (c := 114) (by unfold scq; omega) g6) wx fun Z7 k7 s7 => ?_⟩)
    suffices H : ∀ (g j : Nat) (x5 : Int) (Z1 : zM), x5 = j → g = n - j → j ≤ n → QE Z Z1 a (gwy a j (gpre (gB a) (n - j) k)) → WG a n k Z1 → TZ (d + 5) 222 46 [some (.inr 100), some (.inl x1), some (.inl (gout x1 0 4)), some (.inl s), some (.inl x4), some (.inl x5)] [] Z1 (zri (PostR Z (oq a (gout x1 0 4) (vHighest a x1)))) from H n 0 0 Z7 rfl rfl (Nat.zero_le _) (by rw [gwy_0]; exact k7) (wd.same s7)
    intro g
    induction g with
    | zero =>
      intro j x5 Z1 e5 eg yj k1 w1
      have ej : j = n := by omega
      subst ej
      rw [Nat.sub_self] at k1
      have k1 : QE Z Z1 a (gwy a j k) := k1
      have e6 : Z1 100 6 = a.1.2.1 := k1.1.1.2.1
      have b1 := gswy_b (n := j) (k := k) wx
      refine w222_46 ⟨by unfold zR; omega, by unfold zR; omega, fun _ => G_many k1 (gwy_wf wx j k (by omega)) (by unfold zR; omega) (G_forgets k1 wx fun Z3 l3 s3 => ?_), fun c => by omega⟩
      rw [e6]
      refine ⟨by have hn : 0 ≤ a.1.1 ∧ a.1.1 ≤ 8 := wx.1.1.1; unfold zR; omega, by unfold zR; omega, fun q => ?_, fun q => ?_⟩
      · have := ih (x4 + 1) (some (.inl (gsat (gwy a j k) (a.1.2.1 - 1)))) Z3 (by omega) (by omega) (by omega) l3
        rw [show max s (gsat (gwy a j k) (a.1.2.1 - 1)) = s by omega] at this
        exact this
      · have := ih (x4 + 1) (some (.inl (gsat (gwy a j k) (a.1.2.1 - 1)))) Z3 (by omega) (by omega) (by omega) l3
        rw [show max s (gsat (gwy a j k) (a.1.2.1 - 1)) = gsat (gwy a j k) (a.1.2.1 - 1) by omega] at this
        exact this
    | succ g ihg =>
      intro j x5 Z1 e5 eg yj k1 w1
      have ed : Z1 114 x5 = ((gdig (gB a) n k j : Nat) : Int) := by rw [e5]; exact w1 j (by omega)
      have db := gdig_b (B := gB a) (n := n) (k := k) (j := j) (by omega)
      have st : gpass (Z1 114 x5 - 1) (gwy a j (gpre (gB a) (n - j) k)) = gwy a (j + 1) (gpre (gB a) (n - (j + 1)) k) := by
        rw [gwy_s, ed, show n - j = (n - (j + 1)) + 1 by omega, gpre_s]
        unfold gdig
        rw [show n - 1 - j = n - (j + 1) by omega]
      refine w222_46 ⟨by unfold zR; omega, by unfold zR; omega, fun c => by omega, fun _ => ⟨by omega, G_passf k1 wx (gwy_wf wx j _ (by omega)) (by show -1 ≤ Z1 114 x5 - 1 ∧ Z1 114 x5 - 1 < a.1.2.1; omega) (by show a.1.2.2.1 + (j : Int) < 1000000; omega) fun r Z3 k3 s3 => ihg (j + 1) _ Z3 (by omega) (by omega) (by omega) (by rw [← st]; exact k3) (w1.same s3)⟩⟩
end
/-! lured and gather: the fewest hours, the first way of so many -/
def cn (B i K n : Nat) : Nat := if n < i then gpre B (i - n) K + 1 else K * B ^ (n - i)
def cm (B i K n : Nat) : Nat := if n < i then gpre B (i - n) K + 1 else (K + 1) * B ^ (n - i)
def LV (a : gX) (G : Nat → Nat → Bool) (c : Nat → Nat) (O F : Int → Int) : Prop := (O 4 = 1000000 ∧ O 5 = 0 ∧ ∀ n k : Nat, n ≤ 4 → k < c n → G n k = false) ∨ ∃ m k : Nat, m ≤ 4 ∧ O 4 = (m : Int) ∧ O 5 = (m : Int) ∧ G m k = true ∧ k < c m ∧ (∀ k', k' < k → G m k' = false) ∧ (∀ n k', n < m → k' < c n → G n k' = false) ∧ ∀ j : Nat, j < m → F j = ((gdig (gB a) m k j : Nat) : Int)
def JK (a : gX) (E : (Int → Int) → Prop) (G : Nat → Nat → Bool) : gJ := fun i K O F _ => O 3 = 4 ∧ E O ∧ i ≤ 4 ∧ LV a G (cn (gB a) i K) O F
def JK' (a : gX) (E : (Int → Int) → Prop) (G : Nat → Nat → Bool) : gJ := fun i K O F _ => O 3 = 4 ∧ E O ∧ i ≤ 4 ∧ LV a G (cm (gB a) i K) O F
/-- the first below with it -/
def gk1 (p : Nat → Bool) : Nat → Option Nat
  | 0 => none
  | k + 1 => match gk1 p k with
    | some x => some x
    | none => if p k = true then some k else none
theorem gk1_s {p : Nat → Bool} {k : Nat} (h : gk1 p k = none) : gk1 p (k + 1) = if p k = true then some k else none := by
  show (match gk1 p k with | some x => some x | none => if p k = true then some k else none) = _
  rw [h]
theorem gk1_k {p : Nat → Bool} {k x : Nat} (h : gk1 p k = some x) : gk1 p (k + 1) = some x := by
  show (match gk1 p k with | some x => some x | none => if p k = true then some k else none) = _
  rw [h]
theorem gk1_none {p : Nat → Bool} : ∀ N : Nat, (∀ k, k < N → p k = false) → gk1 p N = none
  | 0, _ => rfl
  | N + 1, h => by rw [gk1_s (gk1_none N fun k hk => h k (by omega)), h N (by omega)]; rfl
theorem gk1_le {p : Nat → Bool} {x : Nat} : ∀ m N : Nat, gk1 p N = some x → gk1 p (N + m) = some x
  | 0, _, h => h
  | m + 1, N, h => gk1_k (gk1_le m N h)
theorem gk1_some {p : Nat → Bool} {k N : Nat} (hk : k < N) (h : p k = true) (h0 : ∀ k', k' < k → p k' = false) : gk1 p N = some k := by
  have s : gk1 p (k + 1) = some k := by rw [gk1_s (gk1_none k h0), if_pos h]
  have := gk1_le (N - (k + 1)) (k + 1) s
  rw [show k + 1 + (N - (k + 1)) = N by omega] at this
  exact this
/-- the fewest hours, and the first way of so many -/
def glv (a : gX) (G : Nat → Nat → Bool) : Nat → Option (Nat × Nat)
  | 0 => none
  | n + 1 => match glv a G n with
    | some x => some x
    | none => match gk1 (G n) (gB a ^ n) with
      | some k => some (n, k)
      | none => none
section
variable {d : Nat} {Z Z1 Z2 : zM} {a : gX} {n k i K : Nat} {s : gS} {G : Nat → Nat → Bool} {E : (Int → Int) → Prop} {O F T O' F' T' : Int → Int} {c c' : Nat → Nat}
theorem glv_s (h : glv a G n = none) : glv a G (n + 1) = match gk1 (G n) (gB a ^ n) with | some k => some (n, k) | none => none := by
  show (match glv a G n with | some x => some x | none => match gk1 (G n) (gB a ^ n) with | some k => some (n, k) | none => none) = _
  rw [h]
theorem glv_k {x : Nat × Nat} (h : glv a G n = some x) : glv a G (n + 1) = some x := by
  show (match glv a G n with | some x => some x | none => match gk1 (G n) (gB a ^ n) with | some k => some (n, k) | none => none) = _
  rw [h]
theorem glv_none : ∀ N : Nat, (∀ n k, n < N → k < gB a ^ n → G n k = false) → glv a G N = none
  | 0, _ => rfl
  | N + 1, h => by rw [glv_s (glv_none N fun n k hn hk => h n k (by omega) hk), gk1_none _ fun k hk => h N k (by omega) hk]
theorem glv_le {x : Nat × Nat} : ∀ m N : Nat, glv a G N = some x → glv a G (N + m) = some x
  | 0, _, h => h
  | m + 1, N, h => glv_k (glv_le m N h)
theorem glv_some {m N : Nat} (hm : m < N) (hl : ∀ n k, n < m → k < gB a ^ n → G n k = false) (h : gk1 (G m) (gB a ^ m) = some k) : glv a G N = some (m, k) := by
  have s : glv a G (m + 1) = some (m, k) := by rw [glv_s (glv_none m hl), h]
  have := glv_le (N - (m + 1)) (m + 1) s
  rw [show m + 1 + (N - (m + 1)) = N by omega] at this
  exact this
theorem LV_up (h : ∀ n : Nat, n ≤ 4 → c n ≤ c' n ∧ ((n : Int) < O 4 → ∀ k, c n ≤ k → k < c' n → G n k = false)) (l : LV a G c O F) : LV a G c' O F := by
  rcases l with ⟨l1, l2, l3⟩ | ⟨m, k, hm, l1, l2, l3, l4, l5, l6, l7⟩
  · refine Or.inl ⟨l1, l2, fun n k hn hk => ?_⟩
    by_cases e : k < c n
    · exact l3 n k hn e
    · exact (h n hn).2 (by omega) k (by omega) hk
  · refine Or.inr ⟨m, k, hm, l1, l2, l3, by have := (h m hm).1; omega, l5, fun n k' hn hk => ?_, l7⟩
    by_cases e : k' < c n
    · exact l6 n k' hn e
    · exact (h n (by omega)).2 (by omega) k' (by omega) hk
theorem LV_eq (h : ∀ n : Nat, n ≤ 4 → c' n = c n) (l : LV a G c O F) : LV a G c' O F :=
  LV_up (fun n hn => by rw [h n hn]; exact ⟨Nat.le_refl _, fun _ k h1 h2 => by omega⟩) l
theorem cn_l {B : Nat} (h : n < i) : cn B i K n = gpre B (i - n) K + 1 := if_pos h
theorem cn_h {B : Nat} (h : ¬ n < i) : cn B i K n = K * B ^ (n - i) := if_neg h
theorem cm_l {B : Nat} (h : n < i) : cm B i K n = gpre B (i - n) K + 1 := if_pos h
theorem cm_h {B : Nat} (h : ¬ n < i) : cm B i K n = (K + 1) * B ^ (n - i) := if_neg h
theorem JK_p (wx : WX a) : QP a (JK a E G) (JK' a E G) := by
  have b := gB_b wx
  constructor
  · rintro i K x O F T hi hx ⟨o, e, h1, l⟩
    refine ⟨o, e, h1, LV_eq (fun n hn => ?_) l⟩
    by_cases q : n < i + 1
    · rw [cn_l q, cm_l q, show i + 1 - n = (i - n) + 1 by omega, gpre_c (by omega), gpre_c (by omega)]
    · rw [cn_h q, cm_h q]; rfl
  · rintro i K O F T hi ⟨o, e, h1, l⟩
    refine ⟨o, e, by omega, LV_eq (fun n hn => ?_) l⟩
    by_cases q : n < i
    · rw [cm_l q, cm_l (by omega), show i + 1 - n = (i - n) + 1 by omega, gpre_c (by omega)]
    · by_cases q2 : n = i
      · subst q2
        rw [cm_h q, cm_l (by omega), show n + 1 - n = 0 + 1 by omega, gpre_c (by omega), Nat.sub_self, Nat.pow_zero, Nat.mul_one]
        rfl
      · rw [cm_h q, cm_h (by omega), show K * gB a + (gB a - 1) + 1 = (K + 1) * gB a by rw [Nat.succ_mul]; omega, show n - i = (n - (i + 1)) + 1 by omega, Nat.pow_succ, Nat.mul_assoc, Nat.mul_comm (gB a)]
theorem JK_cut (j : JK a E G i K O F T) (h : O 4 ≤ (i : Int)) : JK' a E G i K O F T' := by
  obtain ⟨o, e, h1, l⟩ := j
  refine ⟨o, e, h1, LV_up (fun n hn => ?_) l⟩
  by_cases q : n < i
  · rw [cn_l q, cm_l q]; exact ⟨Nat.le_refl _, fun _ k h1 h2 => by omega⟩
  · rw [cn_h q, cm_h q]
    exact ⟨Nat.mul_le_mul_right _ (by omega), fun y => by omega⟩
theorem JK_miss (j : JK a E G i K O F T) (h : G i K = false) : LV a G (fun n => if n = i then K + 1 else cn (gB a) i K n) O F := by
  obtain ⟨o, e, h1, l⟩ := j
  refine LV_up (fun n hn => ?_) l
  by_cases q : n = i
  · subst q
    rw [if_pos rfl, cn_h (by omega), Nat.sub_self, Nat.pow_zero, Nat.mul_one]
    refine ⟨by omega, fun _ k h1 h2 => ?_⟩
    rw [show k = K by omega]; exact h
  · rw [if_neg q]; exact ⟨Nat.le_refl _, fun _ k h1 h2 => by omega⟩
theorem JK_down (wx : WX a) (j : JK a E G i K O F T) (h : G i K = false) (hi : i < 4) : JK a E G (i + 1) (K * gB a) O F T' := by
  have b := gB_b wx
  refine ⟨j.1, j.2.1, hi, LV_eq (fun n hn => ?_) (JK_miss j h)⟩
  by_cases q : n = i
  · subst q
    rw [if_pos rfl, cn_l (by omega), show n + 1 - n = 1 by omega]
    show K * gB a / gB a + 1 = K + 1
    rw [Nat.mul_div_cancel _ (by omega)]
  · rw [if_neg q]
    by_cases q2 : n < i
    · rw [cn_l q2, cn_l (by omega), show i + 1 - n = (i - n) + 1 by omega]
      have := gpre_c (B := gB a) (K := K) (x := 0) (by omega) (i - n)
      exact congrArg (· + 1) this
    · rw [cn_h q2, cn_h (by omega), show n - i = (n - (i + 1)) + 1 by omega, Nat.pow_succ, Nat.mul_assoc, Nat.mul_comm (gB a)]
theorem JK_last (j : JK a E G 4 K O F T) (h : G 4 K = false) : JK' a E G 4 K O F T' := by
  refine ⟨j.1, j.2.1, j.2.2.1, LV_eq (fun n hn => ?_) (JK_miss j h)⟩
  by_cases q : n = 4
  · subst q
    rw [if_pos rfl, cm_h (by omega), Nat.sub_self, Nat.pow_zero, Nat.mul_one]
  · rw [if_neg q, cm_l (by omega), cn_l (by omega)]
theorem JK_hit (hE : ∀ O O' : Int → Int, (∀ p, p ≠ 4 → p ≠ 5 → O' p = O p) → E O → E O') (j : JK a E G i K O F T) (hb : (i : Int) < O 4) (h : G i K = true) (o1 : ∀ p, p ≠ 4 → p ≠ 5 → O' p = O p) (o4 : O' 4 = (i : Int)) (o5 : O' 5 = (i : Int)) (f : ∀ j : Nat, j < i → F' j = ((gdig (gB a) i K j : Nat) : Int)) : JK' a E G i K O' F' T' := by
  obtain ⟨o, e, h1, l⟩ := j
  refine ⟨by rw [o1 3 (by decide) (by decide)]; exact o, hE O O' o1 e, h1, Or.inr ⟨i, K, h1, o4, o5, h, ?_, fun k' hk => ?_, fun n k' hn hk => ?_, f⟩⟩
  · rw [cm_h (by omega), Nat.sub_self, Nat.pow_zero, Nat.mul_one]; omega
  · have c : k' < cn (gB a) i K i := by rw [cn_h (by omega), Nat.sub_self, Nat.pow_zero, Nat.mul_one]; exact hk
    rcases l with ⟨l1, l2, l3⟩ | ⟨m, k, hm, l1, l2, l3, l4, l5, l6, l7⟩
    · exact l3 i k' h1 c
    · exact l6 i k' (by omega) c
  · have c : k' < cn (gB a) i K n := by rw [cn_l hn]; rw [cm_l hn] at hk; exact hk
    rcases l with ⟨l1, l2, l3⟩ | ⟨m, k, hm, l1, l2, l3, l4, l5, l6, l7⟩
    · exact l3 n k' (by omega) c
    · exact l6 n k' (by omega) c
/-- what is asked for: a bird's wire; with -1, so many wires or fewer -/
def gol (a : gX) (x2 x3 : Int) (n k : Nat) : Bool := if x2 < 0 then decide (zcnt (gsit (gwy a n k)) 31 ≤ x3) else decide (gwP a n k x2 = x3)
def vLv (a : gX) (r : Option (Nat × Nat)) (i : Int) : Int := match r with
  | none => -9
  | some (m, k) => if i = -1 then (m : Int) else gans a m ((m : Int), k) i
/-- at the end -/
theorem JK_end (j : JK' a E G 0 0 O F T) : ∃ n s, n ≤ 4 ∧ RW a n s O F T' ∧ (∀ x, x ≠ -1 → gans a n s x = vLv a (glv a G 5) x) ∧ gmin s.1 = vLv a (glv a G 5) (-1) := by
  obtain ⟨o, e, h1, l⟩ := j
  have ec : ∀ n, cm (gB a) 0 0 n = gB a ^ n := fun n => by rw [cm_h (by omega), Nat.sub_zero, Nat.zero_add, Nat.one_mul]
  rcases l with ⟨l1, l2, l3⟩ | ⟨m, k, hm, l1, l2, l3, l4, l5, l6, l7⟩
  · refine ⟨0, (1000000, 0), by decide, ⟨l1, Or.inl rfl, fun _ => l2, fun y => absurd rfl y⟩, ?_⟩
    rw [glv_none 5 fun n k hn hk => l3 n k (by omega) (by rw [ec]; exact hk)]
    exact ⟨fun x _ => rfl, rfl⟩
  · refine ⟨m, ((m : Int), k), hm, ⟨l1, Or.inr (by dsimp only; omega), fun y => absurd y (by dsimp only; omega), fun _ => ⟨l2, l7⟩⟩, ?_⟩
    rw [glv_some (m := m) (k := k) (by omega) (fun n k' hn hk => l6 n k' hn (by rw [ec]; exact hk)) (gk1_some (by rw [← ec]; exact l4) l3 l5)]
    refine ⟨fun x hx => ?_, ?_⟩
    · show gans a m ((m : Int), k) x = if x = -1 then (m : Int) else gans a m ((m : Int), k) x
      rw [if_neg hx]
    · show gmin (m : Int) = if (-1 : Int) = -1 then (m : Int) else gans a m ((m : Int), k) (-1)
      rw [if_pos rfl]
      unfold gmin; rw [if_neg (by omega)]
theorem F_o62 {x1 x2 : Int} (wx : WX a) (hb : 0 ≤ x1 ∧ x1 < a.1.1) (hw : zR x2) : QO 62 41 d Z a (JK a (fun O => O 6 = x1 ∧ O 7 = x2) (gol a x1 x2)) (JK' a (fun O => O 6 = x1 ∧ O 7 = x2) (gol a x1 x2)) := by
  intro i K x Z1 Q hi hx m j hQ
  have hn : 0 ≤ a.1.1 ∧ a.1.1 ≤ 8 := wx.1.1.1
  have hW : 5 ≤ a.1.2.1 ∧ a.1.2.1 ≤ 6 := wx.1.1.2.1
  have C := m.2.1 i (Nat.le_refl _)
  rw [Nat.sub_self] at C
  have C : CFs (70 + 6 * i) Z1 (gwy a i K) := C
  have wf := gwy_wf wx i K (by omega)
  have zx : zR x := by unfold zR; omega
  have o3 : Z1 62 3 = 4 := j.1
  have e6 : Z1 62 6 = x1 := j.2.1.1
  have e7 : Z1 62 7 = x2 := j.2.1.2
  have z4 : zR (Z1 62 4) := by
    have l := j.2.2.2
    rcases l with ⟨l1, l2, l3⟩ | ⟨m, k, hm, l1, l2, l3, l4, l5, l6, l7⟩
    · rw [l1]; decide
    · rw [l1]; unfold zR; omega
  have ep : Z1 (70 + 6 * i + 3) x1 = gwP a i K x1 := (C.2.2.2.1 x1 hb.1 hb.2).2.2
  have pb : 0 ≤ gwP a i K x1 ∧ gwP a i K x1 < a.1.2.1 := (wf.2.2.2.1 x1 hb.1 hb.2).2.2
  have ng : ¬ x1 < 0 := by omega
  refine w41_0 (zFi hi) ⟨zx, z4, fun c => ?_, fun c => hQ 0 Z1 m (Or.inl ⟨rfl, JK_cut j (by show Z1 62 4 ≤ (i : Int); omega)⟩)⟩
  rw [e6, e7, ep]
  refine ⟨by omega, by unfold zR; omega, hw, fun q => ?_, fun q => F_53 (by decide) hi hx fun Z' a1 a2 a3 a4 a5 => ?_⟩
  · have gn : gol a x1 x2 i K = false := by unfold gol; rw [if_neg ng]; exact decide_eq_false q
    refine ⟨zx, by rw [o3]; decide, fun y => ?_, fun y => hQ 1 Z1 m (Or.inr ⟨rfl, by omega, JK_down wx j gn (by omega)⟩)⟩
    have e4 : i = 4 := by omega
    subst e4
    exact hQ 0 Z1 m (Or.inl ⟨rfl, JK_last j gn⟩)
  · have gy : gol a x1 x2 i K = true := by unfold gol; rw [if_neg ng]; exact decide_eq_true (by omega)
    refine hQ 0 Z' (m.scr (by decide) a1) (Or.inl ⟨rfl, JK_hit (fun O O' h => fun e => ⟨by rw [h 6 (by decide) (by decide)]; exact e.1, by rw [h 7 (by decide) (by decide)]; exact e.2⟩) j (by show (i : Int) < Z1 62 4; omega) gy a2 (a3.trans hx) a4 fun j hj => ?_⟩)
    show Z' (62 + 2) j = _
    rw [a5 j hj, m.2.2.2 j hj]
    rfl
theorem zcnt_r {x : Int} : zR (zcnt x 31) := by have := @zcnt_b x 31; unfold zR; omega
theorem F_o66 {x1 : Int} (wx : WX a) (h1 : zR x1) : QO 66 37 d Z a (JK a (fun O => O 6 = x1) (gol a (-1) x1)) (JK' a (fun O => O 6 = x1) (gol a (-1) x1)) := by
  intro i K x Z1 Q hi hx m j hQ
  have C := m.2.1 i (Nat.le_refl _)
  rw [Nat.sub_self] at C
  have C : CFs (70 + 6 * i) Z1 (gwy a i K) := C
  have wf := gwy_wf wx i K (by omega)
  have zx : zR x := by unfold zR; omega
  have o3 : Z1 66 3 = 4 := j.1
  have e6 : Z1 66 6 = x1 := j.2.1
  have z4 : zR (Z1 66 4) := by
    have l := j.2.2.2
    rcases l with ⟨l1, l2, l3⟩ | ⟨m, k, hm, l1, l2, l3, l4, l5, l6, l7⟩
    · rw [l1]; decide
    · rw [l1]; unfold zR; omega
  have gv := gsit_v wf
  have st : gol a (-1) x1 i K = decide (zcnt (gsit (gwy a i K)) 31 ≤ x1) := by unfold gol; rw [if_pos (by decide)]
  refine w37_0 (zFi hi) ⟨zx, z4, fun c => C_satOn (zFi hi) C wf (C_bits (x := gsit (gwy a i K)) (by omega) ?_), fun c => hQ 0 Z1 m (Or.inl ⟨rfl, JK_cut j (by show Z1 66 4 ≤ (i : Int); omega)⟩)⟩
  rw [e6]
  refine ⟨zcnt_r, h1, fun q => ?_, fun q => F_53 (by decide) hi hx fun Z' a1 a2 a3 a4 a5 => ?_⟩
  · have gn : gol a (-1) x1 i K = false := st.trans (decide_eq_false (by omega))
    refine ⟨zx, by rw [o3]; decide, fun y => ?_, fun y => hQ 1 Z1 m (Or.inr ⟨rfl, by omega, JK_down wx j gn (by omega)⟩)⟩
    have e4 : i = 4 := by omega
    subst e4
    exact hQ 0 Z1 m (Or.inl ⟨rfl, JK_last j gn⟩)
  · have gy : gol a (-1) x1 i K = true := st.trans (decide_eq_true (by omega))
    refine hQ 0 Z' (m.scr (by decide) a1) (Or.inl ⟨rfl, JK_hit (fun O O' h => fun e => by rw [h 6 (by decide) (by decide)]; exact e) j (by show (i : Int) < Z1 66 4; omega) gy a2 (a3.trans hx) a4 fun j hj => ?_⟩)
    show Z' (66 + 2) j = _
    rw [a5 j hj, m.2.2.2 j hj]
    rfl
def vLured (a : gX) (x1 x2 x3 : Int) : Int := vLv a (glv a (gol a x1 x2) 5) x3
def vGather (a : gX) (x1 : Int) : Int := vLv a (glv a (gol a (-1) x1) 5) (-1)
theorem JK_0 (o : O 3 = 4) (e : E O) (o4 : O 4 = 1000000) (o5 : O 5 = 0) : JK a E G 0 0 O F T :=
  ⟨o, e, by decide, Or.inl ⟨o4, o5, fun n k hn hk => by rw [cn_h (by omega), Nat.zero_mul] at hk; omega⟩⟩
theorem X_lured {x1 x2 x3 : Int} (A : CX Z a) (wx : WX a) (h1 : zR x1) (h2 : zR x2) (h3 : zR x3) : TI (d + 10) 130 [.inr 0, .inl x1, .inl x2, .inl x3] Z (PostC Z (oq a (clured a x1 x2 x3) (vLured a x1 x2 x3))) := by
  have hn : 0 ≤ a.1.1 ∧ a.1.1 ≤ 8 := wx.1.1.1
  have hW : 5 ≤ a.1.2.1 ∧ a.1.2.1 ≤ 6 := wx.1.1.2.1
  have g2 := geith_b (gb1 (W := a.1.2.1) (w := x2)) (gb4 (x := x3) (lo := -1))
  have g := geith_b (gb1 (W := a.1.1) (w := x1)) g2
  refine w130_0 (C_noBird h1 A.1.1 (by unfold zR; omega) (C_noWire h2 A.1.2.1 (by unfold zR; omega) (C_under h3 (by decide) (C_either (zR9 gb1) (C_either (zR9 gb1) ⟨zR9 g, fun c => ?_, fun c => C_refuse (by omega) (PRq A c g)⟩)))))
  have c1 := gin_0.mp (geith_0.mp c).1
  refine F_50 (by decide) fun Z1 k1 k3 k4 k5 Z14 e14 Z15 e15 => ?_
  have n62 : ∀ q, q ≠ 62 → Z15 q = Z q := fun q hq => by
    subst e15 e14; funext p
    rw [zup_cell _ _ _ _ hq, zup_cell _ _ _ _ hq, k1 q hq]
  refine F_open62 A wx (JK_p wx) (fun d => F_o62 (x1 := x1) (x2 := x2) wx c1 h2) (fun q hq => n62 q fun e => hq (by subst e; unfold SQ; omega)) (JK_0 ?_ ⟨?_, ?_⟩ ?_ ?_) fun Z2 f2 j => ?_
  · subst e15 e14; rw [zup_place _ _ _ _ (by decide), zup_place _ _ _ _ (by decide)]; exact k3
  · subst e15 e14; rw [zup_place _ _ _ _ (by decide), zup_same]
  · subst e15 e14; rw [zup_same]
  · subst e15 e14; rw [zup_place _ _ _ _ (by decide), zup_place _ _ _ _ (by decide)]; exact k4
  · subst e15 e14; rw [zup_place _ _ _ _ (by decide), zup_place _ _ _ _ (by decide)]; exact k5
  · obtain ⟨n, s, hn4, r, v1, v2⟩ := JK_end (T' := Z2 (62 + 3)) j
    have ok := PQ (v := vLured a x1 x2 x3) A c f2
    unfold vLured at ok ⊢
    refine ⟨h3, fun y => F_56 (by decide) hn4 h3 r ?_, fun y => F_55 (by decide) r.1 r.2.1 ?_⟩
    · rw [v1 x3 y]; exact ok
    · rw [v2]
      rw [show x3 = -1 by omega] at ok ⊢
      exact ok
theorem X_gather {x1 : Int} (A : CX Z a) (wx : WX a) (h1 : zR x1) : TI (d + 10) 131 [.inr 0, .inl x1] Z (PostC Z (oq a (gout x1 1 6) (vGather a x1))) := by
  refine w131_0 (C_outside h1 (by decide) (by decide) ⟨zR9 gb3, fun c => ?_, fun c => C_refuse (by have := @gb3 x1 1 6; omega) (PRq A c gb3)⟩)
  refine F_50 (by decide) fun Z1 k1 k3 k4 k5 Z6 e6 => ?_
  have n66 : ∀ q, q ≠ 66 → Z6 q = Z q := fun q hq => by
    subst e6; funext p
    rw [zup_cell _ _ _ _ hq, k1 q hq]
  refine F_open66 A wx (JK_p wx) (fun d => F_o66 (x1 := x1) wx h1) (fun q hq => n66 q fun e => hq (by subst e; unfold SQ; omega)) (JK_0 ?_ ?_ ?_ ?_) fun Z2 f2 j => ?_
  · subst e6; rw [zup_place _ _ _ _ (by decide)]; exact k3
  · subst e6; rw [zup_same]
  · subst e6; rw [zup_place _ _ _ _ (by decide)]; exact k4
  · subst e6; rw [zup_place _ _ _ _ (by decide)]; exact k5
  · obtain ⟨n, s, hn4, r, v1, v2⟩ := JK_end (T' := Z2 (66 + 3)) j
    have ok := PQ (v := vGather a x1) A c f2
    refine F_55 (by decide) r.1 r.2.1 ?_
    rw [v2]
    exact ok
end
/-! lured and gather, by the reference -/
section
variable {d : Nat} {Z Z1 Z2 : zM} {a : gX} {n k : Nat} {s : gS}
theorem G_263 {x1 x2 x3 : Int} {Q : Int → zM → Prop} (m : QS Z Z1 a) (wx : WX a) (en : x1 = n) (hn : n ≤ 4) (h2 : -1 ≤ x2 ∧ x2 < a.1.1) (h3 : zR x3) (w : WG a n k Z1) (q1 : gol a x2 x3 n k = true → ∀ Z2, QS Z Z2 a → same Z1 Z2 → Q 1 Z2) (q0 : gol a x2 x3 n k = false → ∀ Z2, QS Z Z2 a → same Z1 Z2 → Q 0 Z2) : TI (d + 4) 263 [.inr 100, .inl x1, .inl x2, .inl x3] Z1 Q := by
  have b := gB_b wx
  have hh := wx.1.2
  have hn8 : 0 ≤ a.1.1 ∧ a.1.1 ≤ 8 := wx.1.1.1
  have hW : 5 ≤ a.1.2.1 ∧ a.1.2.1 ≤ 6 := wx.1.1.2.1
  refine w263_0 (G_thinks m wx fun Z2 k2 s2 => ?_)
  suffices H : ∀ (f j : Nat) (x4 : Int) (Z2 : zM), f = n - j → x4 = j → j ≤ n → QE Z Z2 a (gwy a j (gpre (gB a) (n - j) k)) → same Z1 Z2 → TZ (d + 4) 263 7 [some (.inr 100), some (.inl x1), some (.inl x2), some (.inl x3), some (.inl x4)] [] Z2 (zri Q) from H n 0 0 Z2 rfl rfl (Nat.zero_le _) (by rw [gwy_0]; exact k2) s2
  intro f
  induction f with
  | zero =>
    intro j x4 Z2 ef e4 y k2 s2
    have ej : j = n := by omega
    subst ej
    rw [Nat.sub_self] at k2
    have k2 : QE Z Z2 a (gwy a j k) := k2
    have wf := gwy_wf wx j k (by omega)
    unfold gol at q1 q0
    refine w263_7 ⟨by unfold zR; omega, by unfold zR; omega, fun _ => ⟨by unfold zR; omega, fun c => G_chord k2 wf (R_bits ⟨zcnt_r, h3, fun q => G_forgets k2 wx fun Z3 l s3 => q0 ?_ Z3 l (s2.trans s3), fun q => G_forgets k2 wx fun Z3 l s3 => q1 ?_ Z3 l (s2.trans s3)⟩), fun c => ?_⟩, fun c => by omega⟩
    · rw [if_pos c]; exact decide_eq_false (by omega)
    · rw [if_pos c]; exact decide_eq_true (by omega)
    · have ep : Z2 105 x2 = gwP a j k x2 := (k2.1.1.2.2.2.1 x2 (by omega) (by show x2 < a.1.1; omega)).2.2
      have pb : 0 ≤ gwP a j k x2 ∧ gwP a j k x2 < a.1.2.1 := (wf.2.2.2.1 x2 (by omega) (by show x2 < a.1.1; omega)).2.2
      refine ⟨by omega, by rw [ep]; unfold zR; omega, h3, fun q => G_forgets k2 wx fun Z3 l s3 => q0 ?_ Z3 l (s2.trans s3), fun q => G_forgets k2 wx fun Z3 l s3 => q1 ?_ Z3 l (s2.trans s3)⟩
      · rw [if_neg c]; exact decide_eq_false (by rw [← ep]; exact q)
      · rw [if_neg c]; exact decide_eq_true (by rw [← ep]; omega)
  | succ f ih =>
    intro j x4 Z2 ef e4 y k2 s2
    have ed : Z2 114 x4 = ((gdig (gB a) n k j : Nat) : Int) := by rw [e4]; exact (w.same s2) j (by omega)
    have db := gdig_b (B := gB a) (n := n) (k := k) (j := j) (by omega)
    have st : gpass (Z2 114 x4 - 1) (gwy a j (gpre (gB a) (n - j) k)) = gwy a (j + 1) (gpre (gB a) (n - (j + 1)) k) := by
      rw [gwy_s, ed, show n - j = (n - (j + 1)) + 1 by omega, gpre_s]
      unfold gdig
      rw [show n - 1 - j = n - (j + 1) by omega]
    exact w263_7 ⟨by unfold zR; omega, by unfold zR; omega, fun c => by omega, fun _ => ⟨by omega, G_passf k2 wx (gwy_wf wx j _ (by omega)) (by show -1 ≤ Z2 114 x4 - 1 ∧ Z2 114 x4 - 1 < a.1.2.1; omega) (by show a.1.2.2.1 + (j : Int) < 1000000; omega) fun r Z3 k3 s3 => ih (j + 1) _ Z3 (by omega) (by omega) (by omega) (by rw [← st]; exact k3) (s2.trans s3)⟩⟩
theorem G_264 {x1 x2 : Int} {Q : Int → zM → Prop} (m : QS Z Z1 a) (wx : WX a) (h1 : -1 ≤ x1 ∧ x1 < a.1.1) (h2 : zR x2) (hQ0 : glv a (gol a x1 x2) 5 = none → ∀ Z2, QS Z Z2 a → Q (-9) Z2) (hQ1 : ∀ n k, n ≤ 4 → glv a (gol a x1 x2) 5 = some (n, k) → ∀ Z2, QS Z Z2 a → WG a n k Z2 → Q (n : Int) Z2) : TI (d + 5) 264 [.inr 100, .inl x1, .inl x2] Z1 Q := by
  have b := gB_b wx
  refine w264_0 ?_
  suffices H : ∀ (f n : Nat) (x3 : Int) (o4 : Option zV) (Z1 : zM), x3 = n → f = 5 - n → n ≤ 5 → glv a (gol a x1 x2) n = none → QS Z Z1 a → TZ (d + 5) 264 2 [some (.inr 100), some (.inl x1), some (.inl x2), some (.inl x3), o4] [] Z1 (zri Q) from H 5 0 0 none Z1 rfl rfl (by decide) rfl m
  intro f
  induction f with
  | zero =>
    intro n x3 o4 Z1 e3 ef y g l
    have : n = 5 := by omega
    subst this
    exact w264_2 ⟨by unfold zR; omega, fun _ => hQ0 g Z1 l, fun c => by omega⟩
  | succ f ih =>
    intro n x3 o4 Z1 e3 ef y g l
    have hn : n ≤ 4 := by omega
    have B4 := gBn_b wx hn
    refine w264_2 ⟨by unfold zR; omega, fun c => by omega, fun c => ?_⟩
    suffices H : ∀ (g k : Nat) (x4 : Int) (Z1 : zM), x4 = k → g = gB a ^ n - k → k ≤ gB a ^ n → gk1 (gol a x1 x2 n) k = none → QS Z Z1 a → TZ (d + 5) 264 10 [some (.inr 100), some (.inl x1), some (.inl x2), some (.inl x3), some (.inl x4)] [] Z1 (zri Q) from H _ 0 0 Z1 rfl rfl (Nat.zero_le _) rfl l
    intro r
    induction r with
    | zero =>
      intro k x4 Z1 e4 eg yk gk l
      have ek : k = gB a ^ n := by omega
      exact w264_10 (G_212 l.now.2.1 wx hn e3 ⟨by unfold zR; omega, by unfold zR; omega, fun _ => ih (n + 1) _ _ Z1 (by omega) (by omega) (by omega) (by rw [glv_s g, ← ek, gk]) l, fun c4 => by omega⟩)
    | succ r ihr =>
      intro k x4 Z1 e4 eg yk gk l
      refine w264_10 (G_212 l.now.2.1 wx hn e3 ⟨by unfold zR; omega, by unfold zR; omega, fun c4 => by omega, fun c4 => G_213 (n := n) l.now.2.1 wx hn (by omega) e4 e3 fun Z6 g6 wd => G_263 (l.one wx (c := 114) (by unfold scq; omega) g6) wx e3 hn h1 h2 wd (fun t Z2 l2 s2 => ⟨by decide, fun c => absurd c (by decide), fun _ => ?_⟩) fun t Z2 l2 s2 => ⟨by decide, fun _ => ihr (k + 1) _ Z2 (by omega) (by omega) (by omega) ?_ l2, fun c => absurd rfl c⟩⟩)
      · rw [e3]
        refine hQ1 n k hn ?_ Z2 l2 (wd.same s2)
        have s1 : gk1 (gol a x1 x2 n) (k + 1) = some k := by rw [gk1_s gk, if_pos t]
        have s2 := gk1_le (gB a ^ n - (k + 1)) (k + 1) s1
        rw [show k + 1 + (gB a ^ n - (k + 1)) = gB a ^ n by omega] at s2
        have s3 : glv a (gol a x1 x2) (n + 1) = some (n, k) := by rw [glv_s g, s2]
        have s4 := glv_le (5 - (n + 1)) (n + 1) s3
        rw [show n + 1 + (5 - (n + 1)) = 5 by omega] at s4
        exact s4
      · rw [gk1_s gk, t]; rfl
theorem Y_lured {x1 x2 x3 : Int} (A : RX Z a) (wx : WX a) (h1 : zR x1) (h2 : zR x2) (h3 : zR x3) : TI (d + 6) 265 [.inr 100, .inl x1, .inl x2, .inl x3] Z (PostR Z (oq a (clured a x1 x2 x3) (vLured a x1 x2 x3))) := by
  have m := QS.refl A
  have hn : 0 ≤ a.1.1 ∧ a.1.1 ≤ 8 := wx.1.1.1
  have hW : 5 ≤ a.1.2.1 ∧ a.1.2.1 ≤ 6 := wx.1.1.2.1
  refine w265_0 (R_isBird m.now.1 (by unfold zR; omega) h1 (fun i => ⟨by decide, fun e => absurd e (by decide), fun _ => R_isWire m.now.2.1 (by unfold zR; omega) h2 (fun j => ⟨by decide, fun _ => ⟨h3, fun c => ?_, fun c => G_no m wx (by unfold clured; rw [ge0 (gin_0.mpr i), ge0 (gin_0.mpr j)]; exact gu4 c) (by decide)⟩, fun e => absurd (show (1 : Int) ≠ 0 by decide) e⟩) (fun j => ⟨by decide, fun e => absurd rfl e, fun _ => G_no m wx (by unfold clured; rw [ge0 (gin_0.mpr i), gi1 j]; rfl) (by decide)⟩)⟩) (fun i => ⟨by decide, fun _ => G_no m wx (by unfold clured; rw [gi1 i]; rfl) (by decide), fun e => absurd rfl e⟩))
  have hc : clured a x1 x2 x3 = 0 := by unfold clured; rw [ge0 (gin_0.mpr i), ge0 (gin_0.mpr j)]; exact gu0 c
  refine G_264 m wx (by omega) h2 (fun e Z2 l => ?_) fun n k hn4 e Z2 l w => ?_
  · have ok := G_ok (v := vLured a x1 x2 x3) l hc
    unfold vLured at ok ⊢
    rw [e] at ok ⊢
    exact ⟨h3, fun c1 => ⟨h3, by decide, fun _ => ok, fun c2 => by omega⟩, fun _ => ok⟩
  · have ok : ∀ v, v = vLured a x1 x2 x3 → PostR Z (oq a (clured a x1 x2 x3) (vLured a x1 x2 x3)) v Z2 := fun v hv => by rw [hv]; exact G_ok l hc
    have ev : vLured a x1 x2 x3 = if x3 = -1 then (n : Int) else gans a n ((n : Int), k) x3 := by unfold vLured; rw [e]; rfl
    rw [ev] at ok ⊢
    have n1 : ¬ (n : Int) = 1000000 := by omega
    unfold gans at ok ⊢
    refine ⟨h3, fun c1 => ⟨h3, by unfold zR; omega, fun c2 => ok _ ?_, fun c2 => ⟨by omega, ok _ ?_⟩⟩, fun c1 => ok _ ?_⟩
    · rw [if_neg (show ¬ x3 = -1 by omega), if_neg n1, if_pos (Or.inr c2)]
    · rw [if_neg (show ¬ x3 = -1 by omega), if_neg n1, if_neg (by omega)]
      have := w x3.toNat (by omega)
      rw [Int.toNat_of_nonneg (by omega)] at this
      exact this
    · rw [if_pos (show x3 = -1 by omega)]
theorem Y_gather {x1 : Int} (A : RX Z a) (wx : WX a) (h1 : zR x1) : TI (d + 6) 268 [.inr 100, .inl x1] Z (PostR Z (oq a (gout x1 1 6) (vGather a x1))) := by
  have m := QS.refl A
  have hn : 0 ≤ a.1.1 ∧ a.1.1 ≤ 8 := wx.1.1.1
  refine w268_0 (R_bound h1 (by decide) (by decide) ⟨zR9 gb3, fun c => G_264 m wx (by omega) h1 (fun e Z2 l => ?_) fun n k hn4 e Z2 l w => ?_, fun c => G_no m wx rfl (go_n c)⟩)
  · have ok := G_ok (v := vGather a x1) l c
    unfold vGather at ok ⊢
    rw [e] at ok ⊢
    exact ok
  · have ok := G_ok (v := vGather a x1) l c
    unfold vGather at ok ⊢
    rw [e] at ok ⊢
    exact ok
end
