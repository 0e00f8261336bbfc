/-! THE REFERENCE: what is kept and put back -/
def pVC (c : Nat) (m : Int) (dd : Nat) (x2 : Int) (Z : zM) (Q : zM → Prop) : Prop := zR x2 ∧
      (m ≤ x2 → Q Z) ∧
      (¬ m ≤ x2 → (zR (Z 100 17) ∧
          ((Z 100 17) = 0 → ((0 ≤ (Z 100 18) ∧ (Z 100 18) < 400) ∧
              (0 ≤ x2 ∧ x2 < m) ∧
              ∀ Z7, Z7 = zup Z c x2 (Z 110 (Z 100 18)) →
              ∀ Z8, Z8 = zup Z7 100 18 ((Z7 100 18) + 1) →
              TZ dd 172 2 [some (.inr 100), some (.inr c), some (.inl (x2 + 1))] [] Z8 (zrv Q))) ∧
          (¬ (Z 100 17) = 0 → ((0 ≤ x2 ∧ x2 < m) ∧
              (0 ≤ (Z 100 18) ∧ (Z 100 18) < 400) ∧
              ∀ Z11, Z11 = zup Z 110 (Z 100 18) (Z c x2) →
              ∀ Z12, Z12 = zup Z11 100 18 ((Z11 100 18) + 1) →
              TZ dd 172 2 [some (.inr 100), some (.inr c), some (.inl (x2 + 1))] [] Z12 (zrv Q)))))
def pH (c : Nat) (m : Int) (dd : Nat) : Prop := ∀ (x2 : Int) (Z : zM) (Q : zM → Prop), pVC c m dd x2 Z Q → TZ dd 172 2 [some (.inr 100), some (.inr c), some (.inl x2)] [] Z (zrv Q)
def kst (Z Z' : zM) (lo hi : Int) (g : Int → Int) : Prop := (∀ p, Z' 110 p = if lo ≤ p ∧ p < hi then g (p - lo) else Z 110 p) ∧ Z' 100 18 = hi ∧ (∀ p, p ≠ 18 → Z' 100 p = Z 100 p) ∧ ∀ q, q ≠ 100 → q ≠ 110 → Z' q = Z q
def lst (c : Nat) (Z Z' : zM) (lo hi : Int) : Prop := (∀ p, Z' c p = if 0 ≤ p ∧ p < hi - lo then Z 110 (lo + p) else Z c p) ∧ Z' 100 18 = hi ∧ (∀ p, p ≠ 18 → Z' 100 p = Z 100 p) ∧ ∀ q, q ≠ 100 → q ≠ c → Z' q = Z q
theorem keepA {c : Nat} {m : Int} {dd : Nat} {cur : Int} {Z : zM} {Q : zM → Prop} (H : pH c m dd) (hc : c ≠ 100 ∧ c ≠ 110) (hm : 0 ≤ m ∧ m ≤ 8) (h17 : Z 100 17 = 1) (h18 : Z 100 18 = cur) (hcur : 0 ≤ cur ∧ cur + m ≤ 400) (hQ : ∀ Z', kst Z Z' cur (cur + m) (Z c) → Q Z') : TZ dd 172 2 [some (.inr 100), some (.inr c), some (.inl 0)] [] Z (zrv Q) := by
  suffices K : ∀ i : Nat, i ≤ m.toNat → ∀ Z1 : zM, kst Z Z1 cur (cur + i) (Z c) → TZ dd 172 2 [some (.inr 100), some (.inr c), some (.inl (i : Int))] [] Z1 (zrv Q) from
    K 0 (Nat.zero_le _) Z ⟨fun p => by rw [if_neg (by omega)], by rw [h18]; simp, fun _ _ => rfl, fun _ _ _ => rfl⟩
  intro i hi
  refine zdown (P := fun i => ∀ Z1 : zM, kst Z Z1 cur (cur + i) (Z c) → TZ dd 172 2 [some (.inr 100), some (.inr c), some (.inl (i : Int))] [] Z1 (zrv Q)) (n := m.toNat) ?_ ?_ i hi
  · intro Z1 k1
    rw [show cur + (m.toNat : Int) = cur + m by omega] at k1
    exact H _ _ _ ⟨by unfold zR; omega, fun _ => hQ Z1 k1, fun x => absurd (show m ≤ (m.toNat : Int) by omega) x⟩
  · intro i hi ih Z1 k1
    obtain ⟨a1, a2, a3, a4⟩ := k1
    have b17 : Z1 100 17 = 1 := by rw [a3 17 (by decide)]; exact h17
    refine H _ _ _ ⟨by unfold zR; omega, fun x => absurd x (by omega), fun _ => ?_⟩
    rw [b17, a2]
    refine ⟨by decide, fun x => absurd x (by decide), fun _ => ⟨by omega, by omega, fun Z2 z2 Z3 z3 => ih Z3 ⟨fun p => ?_, ?_, fun p hp => ?_, fun q h1 h2 => ?_⟩⟩⟩
    · subst z3; subst z2
      rw [zup_cell _ _ _ _ (by decide), a4 c hc.1 hc.2]
      by_cases e : p = cur + i
      · rw [e, zup_same, if_pos (by omega)]; congr 1; omega
      · rw [zup_place _ _ _ _ e, a1 p]
        by_cases e2 : cur ≤ p ∧ p < cur + i
        · rw [if_pos e2, if_pos (by omega)]
        · rw [if_neg e2, if_neg (by omega)]
    · subst z3; subst z2
      rw [zup_same, zup_cell _ _ _ _ (by decide), a2]; omega
    · subst z3; subst z2
      rw [zup_place _ _ _ _ hp, zup_cell _ _ _ _ (by decide)]; exact a3 p hp
    · subst z3; subst z2
      funext p
      rw [zup_cell _ _ _ _ h1, zup_cell _ _ _ _ h2, a4 q h1 h2]
theorem loadA {c : Nat} {m : Int} {dd : Nat} {cur : Int} {Z : zM} {Q : zM → Prop} (H : pH c m dd) (hc : c ≠ 100 ∧ c ≠ 110) (hm : 0 ≤ m ∧ m ≤ 8) (h17 : Z 100 17 = 0) (h18 : Z 100 18 = cur) (hcur : 0 ≤ cur ∧ cur + m ≤ 400) (hQ : ∀ Z', lst c Z Z' cur (cur + m) → Q Z') : TZ dd 172 2 [some (.inr 100), some (.inr c), some (.inl 0)] [] Z (zrv Q) := by
  suffices K : ∀ i : Nat, i ≤ m.toNat → ∀ Z1 : zM, lst c Z Z1 cur (cur + i) → TZ dd 172 2 [some (.inr 100), some (.inr c), some (.inl (i : Int))] [] Z1 (zrv Q) from
    K 0 (Nat.zero_le _) Z ⟨fun p => by rw [if_neg (by omega)], by rw [h18]; simp, fun _ _ => rfl, fun _ _ _ => rfl⟩
  intro i hi
  refine zdown (P := fun i => ∀ Z1 : zM, lst c Z Z1 cur (cur + i) → TZ dd 172 2 [some (.inr 100), some (.inr c), some (.inl (i : Int))] [] Z1 (zrv Q)) (n := m.toNat) ?_ ?_ i hi
  · intro Z1 k1
    rw [show cur + (m.toNat : Int) = cur + m by omega] at k1
    exact H _ _ _ ⟨by unfold zR; omega, fun _ => hQ Z1 k1, fun x => absurd (show m ≤ (m.toNat : Int) by omega) x⟩
  · intro i hi ih Z1 k1
    obtain ⟨a1, a2, a3, a4⟩ := k1
    have b17 : Z1 100 17 = 0 := by rw [a3 17 (by decide)]; exact h17
    have h110 := a4 110 (by decide) (fun e => hc.2 e.symm)
    refine H _ _ _ ⟨by unfold zR; omega, fun x => absurd x (by omega), fun _ => ?_⟩
    rw [b17, a2]
    refine ⟨by decide, fun _ => ⟨by omega, by omega, fun Z2 z2 Z3 z3 => ih Z3 ⟨fun p => ?_, ?_, fun p hp => ?_, fun q h1 h2 => ?_⟩⟩, fun x => absurd rfl x⟩
    · subst z3; subst z2
      rw [zup_cell _ _ _ _ hc.1, h110]
      by_cases e : p = i
      · subst e; rw [zup_same, if_pos (by omega)]
      · rw [zup_place _ _ _ _ e, a1 p]
        by_cases e2 : 0 ≤ p ∧ p < cur + i - cur
        · rw [if_pos e2, if_pos (by omega)]
        · rw [if_neg e2, if_neg (by omega)]
    · subst z3; subst z2
      rw [zup_same, zup_cell _ _ _ _ (fun e => hc.1 e.symm), a2]; omega
    · subst z3; subst z2
      rw [zup_place _ _ _ _ hp, zup_cell _ _ _ _ (fun e => hc.1 e.symm)]; exact a3 p hp
    · subst z3; subst z2
      funext p
      rw [zup_cell _ _ _ _ h1, zup_cell _ _ _ _ h2, a4 q h1 h2]
section
variable {d : Nat} {Z : zM}
theorem pH2 : pH 102 6 d := fun _ _ _ v => w172_2_102 v
theorem pH3 : pH 103 8 d := fun _ _ _ v => w172_2_103 v
theorem pH4 : pH 104 8 d := fun _ _ _ v => w172_2_104 v
theorem pH5 : pH 105 8 d := fun _ _ _ v => w172_2_105 v
theorem R_one1 {x cur : Int} {Q : Int → zM → Prop} (h17 : Z 100 17 = 1) (h18 : Z 100 18 = cur) (hc : 0 ≤ cur ∧ cur < 400) (hQ : ∀ Z', kst Z Z' cur (cur + 1) (fun _ => x) → Q x Z') : TI d 173 [.inr 100, .inl x] Z Q := by
  refine w173_0 ?_
  rw [h17, h18]
  refine ⟨by decide, fun y => absurd y (by decide), fun _ => ⟨by decide, fun y => absurd y (by decide), fun _ => ⟨hc, fun Z1 z1 Z2 z2 => hQ Z2 ⟨fun p => ?_, ?_, fun p hp => ?_, fun q h1 h2 => ?_⟩⟩⟩⟩
  · subst z2; subst z1
    rw [zup_cell _ _ _ _ (by decide)]
    by_cases e : p = cur
    · subst e; rw [zup_same, if_pos (by omega)]
    · rw [zup_place _ _ _ _ e, if_neg (by omega)]
  · subst z2; subst z1; rw [zup_same, zup_cell _ _ _ _ (by decide), h18]
  · subst z2; subst z1; rw [zup_place _ _ _ _ hp, zup_cell _ _ _ _ (by decide)]
  · subst z2; subst z1; funext p; rw [zup_cell _ _ _ _ h1, zup_cell _ _ _ _ h2]
theorem R_one0 {x cur : Int} {Q : Int → zM → Prop} (h17 : Z 100 17 = 0) (h18 : Z 100 18 = cur) (hc : 0 ≤ cur ∧ cur < 400) (hQ : Q (Z 110 cur) (zup Z 100 18 (cur + 1))) : TI d 173 [.inr 100, .inl x] Z Q := by
  refine w173_0 ?_
  rw [h17, h18]
  exact ⟨by decide, fun _ => ⟨hc, by decide, fun _ Z1 z1 => by subst z1; exact hQ, fun y => absurd rfl y⟩, fun y => absurd rfl y⟩
/-- what keeping into block w makes -/
def savd (Z Z' : zM) (w : Int) : Prop := (∀ v, 0 ≤ v → v < 6 → Z' 110 (35 * w + v) = Z 102 v) ∧ (∀ b, 0 ≤ b → b < 8 → Z' 110 (35 * w + 6 + b) = Z 103 b ∧ Z' 110 (35 * w + 14 + b) = Z 104 b ∧ Z' 110 (35 * w + 22 + b) = Z 105 b) ∧ (Z' 110 (35 * w + 30) = Z 100 5 ∧ Z' 110 (35 * w + 31) = Z 100 6 ∧ Z' 110 (35 * w + 32) = Z 100 7) ∧ (∀ p, (p < 35 * w ∨ 35 * w + 33 ≤ p) → Z' 110 p = Z 110 p) ∧ (∀ p, p ≠ 17 → p ≠ 18 → Z' 100 p = Z 100 p) ∧ ∀ q, q ≠ 100 → q ≠ 110 → Z' q = Z q
def lodd (Z Z' : zM) (w : Int) : Prop := (∀ v, 0 ≤ v → v < 6 → Z' 102 v = Z 110 (35 * w + v)) ∧ (∀ b, 0 ≤ b → b < 8 → Z' 103 b = Z 110 (35 * w + 6 + b) ∧ Z' 104 b = Z 110 (35 * w + 14 + b) ∧ Z' 105 b = Z 110 (35 * w + 22 + b)) ∧ (Z' 100 5 = Z 110 (35 * w + 30) ∧ Z' 100 6 = Z 110 (35 * w + 31) ∧ Z' 100 7 = Z 110 (35 * w + 32)) ∧ Z' 110 = Z 110 ∧ (∀ p, p ≠ 5 → p ≠ 6 → p ≠ 7 → p ≠ 17 → p ≠ 18 → Z' 100 p = Z 100 p) ∧ ∀ q, q ≠ 100 → (q < 102 ∨ 105 < q) → Z' q = Z q
theorem R_save {w : Int} {Q : zM → Prop} (hw : 0 ≤ w ∧ w ≤ 10) (hQ : ∀ Z', savd Z Z' w → Q Z') : TV (d + 1) 174 [.inr 100, .inl w, .inl 1] Z Q := by
  refine w174_0 fun Z1 z1 => ⟨by decide, fun Z2 z2 => ?_⟩
  have a17 : Z2 100 17 = 1 := by subst z2; rw [zup_same]
  have a18 : Z2 100 18 = 35 * w := by subst z2; subst z1; rw [zup_place _ _ _ _ (by decide), zup_same]
  have a100 : ∀ p, p ≠ 17 → p ≠ 18 → Z2 100 p = Z 100 p := fun p h1 h2 => by subst z2; subst z1; rw [zup_place _ _ _ _ h1, zup_place _ _ _ _ h2]
  have aq : ∀ q, q ≠ 100 → Z2 q = Z q := fun q h => by subst z2; subst z1; funext p; rw [zup_cell _ _ _ _ h, zup_cell _ _ _ _ h]
  refine w172_0_102 (keepA pH2 (by decide) (by decide) a17 a18 (by omega) fun Z3 ⟨b1, b2, b3, b4⟩ => ?_)
  have b17 : Z3 100 17 = 1 := by rw [b3 17 (by decide)]; exact a17
  refine w172_0_103 (keepA pH3 (by decide) (by decide) b17 b2 (by omega) fun Z4 ⟨c1, c2, c3, c4⟩ => ?_)
  have c17 : Z4 100 17 = 1 := by rw [c3 17 (by decide)]; exact b17
  refine w172_0_104 (keepA pH4 (by decide) (by decide) c17 c2 (by omega) fun Z5 ⟨d1, d2, d3, d4⟩ => ?_)
  have d17 : Z5 100 17 = 1 := by rw [d3 17 (by decide)]; exact c17
  refine w172_0_105 (keepA pH5 (by decide) (by decide) d17 d2 (by omega) fun Z6 ⟨f1, f2, f3, f4⟩ => ?_)
  have f17 : Z6 100 17 = 1 := by rw [f3 17 (by decide)]; exact d17
  have e100 : ∀ p, p ≠ 17 → p ≠ 18 → Z6 100 p = Z 100 p := fun p h1 h2 => by rw [f3 p h2, d3 p h2, c3 p h2, b3 p h2, a100 p h1 h2]
  have eq6 : ∀ q, q ≠ 100 → q ≠ 110 → Z6 q = Z q := fun q h1 h2 => by rw [f4 q h1 h2, d4 q h1 h2, c4 q h1 h2, b4 q h1 h2, aq q h1]
  rw [c4 104 (by decide) (by decide), b4 104 (by decide) (by decide), aq 104 (by decide)] at d1
  rw [d4 105 (by decide) (by decide), c4 105 (by decide) (by decide), b4 105 (by decide) (by decide), aq 105 (by decide)] at f1
  rw [b4 103 (by decide) (by decide), aq 103 (by decide)] at c1
  rw [aq 102 (by decide), aq 110 (by decide)] at b1
  refine R_one1 f17 f2 (by omega) fun Z7 ⟨g1, g2, g3, g4⟩ Z8 z8 => ?_
  have g17 : Z8 100 17 = 1 := by subst z8; rw [zup_place _ _ _ _ (by decide), g3 17 (by decide)]; exact f17
  have g18 : Z8 100 18 = 35 * w + 31 := by subst z8; rw [zup_place _ _ _ _ (by decide), g2]; omega
  have g100 : ∀ p, p ≠ 17 → p ≠ 18 → Z8 100 p = Z 100 p := fun p h1 h2 => by
    subst z8
    by_cases e : p = 5
    · subst e; rw [zup_same, e100 5 (by decide) (by decide)]
    · rw [zup_place _ _ _ _ e, g3 p h2, e100 p h1 h2]
  refine R_one1 g17 g18 (by omega) fun Z9 ⟨i1, i2, i3, i4⟩ Z10 z10 => ?_
  have i17 : Z10 100 17 = 1 := by subst z10; rw [zup_place _ _ _ _ (by decide), i3 17 (by decide)]; exact g17
  have i18 : Z10 100 18 = 35 * w + 32 := by subst z10; rw [zup_place _ _ _ _ (by decide), i2]; omega
  have i100 : ∀ p, p ≠ 17 → p ≠ 18 → Z10 100 p = Z 100 p := fun p h1 h2 => by
    subst z10
    by_cases e : p = 6
    · subst e; rw [zup_same, g100 6 (by decide) (by decide)]
    · rw [zup_place _ _ _ _ e, i3 p h2, g100 p h1 h2]
  refine R_one1 i17 i18 (by omega) fun Z11 ⟨j1, j2, j3, j4⟩ Z12 z12 => hQ Z12 ?_
  have k100 : ∀ p, p ≠ 17 → p ≠ 18 → Z12 100 p = Z 100 p := fun p h1 h2 => by
    subst z12
    by_cases e : p = 7
    · subst e; rw [zup_same, i100 7 (by decide) (by decide)]
    · rw [zup_place _ _ _ _ e, j3 p h2, i100 p h1 h2]
  have k110 : ∀ p, Z12 110 p = if 35 * w + 32 ≤ p ∧ p < 35 * w + 32 + 1 then Z 100 7 else if 35 * w + 31 ≤ p ∧ p < 35 * w + 31 + 1 then Z 100 6 else if 35 * w + 6 + 8 + 8 + 8 ≤ p ∧ p < 35 * w + 6 + 8 + 8 + 8 + 1 then Z 100 5 else if 35 * w + 6 + 8 + 8 ≤ p ∧ p < 35 * w + 6 + 8 + 8 + 8 then Z 105 (p - (35 * w + 6 + 8 + 8)) else if 35 * w + 6 + 8 ≤ p ∧ p < 35 * w + 6 + 8 + 8 then Z 104 (p - (35 * w + 6 + 8)) else if 35 * w + 6 ≤ p ∧ p < 35 * w + 6 + 8 then Z 103 (p - (35 * w + 6)) else if 35 * w ≤ p ∧ p < 35 * w + 6 then Z 102 (p - 35 * w) else Z 110 p := by
    intro p
    have e12 : Z12 110 = Z11 110 := by subst z12; funext p; rw [zup_cell _ _ _ _ (by decide)]
    have e10 : Z10 110 = Z9 110 := by subst z10; funext p; rw [zup_cell _ _ _ _ (by decide)]
    have e8 : Z8 110 = Z7 110 := by subst z8; funext p; rw [zup_cell _ _ _ _ (by decide)]
    rw [e12, j1 p, e10, i1 p, e8, g1 p, f1 p, d1 p, c1 p, b1 p, e100 5 (by decide) (by decide), g100 6 (by decide) (by decide), i100 7 (by decide) (by decide)]
  have kq : ∀ q, q ≠ 100 → q ≠ 110 → Z12 q = Z q := fun q h1 h2 => by
    subst z12
    funext p
    rw [zup_cell _ _ _ _ h1, j4 q h1 h2]
    subst z10
    rw [zup_cell _ _ _ _ h1, i4 q h1 h2]
    subst z8
    rw [zup_cell _ _ _ _ h1, g4 q h1 h2, eq6 q h1 h2]
  refine ⟨fun v h1 h2 => ?_, fun b h1 h2 => ⟨?_, ?_, ?_⟩, ⟨?_, ?_, ?_⟩, fun p hp => ?_, k100, kq⟩
  · rw [k110, if_neg (by omega), if_neg (by omega), if_neg (by omega), if_neg (by omega), if_neg (by omega), if_neg (by omega), if_pos (by omega)]; congr 1; omega
  · rw [k110, if_neg (by omega), if_neg (by omega), if_neg (by omega), if_neg (by omega), if_neg (by omega), if_pos (by omega)]; congr 1; omega
  · rw [k110, if_neg (by omega), if_neg (by omega), if_neg (by omega), if_neg (by omega), if_pos (by omega)]; congr 1; omega
  · rw [k110, if_neg (by omega), if_neg (by omega), if_neg (by omega), if_pos (by omega)]; congr 1; omega
  · rw [k110, if_neg (by omega), if_neg (by omega), if_pos (by omega)]
  · rw [k110, if_neg (by omega), if_pos (by omega)]
  · rw [k110, if_pos (by omega)]
  · rw [k110, if_neg (by omega), if_neg (by omega), if_neg (by omega), if_neg (by omega), if_neg (by omega), if_neg (by omega), if_neg (by omega)]
theorem R_load {w : Int} {Q : zM → Prop} (hw : 0 ≤ w ∧ w ≤ 10) (hQ : ∀ Z', lodd Z Z' w → Q Z') : TV (d + 1) 174 [.inr 100, .inl w, .inl 0] Z Q := by
  refine w174_0 fun Z1 z1 => ⟨by decide, fun Z2 z2 => ?_⟩
  have a17 : Z2 100 17 = 0 := by subst z2; rw [zup_same]
  have a18 : Z2 100 18 = 35 * w := by subst z2; subst z1; rw [zup_place _ _ _ _ (by decide), zup_same]
  have a100 : ∀ p, p ≠ 17 → p ≠ 18 → Z2 100 p = Z 100 p := fun p h1 h2 => by subst z2; subst z1; rw [zup_place _ _ _ _ h1, zup_place _ _ _ _ h2]
  have aq : ∀ q, q ≠ 100 → Z2 q = Z q := fun q h => by subst z2; subst z1; funext p; rw [zup_cell _ _ _ _ h, zup_cell _ _ _ _ h]
  refine w172_0_102 (loadA pH2 (by decide) (by decide) a17 a18 (by omega) fun Z3 ⟨b1, b2, b3, b4⟩ => ?_)
  have b17 : Z3 100 17 = 0 := by rw [b3 17 (by decide)]; exact a17
  refine w172_0_103 (loadA pH3 (by decide) (by decide) b17 b2 (by omega) fun Z4 ⟨c1, c2, c3, c4⟩ => ?_)
  have c17 : Z4 100 17 = 0 := by rw [c3 17 (by decide)]; exact b17
  refine w172_0_104 (loadA pH4 (by decide) (by decide) c17 c2 (by omega) fun Z5 ⟨d1, d2, d3, d4⟩ => ?_)
  have d17 : Z5 100 17 = 0 := by rw [d3 17 (by decide)]; exact c17
  refine w172_0_105 (loadA pH5 (by decide) (by decide) d17 d2 (by omega) fun Z6 ⟨f1, f2, f3, f4⟩ => ?_)
  have f17 : Z6 100 17 = 0 := by rw [f3 17 (by decide)]; exact d17
  have e100 : ∀ p, p ≠ 17 → p ≠ 18 → Z6 100 p = Z 100 p := fun p h1 h2 => by rw [f3 p h2, d3 p h2, c3 p h2, b3 p h2, a100 p h1 h2]
  have e3 : Z3 110 = Z 110 := by rw [b4 110 (by decide) (by decide), aq 110 (by decide)]
  have e4 : Z4 110 = Z 110 := by rw [c4 110 (by decide) (by decide), e3]
  have e5 : Z5 110 = Z 110 := by rw [d4 110 (by decide) (by decide), e4]
  have e6 : Z6 110 = Z 110 := by rw [f4 110 (by decide) (by decide), e5]
  rw [aq 110 (by decide)] at b1
  rw [e3] at c1
  rw [e4] at d1
  rw [e5] at f1
  refine R_one0 f17 f2 (by omega) fun Z8 z8 => ?_
  have g17 : Z8 100 17 = 0 := by subst z8; rw [zup_place _ _ _ _ (by decide), zup_place _ _ _ _ (by decide)]; exact f17
  have g18 : Z8 100 18 = 35 * w + 31 := by subst z8; rw [zup_place _ _ _ _ (by decide), zup_same]; omega
  refine R_one0 g17 g18 (by omega) fun Z10 z10 => ?_
  have i17 : Z10 100 17 = 0 := by subst z10; rw [zup_place _ _ _ _ (by decide), zup_place _ _ _ _ (by decide)]; exact g17
  have i18 : Z10 100 18 = 35 * w + 32 := by subst z10; rw [zup_place _ _ _ _ (by decide), zup_same]; omega
  refine R_one0 i17 i18 (by omega) fun Z12 z12 => hQ Z12 ?_
  have kq : ∀ q, q ≠ 100 → Z12 q = Z6 q := fun q h => by
    subst z12; subst z10; subst z8
    funext p
    rw [zup_cell _ _ _ _ h, zup_cell _ _ _ _ h, zup_cell _ _ _ _ h, zup_cell _ _ _ _ h, zup_cell _ _ _ _ h, zup_cell _ _ _ _ h]
  have v8 : Z8 110 = Z 110 := by subst z8; funext p; rw [zup_cell _ _ _ _ (by decide), zup_cell _ _ _ _ (by decide), e6]
  have v10 : Z10 110 = Z 110 := by subst z10; funext p; rw [zup_cell _ _ _ _ (by decide), zup_cell _ _ _ _ (by decide), v8]
  refine ⟨fun v h1 h2 => ?_, fun b h1 h2 => ⟨?_, ?_, ?_⟩, ⟨?_, ?_, ?_⟩, ?_, fun p h1 h2 h3 h4 h5 => ?_, fun q h1 h2 => ?_⟩
  · rw [kq 102 (by decide), f4 102 (by decide) (by decide), d4 102 (by decide) (by decide), c4 102 (by decide) (by decide), b1, if_pos (by omega)]
  · rw [kq 103 (by decide), f4 103 (by decide) (by decide), d4 103 (by decide) (by decide), c1, if_pos (by omega)]
  · rw [kq 104 (by decide), f4 104 (by decide) (by decide), d1, if_pos (by omega)]; congr 1; omega
  · rw [kq 105 (by decide), f1, if_pos (by omega)]; congr 1; omega
  · subst z12
    rw [zup_place _ _ _ _ (by decide), zup_place _ _ _ _ (by decide)]
    subst z10
    rw [zup_place _ _ _ _ (by decide), zup_place _ _ _ _ (by decide)]
    subst z8
    rw [zup_same, e6]; congr 1; omega
  · subst z12
    rw [zup_place _ _ _ _ (by decide), zup_place _ _ _ _ (by decide)]
    subst z10
    rw [zup_same, v8]
  · subst z12
    rw [zup_same, v10]
  · rw [kq 110 (by decide), e6]
  · subst z12
    rw [zup_place _ _ _ _ h3, zup_place _ _ _ _ h5]
    subst z10
    rw [zup_place _ _ _ _ h2, zup_place _ _ _ _ h5]
    subst z8
    rw [zup_place _ _ _ _ h1, zup_place _ _ _ _ h5, e100 p h4 h5]
  · rw [kq q h1, f4 q h1 (by omega), d4 q h1 (by omega), c4 q h1 (by omega), b4 q h1 (by omega), aq q h1]
end
