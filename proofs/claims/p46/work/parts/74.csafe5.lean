/-! THE CLASS's looks, fifth part: the row -/
def N412 (q : Nat) : Bool := q == 41 || q == 42
theorem N412s {q : Nat} (h : N412 q = true) : SQ q := by
  have : q = 41 ∨ q = 42 := by simpa [N412] using h
  unfold SQ; omega
def gmx (r : Int → Int) : Nat → Int
  | 0 => 0
  | m + 1 => max (gmx r m) (r m)
def gunfit (a : gX) (x : Int) : Int := if 4 < a.2.2.2.2.1.1 then -3 else if x < gmx a.2.2.2.2.1.2 a.2.2.2.2.1.1.toNat then -3 else 0
theorem gunfit_b {a : gX} {x : Int} : -6 ≤ gunfit a x ∧ gunfit a x ≤ 0 := by unfold gunfit; split; decide; split <;> decide
theorem gmx_b {r : Int → Int} : ∀ m : Nat, (∀ j : Int, 0 ≤ j → j < m → 0 ≤ r j ∧ r j ≤ 99) → 0 ≤ gmx r m ∧ gmx r m ≤ 99
  | 0, _ => by unfold gmx; decide
  | m + 1, h => by
    have i := gmx_b (r := r) m fun j h1 h2 => h j h1 (by omega)
    have g := h m (by omega) (by omega)
    unfold gmx
    omega
section
variable {d : Nat} {Z Z1 : zM} {a : gX} {B : Int}
theorem C_unfit {x1 : Int} {Q : Int → zM → Prop} (A : CX Z a) (hx : zR x1) (hQ : Q (gunfit a x1) Z) : TI (d + 2) 78 [.inr 0, .inl x1] Z Q := by
  obtain ⟨r1, rb, r3⟩ := rowR A (frs.refl SQ Z)
  have rr : CR Z a.2.2.2.2.1.1 a.2.2.2.2.1.2 := A.2.2.2.2.1
  refine w78_0 ?_
  rw [r1]
  unfold gunfit at hQ
  refine ⟨by unfold zR; omega, fun c => by rwa [if_pos c] at hQ, fun c => ?_⟩
  rw [if_neg c] at hQ
  have gb := fun m (hm : m ≤ a.2.2.2.2.1.1.toNat) => gmx_b (r := a.2.2.2.2.1.2) m fun j h1 h2 => (rr.2.2 j h1 (by omega)).2
  refine w59_0 ?_
  suffices H : ∀ m : Nat, m ≤ a.2.2.2.2.1.1.toNat → TZ (d + 1) 59 4 [some (.inr 39), some (.inl (gmx a.2.2.2.2.1.2 m)), some (.inl (m : Int))] [] Z (zri (fun r4 Z3 => zR r4 ∧ zR x1 ∧ (x1 < r4 → Q (-3) Z3) ∧ (¬ x1 < r4 → Q 0 Z3))) from H 0 (Nat.zero_le _)
  intro m hm
  refine zdown (P := fun m => TZ (d + 1) 59 4 [some (.inr 39), some (.inl (gmx a.2.2.2.2.1.2 m)), some (.inl (m : Int))] [] Z (zri (fun r4 Z3 => zR r4 ∧ zR x1 ∧ (x1 < r4 → Q (-3) Z3) ∧ (¬ x1 < r4 → Q 0 Z3)))) (n := a.2.2.2.2.1.1.toNat) ?_ ?_ m hm
  · refine w59_4 ?_
    rw [r1]
    have g := gb _ (Nat.le_refl _)
    exact ⟨by unfold zR; omega, by unfold zR; omega, fun _ => ⟨by unfold zR; omega, hx, fun q => by rwa [if_pos q] at hQ, fun q => by rwa [if_neg q] at hQ⟩, fun y => absurd (show a.2.2.2.2.1.1 ≤ (a.2.2.2.2.1.1.toNat : Int) by omega) y⟩
  · intro m hm ih
    have g := gb m (by omega)
    have e := (rr.2.2 m (by omega) (by omega)).1
    refine w59_4 ?_
    rw [r1]
    refine ⟨by unfold zR; omega, by unfold zR; omega, fun y => absurd y (by omega), fun _ => ⟨by omega, by unfold zR; omega, r3 m (by omega) (by omega), ?_⟩⟩
    rw [e]
    exact ih
theorem S_62 {x0 x1 x2 : Int} {Q : Int → zM → Prop} (h0 : zR x0) (h1 : zR x1) (h2 : zR x2) (hQ : ∀ r, zR r → Q r Z1) : TI (d + 1) 62 [.inl x0, .inl x1, .inl x2] Z1 Q := by
  unfold zR at h0 h1 h2
  exact w62_0 ⟨h0, h1, h0, h1, by unfold zR; omega, h2, by unfold zR; omega, by unfold zR; omega, hQ _ (by unfold zR; omega)⟩
theorem S_61 {Q : Int → zM → Prop} (A : CX Z a) (f1 : frs SQ Z Z1) (hQ : ∀ r Z', (r = 0 ∨ r = 1) → frs SQ Z Z' → Q r Z') : TI (d + 2) 61 [.inr 39] Z1 Q := by
  refine w61_0 ?_
  suffices H : ∀ (f : Nat) (x1 x2 : Int) (o3 o4 : Option zV) (Z1 : zM), a.2.2.2.2.1.1 - x2 < f → 0 ≤ x2 → x2 ≤ 12 → (x1 = 0 ∨ x1 = 1) → frs SQ Z Z1 → TZ (d + 2) 61 4 [some (.inr 39), some (.inl x1), some (.inl x2), o3, o4] [] Z1 (zri Q) from H 13 0 0 none none Z1 (by have := (rowR A (frs.refl SQ Z)).2.1; omega) (by decide) (by decide) (by decide) f1
  intro f
  induction f with
  | zero =>
    intro x1 x2 o3 o4 Z1 y1 y2 y3 y4 f1
    obtain ⟨r1, rb, r3⟩ := rowR A f1
    refine w61_4 ?_
    rw [r1]
    exact ⟨by unfold zR; omega, by unfold zR; omega, fun _ => ⟨y4, hQ _ Z1 y4 f1⟩, fun y => absurd (show a.2.2.2.2.1.1 ≤ x2 by omega) y⟩
  | succ f ih =>
    intro x1 x2 o3 o4 Z1 y1 y2 y3 y4 f1
    refine TZ.nq N412 ?_
    have f4 := nq_frs f1 (S := N412) fun q => N412s
    have hz1 : ∀ j, zR (nq N412 Z1 41 j) := fun j => nq_r rfl j
    generalize nq N412 Z1 = Z4 at f4 hz1
    obtain ⟨r1, rb, r3⟩ := rowR A f4
    refine w61_4 ?_
    rw [r1]
    refine ⟨by unfold zR; omega, by unfold zR; omega, fun _ => ⟨y4, hQ _ Z4 y4 f4⟩, fun y => ?_⟩
    have t : ∀ (p r v : Int), zR v → ∀ Z17, Z17 = zup Z4 42 x2 v →
        zR x1 ∧
        (x1 ≠ 0 → TZ (d + 2) 61 4 [some (.inr 39), some (.inl 1), some (.inl (x2 + 1)), some (.inl p), some (.inl r)] [] Z17 (zri Q)) ∧
        (¬ x1 ≠ 0 → ((0 ≤ x2 ∧ x2 < 12) ∧ (0 ≤ x2 ∧ x2 < 12) ∧ zR (Z17 42 x2) ∧ zR (Z17 41 x2) ∧
          ((Z17 42 x2) = (Z17 41 x2) → TZ (d + 2) 61 4 [some (.inr 39), some (.inl 0), some (.inl (x2 + 1)), some (.inl p), some (.inl r)] [] Z17 (zri Q)) ∧
          (¬ (Z17 42 x2) = (Z17 41 x2) → TZ (d + 2) 61 4 [some (.inr 39), some (.inl 1), some (.inl (x2 + 1)), some (.inl p), some (.inl r)] [] Z17 (zri Q)))) := by
      intro p r v hv Z17 e
      have f5 : frs SQ Z Z17 := fun q hq => by
        subst e; funext i
        rw [zup_cell _ _ _ _ (fun h => hq (by subst h; unfold SQ; omega)), f4 q hq]
      have k := fun x (hx : x = 0 ∨ x = 1) => ih x (x2 + 1) (some (.inl p)) (some (.inl r)) Z17 (by omega) (by omega) (by omega) hx f5
      exact ⟨by unfold zR; omega, fun _ => k 1 (Or.inr rfl), fun _ => ⟨by omega, by omega, by rw [e, zup_same]; exact hv, by rw [e, zup_cell _ _ _ _ (by decide)]; exact hz1 _, fun _ => k 0 (Or.inl rfl), fun _ => k 1 (Or.inr rfl)⟩⟩
    have big : ∀ (p r : Int), zR p → zR r → zR a.2.2.2.2.1.1 ∧
        (3 ≤ a.2.2.2.2.1.1 → ((0 ≤ x2 ∧ x2 < 12) ∧
          TI (d + 1) 62 [.inl p, .inl (Z4 41 x2), .inl r] Z4 (fun r15 Z14 => (0 ≤ x2 ∧ x2 < 12) ∧
            ∀ Z17, Z17 = zup Z14 42 x2 r15 →
            zR x1 ∧
            (x1 ≠ 0 → TZ (d + 2) 61 4 [some (.inr 39), some (.inl 1), some (.inl (x2 + 1)), some (.inl p), some (.inl r)] [] Z17 (zri Q)) ∧
            (¬ x1 ≠ 0 → ((0 ≤ x2 ∧ x2 < 12) ∧ (0 ≤ x2 ∧ x2 < 12) ∧ zR (Z17 42 x2) ∧ zR (Z17 41 x2) ∧
              ((Z17 42 x2) = (Z17 41 x2) → TZ (d + 2) 61 4 [some (.inr 39), some (.inl 0), some (.inl (x2 + 1)), some (.inl p), some (.inl r)] [] Z17 (zri Q)) ∧
              (¬ (Z17 42 x2) = (Z17 41 x2) → TZ (d + 2) 61 4 [some (.inr 39), some (.inl 1), some (.inl (x2 + 1)), some (.inl p), some (.inl r)] [] Z17 (zri Q))))))) ∧
        (¬ 3 ≤ a.2.2.2.2.1.1 → ((0 ≤ x2 ∧ x2 < 12) ∧ (0 ≤ x2 ∧ x2 < 12) ∧
            ∀ Z27, Z27 = zup Z4 42 x2 (Z4 41 x2) →
            zR x1 ∧
            (x1 ≠ 0 → TZ (d + 2) 61 4 [some (.inr 39), some (.inl 1), some (.inl (x2 + 1)), some (.inl p), some (.inl r)] [] Z27 (zri Q)) ∧
            (¬ x1 ≠ 0 → ((0 ≤ x2 ∧ x2 < 12) ∧ (0 ≤ x2 ∧ x2 < 12) ∧ zR (Z27 42 x2) ∧ zR (Z27 41 x2) ∧
              ((Z27 42 x2) = (Z27 41 x2) → TZ (d + 2) 61 4 [some (.inr 39), some (.inl 0), some (.inl (x2 + 1)), some (.inl p), some (.inl r)] [] Z27 (zri Q)) ∧
              (¬ (Z27 42 x2) = (Z27 41 x2) → TZ (d + 2) 61 4 [some (.inr 39), some (.inl 1), some (.inl (x2 + 1)), some (.inl p), some (.inl r)] [] Z27 (zri Q)))))) := by
      intro p r hp hr
      exact ⟨by unfold zR; omega, fun _ => ⟨by omega, S_62 hp (hz1 _) hr fun v hv => ⟨by omega, t p r v hv⟩⟩, fun _ => ⟨by omega, by omega, t p r _ (hz1 _)⟩⟩
    refine ⟨by unfold zR; omega, fun c => ⟨by omega, by unfold zR; omega, by unfold zR; omega, fun e => ?_, fun e => ⟨by omega, ?_⟩⟩, fun c => ⟨by omega, by unfold zR; omega, by unfold zR; omega, fun e => ?_, fun e => ⟨by omega, ?_⟩⟩⟩
    · exact big _ _ (hz1 _) (hz1 _)
    · exact big _ _ (hz1 _) (hz1 _)
    · exact big _ _ (hz1 _) (hz1 _)
    · exact big _ _ (hz1 _) (hz1 _)
theorem S_60 {Q : Int → zM → Prop} (A : CX Z a) (hQ : ∀ r Z', frs SQ Z Z' → Q r Z') : TI (d + 3) 60 [.inr 39] Z Q := by
  have last : ∀ (f : Nat) (x1 x2 : Int) (Z1 : zM), 20 - x2 < f → 0 ≤ x2 → x2 ≤ 20 → (x1 = 0 ∨ x1 = 1) → frs SQ Z Z1 → TZ (d + 3) 60 38 [some (.inr 39), some (.inl x1), some (.inl x2)] [] Z1 (zri Q) := by
    intro f
    induction f with
    | zero => intro x1 x2 Z1 y1 y2 y3 y4 f1; omega
    | succ f ih =>
      intro x1 x2 Z1 y1 y2 y3 y4 f1
      have z1 : zR x1 := by unfold zR; omega
      exact w60_38 ⟨z1, fun _ => ⟨z1, fun _ => hQ _ Z1 f1, fun _ => hQ _ Z1 f1⟩, fun _ => ⟨by unfold zR; omega, fun _ => ⟨z1, fun _ => hQ _ Z1 f1, fun _ => hQ _ Z1 f1⟩, fun _ Z9 e => S_61 A (fun q hq => by
        subst e; funext p; unfold zcpy
        rw [if_neg (fun h => hq (by subst h; unfold SQ; omega)), f1 q hq]) fun r Z' hr f' => ih _ _ Z' (by omega) (by omega) (by omega) hr f'⟩⟩
  refine w60_0 ?_
  suffices H : ∀ (f : Nat) (x1 : Int) (Z1 : zM), a.2.2.2.2.1.1 - x1 < f → 0 ≤ x1 → x1 ≤ 12 → frs SQ Z Z1 → TZ (d + 3) 60 2 [some (.inr 39), some (.inl x1), none] [] Z1 (zri Q) from H 13 0 Z (by have := (rowR A (frs.refl SQ Z)).2.1; omega) (by decide) (by decide) (frs.refl _ _)
  intro f
  induction f with
  | zero =>
    intro x1 Z1 y1 y2 y3 f1
    obtain ⟨r1, rb, r3⟩ := rowR A f1
    refine w60_2 ?_
    rw [r1]
    exact ⟨by unfold zR; omega, by unfold zR; omega, fun _ => S_61 A f1 fun r Z' hr f' => last 21 _ _ Z' (by decide) (by decide) (by decide) hr f', fun y => absurd (show a.2.2.2.2.1.1 ≤ x1 by omega) y⟩
  | succ f ih =>
    intro x1 Z1 y1 y2 y3 f1
    obtain ⟨r1, rb, r3⟩ := rowR A f1
    refine w60_2 ?_
    rw [r1]
    exact ⟨by unfold zR; omega, by unfold zR; omega, fun _ => S_61 A f1 fun r Z' hr f' => last 21 _ _ Z' (by decide) (by decide) (by decide) hr f', fun y => ⟨by omega, r3 _ y2 (by omega), by omega, fun Z9 e => ih _ Z9 (by omega) (by omega) (by omega) fun q hq => by
      subst e; funext p
      rw [zup_cell _ _ _ _ (fun h => hq (by subst h; unfold SQ; omega)), f1 q hq]⟩⟩
theorem S_63 {Q : Int → zM → Prop} (A : CX Z a) (f1 : frs SQ Z Z1) (hQ : ∀ r, zR r → Q r Z1) : TI (d + 1) 63 [.inr 39] Z1 Q := by
  obtain ⟨r1, rb, r3⟩ := rowR A f1
  refine w63_0 ?_
  suffices H : ∀ (f : Nat) (x1 x2 : Int), a.2.2.2.2.1.1 - x2 < f → 0 ≤ x2 → x2 ≤ 12 → TZ (d + 1) 63 4 [some (.inr 39), some (.inl x1), some (.inl x2)] [] Z1 (zri Q) from H 13 0 0 (by omega) (by decide) (by decide)
  intro f
  induction f with
  | zero => intro x1 x2 y1 y2 y3; exact w63_4 ⟨by unfold zR; omega, by unfold zR; omega, fun _ => S_bits hQ, fun y => absurd (show Z1 39 3 ≤ x2 by omega) y⟩
  | succ f ih => intro x1 x2 y1 y2 y3; exact w63_4 ⟨by unfold zR; omega, by unfold zR; omega, fun _ => S_bits hQ, fun y => ⟨by omega, ih _ _ (by omega) (by omega) (by omega)⟩⟩
def cwinter (a : gX) (x : Int) : Int := geith (gunk x 1) (if a.2.2.2.2.1.1 ≠ 0 then 0 else -3)
theorem T_winter {x1 : Int} (A : CX Z a) (h1 : zR x1) : TI (d + 4) 148 [.inr 0, .inl x1] Z (QC Z a (cwinter a x1)) := by
  obtain ⟨r1, rb, r3⟩ := rowR A (frs.refl SQ Z)
  have cb : -6 ≤ cwinter a x1 ∧ cwinter a x1 ≤ 0 := by
    unfold cwinter
    refine geith_b gb2 ?_
    split <;> decide
  refine w148_0 (C_unknown h1 (by decide) ?_)
  rw [r1]
  have go : ∀ c, c = cwinter a x1 → zR c ∧
      (c = 0 → TI (d + 3) 60 [.inr 39] Z (fun r10 Z9 => zR x1 ∧ (x1 ≠ 0 → TI (d + 3) 63 [.inr 39] Z9 (fun r14 Z13 => QC Z a (cwinter a x1) r14 Z13)) ∧ (¬ x1 ≠ 0 → QC Z a (cwinter a x1) r10 Z9))) ∧
      (¬ c = 0 → TI (d + 3) 71 [.inr 0, .inl c] Z (fun r16 Z15 => QC Z a (cwinter a x1) r16 Z15)) := by
    intro c e
    subst e
    exact ⟨zR9 cb, fun c => S_60 A fun r Z' f' => ⟨h1, fun _ => S_63 A f' fun r2 _ => qok A c f', fun _ => qok A c f'⟩, fun c => C_refuse (by omega) (qno A c cb)⟩
  refine ⟨by unfold zR; omega, fun y => C_either (zR9 gb2) (go _ ?_), fun y => C_either (zR9 gb2) (go _ ?_)⟩
  · unfold cwinter; rw [if_pos y]
  · unfold cwinter; rw [if_neg y]
end
