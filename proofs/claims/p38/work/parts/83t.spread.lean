/-! LOOKS with their very answers: spread -/
def gmxc (a : gX) : Nat → Int
  | 0 => 0
  | m + 1 => max (gmxc a m) (cnt a.1.2.2.2.2.2.1 m a.1.1.toNat)
/-- what is carried over the first m wires, moves so far -/
def gcr (a : gX) (more : Int) : Nat → Int × Int
  | 0 => (0, 0)
  | m + 1 =>
    let o := (gcr a more m).1 + ((cnt a.1.2.2.2.2.2.1 m a.1.1.toNat - a.1.1 / a.1.2.1) - zbit 3 (zbit 7 more m) 1)
    (o, (gcr a more m).2 + (if 0 ≤ o then o else -o))
def gfill (a : gX) (more : Int) : Int := (gcr a more a.1.2.1.toNat).2
def gev (a : gX) (s : Int) : Nat → Int
  | 0 => s
  | m + 1 => if zcnt m 31 = a.1.1 % a.1.2.1 then min (gev a s m) (gfill a m) else gev a s m
def vSpread (a : gX) (x1 : Int) : Int := if x1 = 0 then zcnt (gsit a.1) 31 else if x1 = 2 then gev a 100 (if a.1.2.1 = 5 then 32 else 64) else gmxc a a.1.2.1.toNat
theorem gone_sum {n : Nat} {P : Int → Int} {M : Nat} : 0 ≤ gsum (n : Int) P (fun _ => 1) M ∧ gsum (n : Int) P (fun _ => 1) M ≤ n := by
  induction n with
  | zero =>
    have : gsum ((0 : Nat) : Int) P (fun _ => 1) M = 0 := gsum_0 M
    omega
  | succ n ih =>
    rw [gsum_step]
    split <;> omega
theorem gcr_b {a : gX} {more : Int} (wx : WX a) : ∀ m : Nat, m ≤ 6 → (-(12 : Int) ≤ (gcr a more m).1 ∧ (gcr a more m).1 ≤ 8) ∧ (0 ≤ (gcr a more m).2 ∧ (gcr a more m).2 ≤ 12 * m) ∧ gsum a.1.1 a.1.2.2.2.2.2.1 (fun _ => 1) m - 2 * m ≤ (gcr a more m).1 ∧ (gcr a more m).1 ≤ gsum a.1.1 a.1.2.2.2.2.2.1 (fun _ => 1) m
  | 0, _ => by
    show (-(12 : Int) ≤ 0 ∧ (0 : Int) ≤ 8) ∧ ((0 : Int) ≤ 0 ∧ (0 : Int) ≤ 12 * ((0 : Nat) : Int)) ∧ (0 : Int) - 2 * ((0 : Nat) : Int) ≤ 0 ∧ (0 : Int) ≤ 0
    omega
  | m + 1, hm => by
    obtain ⟨i1, i2, i3, i4⟩ := gcr_b (more := more) wx m (by omega)
    have hn : 0 ≤ a.1.1 ∧ a.1.1 ≤ 8 := wx.1.1.1
    have hW : 5 ≤ a.1.2.1 ∧ a.1.2.1 ≤ 6 := wx.1.1.2.1
    have bt := zbit1 (zbit 7 more m)
    have dv : 0 ≤ a.1.1 / a.1.2.1 ∧ a.1.1 / a.1.2.1 ≤ 1 := by
      rcases (show a.1.2.1 = 5 ∨ a.1.2.1 = 6 by omega) with e | e <;> rw [e] <;> omega
    have gs1 := @gone_sum a.1.1.toNat a.1.2.2.2.2.2.1 (m + 1)
    rw [show ((a.1.1.toNat : Nat) : Int) = a.1.1 by omega] at gs1
    have st : gsum a.1.1 a.1.2.2.2.2.2.1 (fun _ => 1) (m + 1) = gsum a.1.1 a.1.2.2.2.2.2.1 (fun _ => 1) m + 1 * cnt a.1.2.2.2.2.2.1 m a.1.1.toNat := rfl
    have s1 : (gcr a more (m + 1)).1 = (gcr a more m).1 + ((cnt a.1.2.2.2.2.2.1 m a.1.1.toNat - a.1.1 / a.1.2.1) - zbit 3 (zbit 7 more m) 1) := rfl
    have s2 : (gcr a more (m + 1)).2 = (gcr a more m).2 + (if 0 ≤ (gcr a more (m + 1)).1 then (gcr a more (m + 1)).1 else -(gcr a more (m + 1)).1) := rfl
    rw [s2]
    have e1 : -(12 : Int) ≤ (gcr a more (m + 1)).1 ∧ (gcr a more (m + 1)).1 ≤ 8 := by rw [s1]; omega
    refine ⟨e1, ?_, by rw [s1]; omega, by rw [s1]; omega⟩
    split <;> omega
theorem gfill_b {a : gX} {more : Int} (wx : WX a) : 0 ≤ gfill a more ∧ gfill a more ≤ 72 := by
  have hW : 5 ≤ a.1.2.1 ∧ a.1.2.1 ≤ 6 := wx.1.1.2.1
  have := (gcr_b (more := more) wx a.1.2.1.toNat (by omega)).2.1
  unfold gfill
  omega
theorem gev_b {a : gX} {s : Int} (wx : WX a) (hs : 0 ≤ s) : ∀ m : Nat, 0 ≤ gev a s m ∧ gev a s m ≤ s
  | 0 => by unfold gev; omega
  | m + 1 => by
    have ih := gev_b wx hs m
    have f := gfill_b (more := m) wx
    unfold gev
    split <;> omega
theorem gev_100 {a : gX} : ∀ m : Nat, gev a 100 m = min 100 (gev a 1000000 m)
  | 0 => by unfold gev; omega
  | m + 1 => by
    have ih := gev_100 (a := a) m
    unfold gev
    rw [ih]
    split <;> omega
theorem gev_le {a : gX} {s : Int} {k : Nat} (wx : WX a) (hk : zcnt k 31 = a.1.1 % a.1.2.1) : ∀ m : Nat, k < m → gev a s m ≤ 72
  | 0, h => by omega
  | m + 1, h => by
    have f := gfill_b (more := m) wx
    by_cases e : k = m
    · subst e
      unfold gev
      rw [if_pos hk]; omega
    · have := gev_le (s := s) wx hk m (by omega)
      unfold gev
      split <;> omega
theorem zcnt_p : ∀ k : Nat, k < 6 → zcnt ((2 ^ k - 1 : Nat) : Int) 31 = k ∧ 2 ^ k - 1 < 32 := by decide +kernel
theorem gev_all {a : gX} (wx : WX a) {m : Nat} (hm : 32 ≤ m) : gev a 1000000 m = gev a 100 m := by
  have hW : 5 ≤ a.1.2.1 ∧ a.1.2.1 ≤ 6 := wx.1.1.2.1
  have hn : 0 ≤ a.1.1 ∧ a.1.1 ≤ 8 := wx.1.1.1
  have r : 0 ≤ a.1.1 % a.1.2.1 ∧ a.1.1 % a.1.2.1 < 6 := by
    rcases (show a.1.2.1 = 5 ∨ a.1.2.1 = 6 by omega) with e | e <;> rw [e] <;> omega
  have p := zcnt_p (a.1.1 % a.1.2.1).toNat (by omega)
  have := gev_le (s := 1000000) (k := 2 ^ (a.1.1 % a.1.2.1).toNat - 1) wx (by rw [p.1]; omega) m (by omega)
  rw [gev_100]; omega
section
variable {d : Nat} {Z Z1 Z2 : zM} {a : gX} {s : gS} {i : Int}
theorem F_144 {x2 : Int} {Q : Int → zM → Prop} (A : CX Z a) (wx : WX a) (hQ : Q (gfill a x2) Z) : TI (d + 1) 144 [.inr 0, .inl (a.1.1 / a.1.2.1), .inl x2] Z Q := by
  have hW : 5 ≤ a.1.2.1 ∧ a.1.2.1 ≤ 6 := wx.1.1.2.1
  have hn : 0 ≤ a.1.1 ∧ a.1.1 ≤ 8 := wx.1.1.1
  have e6 : Z 1 6 = a.1.2.1 := A.1.2.1
  have dv : 0 ≤ a.1.1 / a.1.2.1 ∧ a.1.1 / a.1.2.1 ≤ 1 := by
    rcases (show a.1.2.1 = 5 ∨ a.1.2.1 = 6 by omega) with e | e <;> rw [e] <;> omega
  refine w144_0 ?_
  suffices H : ∀ (f m : Nat) (x5 : Int), x5 = m → f = a.1.2.1.toNat - m → m ≤ a.1.2.1.toNat → TZ (d + 1) 144 8 [some (.inr 0), some (.inl (a.1.1 / a.1.2.1)), some (.inl x2), some (.inl (gcr a x2 m).2), some (.inl (gcr a x2 m).1), some (.inl x5)] [] Z (zri Q) from H _ 0 0 rfl rfl (by omega)
  intro f
  induction f with
  | zero =>
    intro m x5 e y1 y2
    refine w144_8 ⟨by unfold zR; omega, by unfold zR; omega, fun _ => ?_, fun y => absurd (show Z 1 6 ≤ x5 by omega) y⟩
    rw [show m = a.1.2.1.toNat by omega]; exact hQ
  | succ f ih =>
    intro m x5 e y1 y2
    have v := (nowW A (frs.refl SQ Z) (w := x5) (by omega)).2
    have b := gcr_b (more := x2) wx (m + 1) (by omega)
    have s1 : (gcr a x2 (m + 1)).1 = (gcr a x2 m).1 + ((cnt a.1.2.2.2.2.2.1 m a.1.1.toNat - a.1.1 / a.1.2.1) - zbit 3 (zbit 7 x2 m) 1) := rfl
    have s2 : (gcr a x2 (m + 1)).2 = (gcr a x2 m).2 + (if 0 ≤ (gcr a x2 (m + 1)).1 then (gcr a x2 (m + 1)).1 else -(gcr a x2 (m + 1)).1) := rfl
    have ih' := ih (m + 1) (x5 + 1) (by omega) (by omega) (by omega)
    refine w144_8 ⟨by unfold zR; omega, by unfold zR; omega, fun c => by omega, fun y => ⟨by omega, ?_⟩⟩
    rw [v]
    have b1 := b.1
    rw [s1, ← e] at b1
    rw [s2, s1, ← e] at ih'
    exact ⟨by unfold zR; omega, ih'⟩
theorem X_spread {x1 : Int} (A : CX Z a) (wx : WX a) (h1 : zR x1) : TI (d + 5) 142 [.inr 0, .inl x1] Z (PostC Z (oq a (gunk x1 2) (vSpread a x1))) := by
  have hW : 5 ≤ a.1.2.1 ∧ a.1.2.1 ≤ 6 := wx.1.1.2.1
  have hn : 0 ≤ a.1.1 ∧ a.1.1 ≤ 8 := wx.1.1.1
  have e6 : Z 1 6 = a.1.2.1 := A.1.2.1
  have e5 : Z 1 5 = a.1.1 := A.1.1
  refine w142_0 (C_unknown h1 (by decide) ⟨zR9 gb2, fun c => ⟨h1, fun q0 => ⟨h1, fun q2 => ?_, fun q2 => ?_⟩, fun q0 => ?_⟩, fun c => C_refuse (by have := @gb2 x1 2; omega) (PRq A c gb2)⟩)
  · have ok := PQ (v := vSpread a x1) A c (frs.refl SQ Z)
    unfold vSpread at ok ⊢
    rw [if_neg q0, if_neg q2] at ok ⊢
    suffices H : ∀ (f m : Nat) (x4 : Int), x4 = m → f = a.1.2.1.toNat - m → m ≤ a.1.2.1.toNat → zR (gmxc a m) → TZ (d + 5) 142 46 [some (.inr 0), some (.inl x1), some (.inl (gunk x1 2)), some (.inl (gmxc a m)), some (.inl x4)] [] Z (zri (PostC Z (oq a (gunk x1 2) (gmxc a a.1.2.1.toNat)))) from H _ 0 0 rfl rfl (by omega) (by show zR 0; decide)
    intro f
    induction f with
    | zero =>
      intro m x4 e y1 y2 zm
      refine w142_46 ⟨by unfold zR; omega, by unfold zR; omega, fun _ => ?_, fun y => absurd (show Z 1 6 ≤ x4 by omega) y⟩
      rw [show a.1.2.1.toNat = m by omega] at ok ⊢
      exact ok
    | succ f ih =>
      intro m x4 e y1 y2 zm
      have v := (nowW A (frs.refl SQ Z) (w := x4) (by omega)).2
      have cb := cnt_b a.1.2.2.2.2.2.1 x4 a.1.1.toNat
      have st : gmxc a (m + 1) = max (gmxc a m) (cnt a.1.2.2.2.2.2.1 m a.1.1.toNat) := rfl
      rw [← e] at st
      have ih' := ih (m + 1) (x4 + 1) (by omega) (by omega) (by omega) (by rw [st]; unfold zR at *; omega)
      rw [st] at ih'
      refine w142_46 ⟨by unfold zR; omega, by unfold zR; omega, fun c => by omega, fun y => ⟨by omega, zm, ?_⟩⟩
      rw [v]
      exact ⟨by unfold zR; omega, ih'⟩
  · have ok := PQ (v := vSpread a x1) A c (frs.refl SQ Z)
    have p2 : zbit 6 1 a.1.2.1 = ((if a.1.2.1 = 5 then 32 else 64 : Nat) : Int) := by
      rcases (show a.1.2.1 = 5 ∨ a.1.2.1 = 6 by omega) with e | e <;> rw [e] <;> decide
    have pb : 32 ≤ (if a.1.2.1 = 5 then 32 else 64 : Nat) ∧ (if a.1.2.1 = 5 then 32 else 64 : Nat) ≤ 64 := by split <;> omega
    unfold vSpread at ok ⊢
    rw [if_neg q0, if_pos (by omega)] at ok ⊢
    generalize (if a.1.2.1 = 5 then 32 else 64 : Nat) = N at ok p2 pb ⊢
    refine w143_0 ?_
    rw [e6, show max 1 a.1.2.1 = a.1.2.1 by omega]
    refine ⟨by unfold zR; omega, ?_⟩
    have md : Int.tmod a.1.1 a.1.2.1 = a.1.1 % a.1.2.1 := Int.tmod_eq_emod_of_nonneg hn.1
    have dd : Int.tdiv a.1.1 a.1.2.1 = a.1.1 / a.1.2.1 := Int.tdiv_eq_ediv_of_nonneg hn.1
    have r : 0 ≤ a.1.1 % a.1.2.1 ∧ a.1.1 % a.1.2.1 < 6 := by
      rcases (show a.1.2.1 = 5 ∨ a.1.2.1 = 6 by omega) with e | e <;> rw [e] <;> omega
    suffices H : ∀ (f m : Nat) (x3 : Int), x3 = m → f = N - m → m ≤ N → TZ (d + 4) 143 18 [some (.inr 0), some (.inl a.1.2.1), some (.inl (gev a 1000000 m)), some (.inl x3)] [] Z (zri (PostC Z (oq a (gunk x1 2) (gev a 100 N)))) from H _ 0 0 rfl rfl (by omega)
    intro f
    induction f with
    | zero =>
      intro m x3 e y1 y2
      have em : m = N := by omega
      subst em
      refine w143_18 ⟨by unfold zR; omega, by unfold zR; omega, fun _ => ?_, fun y => absurd (show zbit 6 1 a.1.2.1 ≤ x3 by omega) y⟩
      rw [gev_all wx pb.1]; exact ok
    | succ f ih =>
      intro m x3 e y1 y2
      have st : gev a 1000000 (m + 1) = if zcnt m 31 = a.1.1 % a.1.2.1 then min (gev a 1000000 m) (gfill a m) else gev a 1000000 m := rfl
      rw [← e] at st
      have ih' := ih (m + 1) (x3 + 1) (by omega) (by omega) (by omega)
      rw [st] at ih'
      have zb := @zcnt_b x3 31
      have gb := gev_b (s := 1000000) wx (by decide) m
      have fb := gfill_b (more := x3) wx
      refine w143_18 ⟨by unfold zR; omega, by unfold zR; omega, fun c => by omega, fun y => C_bits (by omega) ?_⟩
      rw [e5, md, dd]
      refine ⟨by unfold zR; omega, by omega, by unfold zR; omega, by unfold zR; omega, fun q => ?_, fun q => ⟨by unfold zR; omega, by omega, F_144 A wx ⟨by unfold zR; omega, by unfold zR; omega, ?_⟩⟩⟩
      · rw [if_neg q] at ih'; exact ih'
      · rw [if_pos (by omega)] at ih'; exact ih'
  · have ok := PQ (v := vSpread a x1) A c (frs.refl SQ Z)
    unfold vSpread at ok ⊢
    rw [if_pos (by omega)] at ok ⊢
    have gv := gsit_v wx.1.1
    exact C_satOn (n := a.1.1) (W := a.1.2.1) (h := a.1.2.2.1) (K := a.1.2.2.2.1) (F := a.1.2.2.2.2.1) (P := a.1.2.2.2.2.2.1) (T := a.1.2.2.2.2.2.2) zF1 A.1 wx.1.1 (C_bits (x := gsit a.1) (by omega) ok)
theorem G_258 {x1 : Int} {Q : Int → zM → Prop} (m : QS Z Z1 a) (wx : WX a) (hQ : Q (gfill a x1) Z1) : TI (d + 1) 258 [.inr 100, .inl x1] Z1 Q := by
  have hn : 0 ≤ a.1.1 ∧ a.1.1 ≤ 8 := wx.1.1.1
  have hW : 5 ≤ a.1.2.1 ∧ a.1.2.1 ≤ 6 := wx.1.1.2.1
  have e5 := m.now.1
  have e6 := m.now.2.1
  have dd : Int.tdiv a.1.1 a.1.2.1 = a.1.1 / a.1.2.1 := Int.tdiv_eq_ediv_of_nonneg hn.1
  refine w258_0 ?_
  suffices H : ∀ (f k : Nat) (x4 : Int), x4 = k → f = a.1.2.1.toNat - k → k ≤ a.1.2.1.toNat → TZ (d + 1) 258 7 [some (.inr 100), some (.inl x1), some (.inl (gcr a x1 k).2), some (.inl (gcr a x1 k).1), some (.inl x4)] [] Z1 (zri Q) from H _ 0 0 rfl rfl (by omega)
  intro f
  induction f with
  | zero =>
    intro k x4 e y1 y2
    refine w258_7 ⟨by unfold zR; omega, by unfold zR; omega, fun _ => ?_, fun c => absurd (show Z1 100 6 ≤ x4 by omega) c⟩
    rw [show k = a.1.2.1.toNat by omega]; exact hQ
  | succ f ih =>
    intro k x4 e y1 y2
    have b := gcr_b (more := x1) wx (k + 1) (by omega)
    have s1 : (gcr a x1 (k + 1)).1 = (gcr a x1 k).1 + ((cnt a.1.2.2.2.2.2.1 k a.1.1.toNat - a.1.1 / a.1.2.1) - zbit 3 (zbit 7 x1 k) 1) := rfl
    have s2 : (gcr a x1 (k + 1)).2 = (gcr a x1 k).2 + (if 0 ≤ (gcr a x1 (k + 1)).1 then (gcr a x1 (k + 1)).1 else -(gcr a x1 (k + 1)).1) := rfl
    have ih' := ih (k + 1) (x4 + 1) (by omega) (by omega) (by omega)
    have b1 := b.1
    rw [s1, ← e] at b1
    rw [s2, s1, ← e] at ih'
    refine w258_7 ⟨by unfold zR; omega, by unfold zR; omega, fun c => by omega, fun _ => R_many (n := a.1.1) (W := a.1.2.1) (h := a.1.2.2.1) (K := a.1.2.2.2.1) (F := a.1.2.2.2.2.1) (P := a.1.2.2.2.2.2.1) (T := a.1.2.2.2.2.2.2) m.1.1 (WF.pb wx.1.1) (by unfold zR; omega) ?_⟩
    rw [e5, e6, dd]
    refine ⟨by unfold zR; omega, by omega, by unfold zR; omega, fun q => ?_, fun q => ?_⟩
    · rw [if_pos q] at ih'; exact ih'
    · rw [if_neg q] at ih'; exact ih'
theorem Y_spread {x1 : Int} (A : RX Z a) (wx : WX a) (h1 : zR x1) : TI (d + 3) 260 [.inr 100, .inl x1] Z (PostR Z (oq a (gunk x1 2) (vSpread a x1))) := by
  have m := QS.refl A
  have hn : 0 ≤ a.1.1 ∧ a.1.1 ≤ 8 := wx.1.1.1
  have hW : 5 ≤ a.1.2.1 ∧ a.1.2.1 ≤ 6 := wx.1.1.2.1
  have e5 := m.now.1
  have e6 := m.now.2.1
  refine w260_0 (R_isIn h1 (by decide) (by decide) (fun i => ⟨by decide, fun _ => ⟨h1, fun q0 => ⟨h1, fun q2 => ?_, fun q2 => ?_⟩, fun q0 => R_chord m.1.1 wx.1.1 (R_bits ?_)⟩, fun e => absurd (show (1 : Int) ≠ 0 by decide) e⟩) (fun i => ⟨by decide, fun e => absurd rfl e, fun _ => G_no m wx (gu2 i) (by decide)⟩))
  · have ok := G_ok (v := vSpread a x1) m (gunk_0.mpr i)
    unfold vSpread at ok ⊢
    rw [if_neg q0, if_neg q2] at ok ⊢
    have mb : ∀ k : Nat, k ≤ 6 → 0 ≤ gmxc a k ∧ gmxc a k ≤ 8 := fun k => by
      induction k with
      | zero => intro _; show (0 : Int) ≤ 0 ∧ (0 : Int) ≤ 8; decide
      | succ k ih =>
        intro hk
        have := ih (by omega)
        have cb := cnt_b a.1.2.2.2.2.2.1 k a.1.1.toNat
        show 0 ≤ max (gmxc a k) (cnt a.1.2.2.2.2.2.1 k a.1.1.toNat) ∧ max (gmxc a k) (cnt a.1.2.2.2.2.2.1 k a.1.1.toNat) ≤ 8
        omega
    suffices H : ∀ (f k : Nat) (x3 : Int), x3 = k → f = a.1.2.1.toNat - k → k ≤ a.1.2.1.toNat → TZ (d + 3) 260 42 [some (.inr 100), some (.inl x1), some (.inl (gmxc a k)), some (.inl x3)] [] Z (zri (PostR Z (oq a (gunk x1 2) (gmxc a a.1.2.1.toNat)))) from H _ 0 0 rfl rfl (by omega)
    intro f
    induction f with
    | zero =>
      intro k x3 e y1 y2
      refine w260_42 ⟨by unfold zR; omega, by unfold zR; omega, fun _ => ?_, fun c => absurd (show Z 100 6 ≤ x3 by omega) c⟩
      rw [show a.1.2.1.toNat = k by omega] at ok ⊢
      exact ok
    | succ f ih =>
      intro k x3 e y1 y2
      have b := mb k (by omega)
      have cb := cnt_b a.1.2.2.2.2.2.1 x3 a.1.1.toNat
      have st : gmxc a (k + 1) = max (gmxc a k) (cnt a.1.2.2.2.2.2.1 k a.1.1.toNat) := rfl
      rw [← e] at st
      have ih' := ih (k + 1) (x3 + 1) (by omega) (by omega) (by omega)
      rw [st] at ih'
      have many : ∀ {Q : Int → zM → Prop}, Q (cnt a.1.2.2.2.2.2.1 x3 a.1.1.toNat) Z → TI (d + 2) 159 [.inr 100, .inl x3] Z Q := fun hQ => R_many (n := a.1.1) (W := a.1.2.1) (h := a.1.2.2.1) (K := a.1.2.2.2.1) (F := a.1.2.2.2.2.1) (P := a.1.2.2.2.2.2.1) (T := a.1.2.2.2.2.2.2) m.1.1 (WF.pb wx.1.1) (by unfold zR; omega) hQ
      refine w260_42 ⟨by unfold zR; omega, by unfold zR; omega, fun c => by omega, fun _ => many ⟨by unfold zR; omega, by unfold zR; omega, fun q => ?_, fun q => many ?_⟩⟩
      · rw [Int.max_eq_left q] at ih'; exact ih'
      · rw [Int.max_eq_right (by omega)] at ih'; exact ih'
  · have ok := G_ok (v := vSpread a x1) m (gunk_0.mpr i)
    have p2 : zbit 6 1 a.1.2.1 = ((if a.1.2.1 = 5 then 32 else 64 : Nat) : Int) := by
      rcases (show a.1.2.1 = 5 ∨ a.1.2.1 = 6 by omega) with e | e <;> rw [e] <;> decide
    have pb : 32 ≤ (if a.1.2.1 = 5 then 32 else 64 : Nat) ∧ (if a.1.2.1 = 5 then 32 else 64 : Nat) ≤ 64 := by split <;> omega
    unfold vSpread at ok ⊢
    rw [if_neg q0, if_pos (by omega)] at ok ⊢
    generalize (if a.1.2.1 = 5 then 32 else 64 : Nat) = N at ok p2 pb ⊢
    have md : Int.tmod a.1.1 a.1.2.1 = a.1.1 % a.1.2.1 := Int.tmod_eq_emod_of_nonneg hn.1
    have r : 0 ≤ a.1.1 % a.1.2.1 ∧ a.1.1 % a.1.2.1 < 6 := by
      rcases (show a.1.2.1 = 5 ∨ a.1.2.1 = 6 by omega) with e | e <;> rw [e] <;> omega
    refine w259_0 ?_
    suffices H : ∀ (f k : Nat) (x2 : Int), x2 = k → f = N - k → k ≤ N → TZ (d + 2) 259 5 [some (.inr 100), some (.inl (gev a 100 k)), some (.inl x2)] [] Z (zri (PostR Z (oq a (gunk x1 2) (gev a 100 N)))) from H _ 0 0 rfl rfl (by omega)
    intro f
    induction f with
    | zero =>
      intro k x2 e y1 y2
      have em : k = N := by omega
      subst em
      refine w259_5 ?_
      rw [e6, p2]
      exact ⟨by unfold zR; omega, by unfold zR; omega, fun _ => ok, fun c => absurd (show (k : Int) ≤ x2 by omega) c⟩
    | succ f ih =>
      intro k x2 e y1 y2
      have st : gev a 100 (k + 1) = if zcnt k 31 = a.1.1 % a.1.2.1 then min (gev a 100 k) (gfill a k) else gev a 100 k := rfl
      rw [← e] at st
      have ih' := ih (k + 1) (x2 + 1) (by omega) (by omega) (by omega)
      rw [st] at ih'
      have zb := @zcnt_b x2 31
      have gb := gev_b (s := 100) wx (by decide) k
      have fb := gfill_b (more := x2) wx
      refine w259_5 ?_
      rw [e6, p2]
      refine ⟨by unfold zR; omega, by unfold zR; omega, fun c => by omega, fun _ => R_bits ?_⟩
      rw [e5, e6, md]
      refine ⟨by unfold zR; omega, by omega, by unfold zR; omega, by unfold zR; omega, fun q => ?_, fun q => G_258 m wx (R_lesser (by unfold zR; omega) (by unfold zR; omega) ?_)⟩
      · rw [if_neg q] at ih'; exact ih'
      · rw [if_pos (by omega)] at ih'; exact ih'
  · have ok := G_ok (v := vSpread a x1) m (gunk_0.mpr i)
    unfold vSpread at ok ⊢
    rw [if_pos (by omega)] at ok ⊢; exact ok
end
