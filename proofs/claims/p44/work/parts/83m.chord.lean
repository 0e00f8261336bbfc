/-! LOOKS with their very answers: chords -/
theorem cnt_pos {P : Int → Int} {w : Int} : ∀ m : Nat, 0 < cnt P w m ↔ ∃ b : Int, 0 ≤ b ∧ b < m ∧ P b = w
  | 0 => by
    unfold cnt
    exact ⟨fun h => by omega, fun ⟨b, h1, h2, _⟩ => by omega⟩
  | m + 1 => by
    have ih := cnt_pos (P := P) (w := w) m
    have cb := cnt_b P w m
    unfold cnt
    by_cases c : P (m : Int) = w
    · rw [if_pos c]
      exact ⟨fun _ => ⟨m, by omega, by omega, c⟩, fun _ => by omega⟩
    · rw [if_neg c, Int.add_zero, ih]
      constructor
      · rintro ⟨b, h1, h2, h3⟩; exact ⟨b, h1, by omega, h3⟩
      · rintro ⟨b, h1, h2, h3⟩
        by_cases e : b = m
        · rw [e] at h3; exact absurd h3 c
        · exact ⟨b, h1, by omega, h3⟩
theorem gchord_b {n : Int} {P : Int → Int} {i : Nat} : ∀ m : Nat, m ≤ 31 → zb (gchord n P m) i = (decide (i < m) && decide (0 < cnt P i n.toNat))
  | 0, _ => by unfold gchord; rw [zb_0, decide_eq_false (by omega)]; rfl
  | m + 1, hm => by
    have ih := gchord_b (n := n) (P := P) (i := i) m (by omega)
    unfold gchord
    by_cases e : i = m
    · subst e
      rw [decide_eq_false (show ¬ i < i by omega)] at ih
      rw [decide_eq_true (show i < i + 1 by omega)]
      split
      · next c => rw [ih, decide_eq_false (by omega)]; rfl
      · next c => rw [zb_or, ih, zb_one (by omega), decide_eq_true (show (i : Int) = i from rfl), decide_eq_true (by omega)]; rfl
    · have e2 : decide (i < m + 1) = decide (i < m) := decide_eq_decide.mpr (by omega)
      rw [e2]
      split
      · exact ih
      · rw [zb_or, ih, zb_one (by omega), decide_eq_false (show ¬ (i : Int) = m by omega), Bool.or_false]
def gsit (s : gS) : Int := gchord s.1 s.2.2.2.2.2.1 s.2.1.toNat
theorem gsit_r {s : gS} : zR (gsit s) := gchord_r _
theorem gsit_b {s : gS} (wf : WFs s) (i : Nat) : zb (gsit s) i = true ↔ ∃ b : Int, 0 ≤ b ∧ b < s.1 ∧ s.2.2.2.2.2.1 b = i := by
  have hn : 0 ≤ s.1 ∧ s.1 ≤ 8 := wf.1
  have hW : 5 ≤ s.2.1 ∧ s.2.1 ≤ 6 := wf.2.1
  unfold gsit
  rw [gchord_b _ (by omega), Bool.and_eq_true, decide_eq_true_eq, decide_eq_true_eq, cnt_pos]
  constructor
  · rintro ⟨h1, b, h2, h3, h4⟩; exact ⟨b, h2, by omega, h4⟩
  · rintro ⟨b, h2, h3, h4⟩
    have := (wf.2.2.2.1 b h2 h3).2.2
    exact ⟨by omega, b, h2, by omega, h4⟩
theorem gsit_v {s : gS} (wf : WFs s) : 0 ≤ gsit s ∧ gsit s < 64 := by
  have b := zb_bound (n := 6) (by decide) (gsit_r (s := s)) (fun i hi => by
    cases c : zb (gsit s) i
    · rfl
    · obtain ⟨b, h1, h2, h3⟩ := (gsit_b wf i).mp c
      have := (wf.2.2.2.1 b h1 h2).2.2
      have hW := wf.2.1
      omega)
  have b2 : (gsit s).toNat < 64 := b.2
  omega
section
variable {d : Nat} {Z Z1 Z2 : zM} {a : gX} {s : gS} {i : Int}
theorem F_chord {Q : Int → zM → Prop} (m : MF Z Z1 s) (wf : WFs s) (hQ : Q (gsit s) Z1) : TI d 24 [.inr 19] Z1 Q :=
  C_satOn (n := s.1) (W := s.2.1) (h := s.2.2.1) (K := s.2.2.2.1) (F := s.2.2.2.2.1) (P := s.2.2.2.2.2.1) (T := s.2.2.2.2.2.2) zF19 m.2 wf hQ
theorem R_chord {Q : Int → zM → Prop} (m : RFs Z1 s) (wf : WFs s) (hQ : Q (gsit s) Z1) : TI d 216 [.inr 100] Z1 Q := by
  have hn : 0 ≤ s.1 ∧ s.1 ≤ 8 := wf.1
  have hW : 5 ≤ s.2.1 ∧ s.2.1 ≤ 6 := wf.2.1
  have e5 : Z1 100 5 = s.1 := m.1
  refine w216_0 ?_
  suffices H : ∀ (f : Nat) (x1 x2 : Int), f = (s.1 - x2).toNat → 0 ≤ x2 → x2 ≤ s.1 → zR x1 → (∀ i : Nat, zb x1 i = true ↔ ∃ b : Int, 0 ≤ b ∧ b < x2 ∧ s.2.2.2.2.2.1 b = i) → TZ d 216 4 [some (.inr 100), some (.inl x1), some (.inl x2)] [] Z1 (zri Q) from H _ 0 0 rfl (by decide) hn.1 (by decide) (fun i => by
    rw [zb_0]
    exact ⟨fun h => absurd h (by decide), fun ⟨b, h1, h2, _⟩ => by omega⟩)
  intro f
  induction f with
  | zero =>
    intro x1 x2 ef y1 y2 z1 hb
    refine w216_4 ⟨by unfold zR; omega, by unfold zR; omega, fun _ => ?_, fun c => absurd (show Z1 100 5 ≤ x2 by omega) c⟩
    have e : x1 = gsit s := zb_ext z1 gsit_r fun i _ => by
      have h1 := hb i
      have h2 := gsit_b wf i
      rw [show x2 = s.1 by omega, ← h2] at h1
      cases c1 : zb x1 i <;> cases c2 : zb (gsit s) i <;> first | rfl | (rw [c1, c2] at h1; exact absurd (h1.mpr rfl) (by decide)) | (rw [c1, c2] at h1; exact absurd (h1.mp rfl) (by decide))
    rw [e]; exact hQ
  | succ f ih =>
    intro x1 x2 ef y1 y2 z1 hb
    have e3 : Z1 105 x2 = s.2.2.2.2.2.1 x2 := (m.2.2.2.1 x2 y1 (by omega)).2.2
    have b3 := (wf.2.2.2.1 x2 y1 (by omega)).2.2
    refine w216_4 ⟨by unfold zR; omega, by unfold zR; omega, fun c => by omega, fun _ => ⟨by omega, by rw [e3]; unfold zR; omega, fun _ => ⟨by omega, ih _ _ (by omega) (by omega) (by omega) (zbit_r _ _ _) fun i => ?_⟩, fun c => by omega⟩⟩
    rw [e3, zb_or, Bool.or_eq_true, hb i, zb_one (by omega), decide_eq_true_eq]
    constructor
    · rintro (⟨b, h1, h2, h3⟩ | h)
      · exact ⟨b, h1, by omega, h3⟩
      · exact ⟨x2, y1, by omega, h.symm⟩
    · rintro ⟨b, h1, h2, h3⟩
      by_cases e : b = x2
      · rw [e] at h3; exact Or.inr h3.symm
      · exact Or.inl ⟨b, h1, by omega, h3⟩
theorem G_chord {Q : Int → zM → Prop} (m : QE Z Z1 a s) (wf : WFs s) (hQ : Q (gsit s) Z1) : TI d 216 [.inr 100] Z1 Q := R_chord m.1.1 wf hQ
end
