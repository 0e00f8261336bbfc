/-! LOOKS with their very answers, seventh part: three hours in a row -/
theorem zor0 {x y : Int} (hx : zR x) (hy : zR y) : zbit 4 x y = 0 ↔ x = 0 ∧ y = 0 := by
  have e : zbit 4 x y = (Int32.ofInt x ||| Int32.ofInt y).toInt := rfl
  have ex := zoi hx
  have ey := zoi hy
  constructor
  · intro h
    rw [e] at h
    have h1 : (Int32.ofInt x ||| Int32.ofInt y) = 0 := by
      rw [← zio (Int32.ofInt x ||| Int32.ofInt y), h]; rfl
    have h2 : (Int32.ofInt x).toBitVec ||| (Int32.ofInt y).toBitVec = 0#32 := congrArg Int32.toBitVec h1
    have hb : ∀ i : Nat, (Int32.ofInt x).toBitVec.getLsbD i = false ∧ (Int32.ofInt y).toBitVec.getLsbD i = false := by
      intro i
      have := congrArg (fun b => BitVec.getLsbD b i) h2
      simpa [BitVec.getLsbD_or] using this
    have zx : (Int32.ofInt x).toBitVec = 0#32 := BitVec.eq_of_getLsbD_eq fun i _ => by rw [(hb i).1]; simp
    have zy : (Int32.ofInt y).toBitVec = 0#32 := BitVec.eq_of_getLsbD_eq fun i _ => by rw [(hb i).2]; simp
    have tx : (Int32.ofInt x).toInt = 0 := by show (Int32.ofInt x).toBitVec.toInt = 0; rw [zx]; rfl
    have ty : (Int32.ofInt y).toInt = 0 := by show (Int32.ofInt y).toBitVec.toInt = 0; rw [zy]; rfl
    exact ⟨by omega, by omega⟩
  · rintro ⟨rfl, rfl⟩
    decide
theorem gone_r {s : gS} : zR (gone s) := gP2_r _
def gst (a : gX) : Nat → Int → Int
  | 0, _ => -9
  | f + 1, i => if gone (gh a i) = 0 ∧ gone (gh a (i + 1)) = 0 ∧ gone (gh a (i + 2)) = 0 then i else gst a f (i + 1)
theorem gst_s {a : gX} {i : Int} (h : i < 41) : gst a (41 - i).toNat i = if gone (gh a i) = 0 ∧ gone (gh a (i + 1)) = 0 ∧ gone (gh a (i + 2)) = 0 then i else gst a (41 - (i + 1)).toNat (i + 1) := by
  rw [show (41 - i).toNat = (41 - (i + 1)).toNat + 1 by omega]
  rfl
theorem gst_e {a : gX} {i : Int} (h : 41 ≤ i) : gst a (41 - i).toNat i = -9 := by
  rw [show (41 - i).toNat = 0 by omega]
  rfl
section
variable {d : Nat} {Z Z1 Z2 : zM} {a : gX} {s : gS} {i : Int}
theorem Y_settled (A : RX Z a) (wx : WX a) : TI (d + 5) 252 [.inr 100] Z (PostR Z (oq a 0 (gst a 41 0))) := by
  refine w252_0 (G_205 (QS.refl A) wx (by decide) fun Z2 l hf _ => ?_)
  suffices H : ∀ (f : Nat) (x1 : Int), 41 - x1 < f → 0 ≤ x1 → x1 ≤ 41 → gst a (41 - x1).toNat x1 = gst a 41 0 → TZ (d + 5) 252 8 [some (.inr 100), some (.inl x1)] [] Z2 (zri (PostR Z (oq a 0 (gst a 41 0)))) from H 42 0 (by decide) (by decide) (by decide) rfl
  intro f
  induction f with
  | zero => intro x1 y1 y2 y3 hv; omega
  | succ f ih =>
    intro x1 y1 y2 y3 hv
    refine w252_8 ⟨by unfold zR; omega, fun c => ?_, fun c => ?_⟩
    · rw [gst_e c] at hv; rw [← hv]; exact G_ok l rfl
    · have v0 := (hf x1 y2 (by omega)).2.2
      have v1 := (hf (x1 + 1) (by omega) (by omega)).2.2
      have v2 := (hf (x1 + 2) (by omega) (by omega)).2.2
      rw [v0, v1, v2]
      rw [gst_s (by omega)] at hv
      have o := zor0 (zbit_r 4 (gone (gh a x1)) (gone (gh a (x1 + 1)))) (gone_r (s := gh a (x1 + 2)))
      have o2 := zor0 (gone_r (s := gh a x1)) (gone_r (s := gh a (x1 + 1)))
      refine ⟨by omega, by omega, by omega, zbit_r _ _ _, fun q => ih _ (by omega) (by omega) (by omega) ?_, fun q => ?_⟩
      · rw [if_neg (fun t => q (o.mpr ⟨o2.mpr ⟨t.1, t.2.1⟩, t.2.2⟩))] at hv; exact hv
      · have q : zbit 4 (zbit 4 (gone (gh a x1)) (gone (gh a (x1 + 1)))) (gone (gh a (x1 + 2))) = 0 := by
          by_cases q2 : zbit 4 (zbit 4 (gone (gh a x1)) (gone (gh a (x1 + 1)))) (gone (gh a (x1 + 2))) = 0
          · exact q2
          · exact absurd q2 q
        have t := o.mp q
        have t2 := o2.mp t.1
        rw [if_pos ⟨t2.1, t2.2, t.2⟩] at hv
        rw [← hv]; exact G_ok l rfl
theorem X_settled (A : CX Z a) (wx : WX a) : TI (d + 5) 106 [.inr 0] Z (PostC Z (oq a 0 (gst a 41 0))) := by
  refine w106_0 (F_think A wx (frs.refl _ _) fun Z' m _ => ⟨rfl, ?_⟩)
  -- i hours are done, the last x2 of them were quiet, no three before
  have := F_upto (n := 43) (by decide) (P := fun i Z1 => ∀ x2, (0 ≤ x2 ∧ x2 ≤ 2 ∧ x2 ≤ i) → (∀ j, i - x2 ≤ j → j < i → gone (gh a j) = 0) → gst a (41 - (i - x2)).toNat (i - x2) = gst a 41 0 → TZ (d + 5) 106 9 [some (.inr 0), some (.inr 19), some (.inl x2), some (.inl (i + 1))] [] Z1 (zri (PostC Z (oq a 0 (gst a 41 0))))) (fun Z1 m1 x2 b hz hv => ?_) (fun i Z1 i1 i2 m1 ih x2 b hz hv => ?_) Z' m
  · exact this 0 (by decide) (fun j h1 h2 => by omega) rfl
  · refine w106_9 ⟨by unfold zR; omega, fun _ => ?_, fun q => absurd (show (43 : Int) < 43 + 1 by decide) q⟩
    rw [gst_e (by omega)] at hv
    rw [← hv]; exact PQ A rfl m1.1
  · refine w106_9 ⟨by unfold zR; omega, fun q => absurd q (by omega), fun _ => F_pass m1 wx (by omega) fun Z2 m2 _ => ⟨gone_r, fun q => ih Z2 m2 0 (by omega) (fun j h1 h2 => by omega) ?_, fun q => ?_⟩⟩
    · -- hour i was not quiet: no three begin at i - x2 .. i
      rw [Int.sub_zero, ← hv]
      have no : ∀ j, i - 2 ≤ j → j ≤ i → i - x2 ≤ j → gst a (41 - j).toNat j = gst a (41 - (j + 1)).toNat (j + 1) := by
        intro j h1 h2 h3
        by_cases c : j < 41
        · rw [gst_s c, if_neg]
          rintro ⟨t0, t1, t2⟩
          rcases (show j = i ∨ j + 1 = i ∨ j + 2 = i by omega) with e | e | e
          · rw [e] at t0; exact q t0
          · rw [e] at t1; exact q t1
          · rw [e] at t2; exact q t2
        · rw [gst_e (by omega), gst_e (by omega)]
      rcases (show x2 = 0 ∨ x2 = 1 ∨ x2 = 2 by omega) with e | e | e
      · subst e; rw [Int.sub_zero, no i (by omega) (by omega) (by omega)]
      · subst e
        rw [no (i - 1) (by omega) (by omega) (by omega), show i - 1 + 1 = i by omega, no i (by omega) (by omega) (by omega)]
      · subst e
        rw [no (i - 2) (by omega) (by omega) (by omega), show i - 2 + 1 = i - 1 by omega, no (i - 1) (by omega) (by omega) (by omega), show i - 1 + 1 = i by omega, no i (by omega) (by omega) (by omega)]
    · have q : gone (gh a i) = 0 := by
        by_cases q2 : gone (gh a i) = 0
        · exact q2
        · exact absurd q2 q
      have hz2 : ∀ j, i - x2 ≤ j → j < i + 1 → gone (gh a j) = 0 := fun j h1 h2 => by
        by_cases e : j = i
        · rw [e]; exact q
        · exact hz j h1 (by omega)
      refine ⟨by unfold zR; omega, fun c3 => ?_, fun c3 => ?_⟩
      · have := ih Z2 m2 (x2 + 1) (by omega) (fun j h1 h2 => hz2 j (by omega) h2) (by rw [show i + 1 - (x2 + 1) = i - x2 by omega]; exact hv)
        exact this
      · have e : x2 = 2 := by omega
        subst e
        rw [gst_s (by omega), if_pos ⟨hz2 _ (by omega) (by omega), hz2 _ (by omega) (by omega), hz2 _ (by omega) (by omega)⟩] at hv
        rw [show i + 1 - 3 = i - 2 by omega, hv]
        exact PQ A rfl m2.1
end
