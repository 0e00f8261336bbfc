/-! THE FIRST WORLD as a picture -/
def zZ0 : zM := fun q p => (mM0 q p.toNat).toInt
theorem zZ0_m : zm zZ0 = mM0 := by
  funext q p
  show Int32.ofInt ((mM0 q (p : Int).toNat).toInt) = mM0 q p
  rw [zio]
  rfl
def zBeg : Bool := (mM0 1 5).toInt == 0 && (mM0 1 6).toInt == 5 && (mM0 1 7).toInt == 0 && (mM0 100 5).toInt == 0 && (mM0 100 6).toInt == 5 && (mM0 100 7).toInt == 0 &&
  (List.range 6).all (fun w => (mM0 6 w).toInt == (mM0 102 w).toInt && decide (0 ≤ (mM0 6 w).toInt) && decide ((mM0 6 w).toInt ≤ 11) && (mM0 5 w).toInt == 0) &&
  ((mM0 26 3).toInt == 0 && decide (0 ≤ (mM0 26 2).toInt) && decide ((mM0 26 2).toInt < 8) && (mM0 0 17).toInt == 0 && (mM0 37 1).toInt == 0 && (mM0 39 3).toInt == 0) &&
  ((mM0 100 12).toInt == 0 && (mM0 100 16).toInt == 0 && (mM0 100 19).toInt == 0 && (mM0 100 26).toInt == 0) &&
  (List.range 7).all (fun j => (mM0 43 j).toInt == (mM0 101 j).toInt)
set_option maxRecDepth 100000 in
theorem zBeg_ok : zBeg = true := by decide +kernel
theorem zBeg_all : ((zZ0 1 5 = 0 ∧ zZ0 1 6 = 5 ∧ zZ0 1 7 = 0) ∧ (zZ0 100 5 = 0 ∧ zZ0 100 6 = 5 ∧ zZ0 100 7 = 0)) ∧ (∀ w, 0 ≤ w → w < 6 → zZ0 6 w = zZ0 102 w ∧ (0 ≤ zZ0 6 w ∧ zZ0 6 w ≤ 11) ∧ zZ0 5 w = 0) ∧ (zZ0 26 3 = 0 ∧ (0 ≤ zZ0 26 2 ∧ zZ0 26 2 < 8) ∧ zZ0 0 17 = 0 ∧ zZ0 37 1 = 0 ∧ zZ0 39 3 = 0) ∧ (zZ0 100 12 = 0 ∧ zZ0 100 16 = 0 ∧ zZ0 100 19 = 0 ∧ zZ0 100 26 = 0) ∧ (∀ j, 0 ≤ j → j ≤ 6 → zZ0 43 j = zZ0 101 j) := by
  have h := zBeg_ok
  unfold zBeg at h
  simp only [Bool.and_eq_true, beq_iff_eq, decide_eq_true_eq, List.all_eq_true, List.mem_range] at h
  obtain ⟨⟨⟨⟨⟨⟨⟨⟨⟨h1, h2⟩, h3⟩, h4⟩, h5⟩, h6⟩, h7⟩, h8⟩, h9⟩, h10⟩ := h
  obtain ⟨⟨⟨⟨⟨g1, g2⟩, g3⟩, g4⟩, g5⟩, g6⟩ := h8
  obtain ⟨⟨⟨f1, f2⟩, f3⟩, f4⟩ := h9
  refine ⟨⟨⟨h1, h2, h3⟩, h4, h5, h6⟩, fun w w1 w2 => ?_, ⟨g1, ⟨g2, g3⟩, g4, g5, g6⟩, ⟨f1, f2, f3, f4⟩, fun j j1 j2 => h10 j.toNat (by omega)⟩
  obtain ⟨⟨⟨q1, q2⟩, q3⟩, q4⟩ := h7 w.toNat (by omega)
  exact ⟨q1, ⟨q2, q3⟩, q4⟩
def aB (T R : Int → Int) : gX := ((0, 5, 0, fun _ => 0, fun _ => 0, fun _ => 0, T), (0, fun _ _ => 0, fun _ => 0), (0, (0, 5, 0, fun _ => 0, fun _ => 0, fun _ => 0, fun _ => 0)), (0, fun _ => 0), (0, fun _ => 0), R)
theorem no0 {b : Int} {p : Prop} (h1 : 0 ≤ b) (h2 : b < 0) : p := absurd h1 (by omega)
section
variable {Z : zM} {T R : Int → Int}
theorem aB_c (h1 : Z 1 5 = 0) (h2 : Z 1 6 = 5) (h3 : Z 1 7 = 0) (hT : ∀ w, 0 ≤ w → w < 6 → Z 6 w = T w ∧ Z 5 w = 0) (g1 : Z 26 3 = 0) (g2 : 0 ≤ Z 26 2 ∧ Z 26 2 < 8) (g4 : Z 0 17 = 0) (g5 : Z 37 1 = 0) (g6 : Z 39 3 = 0) (hR : ∀ j, 1 ≤ j → j ≤ 6 → Z 43 j = R j) : CX Z (aB T R) :=
  ⟨⟨h1, h2, h3, fun _ b1 b2 => no0 b1 b2, fun w w1 w2 => hT w w1 w2⟩, ⟨g1, (show (0 : Int) ≤ 0 ∧ (0 : Int) ≤ 8 by decide), g2, fun _ j1 j2 => no0 j1 j2⟩, ⟨g4, Or.inl rfl, fun e => absurd (show (0 : Int) = 1 from e) (by decide)⟩, ⟨g5, (show (0 : Int) ≤ 0 ∧ (0 : Int) ≤ 96 by decide), fun _ j1 j2 => no0 j1 j2⟩, ⟨g6, (show (0 : Int) ≤ 0 ∧ (0 : Int) ≤ 12 by decide), fun _ j1 j2 => no0 j1 j2⟩, hR⟩
theorem aB_r (h1 : Z 100 5 = 0) (h2 : Z 100 6 = 5) (h3 : Z 100 7 = 0) (hT : ∀ w, 0 ≤ w → w < 6 → Z 102 w = T w) (f1 : Z 100 12 = 0) (f2 : Z 100 16 = 0) (f3 : Z 100 19 = 0) (f4 : Z 100 26 = 0) (hR : ∀ j, 1 ≤ j → j ≤ 6 → Z 101 j = R j) : RX Z (aB T R) :=
  ⟨⟨h1, h2, h3, fun _ b1 b2 => no0 b1 b2, hT⟩, ⟨f3, (show (0 : Int) ≤ 0 ∧ (0 : Int) ≤ 8 by decide), fun _ j1 j2 => no0 j1 j2⟩, ⟨f2, Or.inl rfl, fun e => absurd (show (0 : Int) = 1 from e) (by decide)⟩, ⟨f1, (show (0 : Int) ≤ 0 ∧ (0 : Int) ≤ 96 by decide), fun _ j1 j2 => no0 j1 j2⟩, ⟨f4, (show (0 : Int) ≤ 0 ∧ (0 : Int) ≤ 12 by decide), fun _ j1 j2 => no0 j1 j2⟩, hR⟩
theorem aB_o (hT : ∀ w, 0 ≤ w → w < 6 → 0 ≤ T w ∧ T w ≤ 11) : OKX (aB T R) :=
  ⟨⟨⟨⟨(show (0 : Int) ≤ 0 ∧ (0 : Int) ≤ 8 by decide), (show (5 : Int) ≤ 5 ∧ (5 : Int) ≤ 6 by decide), (show (0 : Int) ≤ 0 ∧ (0 : Int) ≤ 1000000 by decide), fun _ b1 b2 => no0 b1 b2, hT⟩, (show (0 : Int) ≤ 999 by decide)⟩, fun _ j1 j2 => no0 j1 j2, fun e => absurd (show (0 : Int) = 1 from e) (by decide)⟩, ⟨fun w _ => (show (0 : Int) ≤ 4 by decide), fun _ j1 j2 => no0 j1 j2, fun e => absurd (show (0 : Int) = 1 from e) (by decide)⟩⟩
end
def a0 : gX := aB (zZ0 6) (zZ0 43)
theorem a0_all : CX zZ0 a0 ∧ RX zZ0 a0 ∧ OKX a0 := by
  obtain ⟨⟨⟨h1, h2, h3⟩, k1, k2, k3⟩, hw, ⟨g1, g2, g4, g5, g6⟩, ⟨f1, f2, f3, f4⟩, hr⟩ := zBeg_all
  exact ⟨aB_c h1 h2 h3 (fun w w1 w2 => ⟨rfl, (hw w w1 w2).2.2⟩) g1 g2 g4 g5 g6 (fun _ _ _ => rfl), aB_r k1 k2 k3 (fun w w1 w2 => (hw w w1 w2).1.symm) f1 f2 f3 f4 (fun j j1 j2 => (hr j (by omega) j2).symm), aB_o fun w w1 w2 => (hw w w1 w2).2.1⟩
