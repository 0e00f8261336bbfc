/-! INTERVALS of ints -/
abbrev aIv : Type := Int × Int
def aTop : aIv := (-2147483648, 2147483647)
def aNorm (lo hi : Int) : aIv := if -2147483648 ≤ lo ∧ hi ≤ 2147483647 then (lo, hi) else aTop
def aIn (x : Int32) (v : aIv) : Prop := v.1 ≤ x.toInt ∧ x.toInt ≤ v.2
theorem aIn_top (x : Int32) : aIn x aTop := by
  have h1 := x.toInt_lt
  have h2 := x.le_toInt
  refine ⟨?_, ?_⟩
  · show (-2147483648 : Int) ≤ _; omega
  · show _ ≤ (2147483647 : Int); omega
theorem abmod {n : Int} (h1 : -2147483648 ≤ n) (h2 : n ≤ 2147483647) : n.bmod (2 ^ 32) = n := Int.bmod_eq_of_le (by omega) (by omega)
theorem aNorm_ok {z : Int32} {n lo hi : Int} (hz : z.toInt = n.bmod (2 ^ 32)) (h1 : lo ≤ n) (h2 : n ≤ hi) : aIn z (aNorm lo hi) := by
  unfold aNorm
  split
  · next h =>
    rw [abmod (by omega) (by omega)] at hz
    exact ⟨by show lo ≤ _; omega, by show _ ≤ hi; omega⟩
  · exact aIn_top z
def aBin (op : Nat) (x y : aIv) : Option aIv := match op with
  | 0 => some (aNorm (x.1 + y.1) (x.2 + y.2))
  | 1 => some (aNorm (x.1 - y.2) (x.2 - y.1))
  | 2 => some (aNorm (min (min (x.1 * y.1) (x.1 * y.2)) (min (x.2 * y.1) (x.2 * y.2))) (max (max (x.1 * y.1) (x.1 * y.2)) (max (x.2 * y.1) (x.2 * y.2))))
  | 3 => some (if 0 ≤ y.1 then (0, y.2) else if 0 ≤ x.1 then (0, x.2) else aTop)
  | 9 => if 1 ≤ y.1 then some (if 0 ≤ x.1 then (x.1.tdiv y.2, x.2.tdiv y.1) else aTop) else none
  | 10 => if 1 ≤ y.1 then some (if 0 ≤ x.1 then (0, min x.2 (y.2 - 1)) else (1 - y.2, y.2 - 1)) else none
  | 4 => some aTop | 5 => some aTop | 6 => some aTop | 7 => some aTop | 8 => some aTop
  | _ => none
theorem amul_lo {x y a b c d : Int} (h1 : a ≤ x) (h2 : x ≤ b) (h3 : c ≤ y) (h4 : y ≤ d) : min (min (a * c) (a * d)) (min (b * c) (b * d)) ≤ x * y ∧ x * y ≤ max (max (a * c) (a * d)) (max (b * c) (b * d)) := by
  have k1 : ∀ {p q r z : Int}, p ≤ r → r ≤ q → min (p * z) (q * z) ≤ r * z ∧ r * z ≤ max (p * z) (q * z) := by
    intro p q r z hp hq
    rcases Int.le_total 0 z with hz | hz
    · have e1 := Int.mul_le_mul_of_nonneg_right hp hz
      have e2 := Int.mul_le_mul_of_nonneg_right hq hz
      omega
    · have e1 := Int.mul_le_mul_of_nonpos_right hp hz
      have e2 := Int.mul_le_mul_of_nonpos_right hq hz
      omega
  have a1 := k1 (z := y) h1 h2
  have a2 := k1 (z := a) h3 h4
  have a3 := k1 (z := b) h3 h4
  rw [Int.mul_comm c a, Int.mul_comm d a, Int.mul_comm y a] at a2
  rw [Int.mul_comm c b, Int.mul_comm d b, Int.mul_comm y b] at a3
  omega
theorem aand_nn {x y : Int32} (h : 0 ≤ y.toInt) : 0 ≤ (x &&& y).toInt ∧ (x &&& y).toInt ≤ y.toInt := by
  have e1 : y.toBitVec.msb = false := by
    rw [BitVec.msb_eq_false_iff_two_mul_lt]
    have : y.toInt = y.toBitVec.toInt := rfl
    rw [this, BitVec.toInt_eq_toNat_cond] at h
    split at h
    · assumption
    · omega
  have e2 : (x &&& y).toBitVec = x.toBitVec &&& y.toBitVec := rfl
  have e3 : (x.toBitVec &&& y.toBitVec).msb = false := by rw [BitVec.msb_and, e1, Bool.and_false]
  have e4 : (x &&& y).toInt = ((x.toBitVec &&& y.toBitVec).toNat : Int) := by
    show (x &&& y).toBitVec.toInt = _
    rw [e2, BitVec.toInt_eq_toNat_of_msb e3]
  have e5 : y.toInt = (y.toBitVec.toNat : Int) := BitVec.toInt_eq_toNat_of_msb e1
  have e6 : (x.toBitVec &&& y.toBitVec).toNat ≤ y.toBitVec.toNat := by rw [BitVec.toNat_and]; exact Nat.and_le_right
  omega
theorem aand_comm (x y : Int32) : x &&& y = y &&& x := Int32.toBitVec_inj.mp (BitVec.and_comm x.toBitVec y.toBitVec)
theorem arem_toInt {x y : Int32} (h : 1 ≤ y.toInt) : (x - x / y * y).toInt = x.toInt.tmod y.toInt := by
  have hne : y ≠ -1 := by
    intro e
    rw [e] at h
    revert h
    decide
  have e1 : (x / y).toInt = x.toInt.tdiv y.toInt := Int32.toInt_div_of_ne_right x y hne
  have e2 : x.toInt.tdiv y.toInt * y.toInt + x.toInt.tmod y.toInt = x.toInt := by rw [Int.mul_comm]; exact Int.mul_tdiv_add_tmod _ _
  have b1 := x.toInt_lt
  have b2 := x.le_toInt
  have c1 : x.toInt.tmod y.toInt < y.toInt := Int.tmod_lt_of_pos _ (by omega)
  have c2 : -y.toInt < x.toInt.tmod y.toInt := Int.lt_tmod_of_pos _ (by omega)
  have b3 := y.toInt_lt
  rw [Int32.toInt_sub, Int32.toInt_mul, e1]
  have e3 : (x.toInt - (x.toInt.tdiv y.toInt * y.toInt).bmod (2 ^ 32)).bmod (2 ^ 32) = (x.toInt - x.toInt.tdiv y.toInt * y.toInt).bmod (2 ^ 32) := Int.sub_bmod_bmod
  rw [e3, show x.toInt - x.toInt.tdiv y.toInt * y.toInt = x.toInt.tmod y.toInt by omega]
  exact abmod (by omega) (by omega)
theorem aBin_ok {op : Nat} {X Y Z : aIv} {x y : Int32} (h : aBin op X Y = some Z) (hx : aIn x X) (hy : aIn y Y) : ∃ z, mbin op x y = some z ∧ aIn z Z := by
  obtain ⟨hx1, hx2⟩ := hx
  obtain ⟨hy1, hy2⟩ := hy
  match op, h with
  | 0, h => cases h; exact ⟨_, rfl, aNorm_ok (Int32.toInt_add x y) (by omega) (by omega)⟩
  | 1, h => cases h; exact ⟨_, rfl, aNorm_ok (Int32.toInt_sub x y) (by omega) (by omega)⟩
  | 2, h =>
    cases h
    obtain ⟨k1, k2⟩ := amul_lo hx1 hx2 hy1 hy2
    exact ⟨_, rfl, aNorm_ok (Int32.toInt_mul x y) k1 k2⟩
  | 3, h =>
    cases h
    refine ⟨_, rfl, ?_⟩
    split
    · next h0 =>
      have := aand_nn (x := x) (y := y) (by omega)
      exact ⟨this.1, by show _ ≤ Y.2; omega⟩
    · split
      · next h0 =>
        have := aand_nn (x := y) (y := x) (by omega)
        rw [aand_comm] at this
        exact ⟨this.1, by show _ ≤ X.2; omega⟩
      · exact aIn_top _
  | 4, h => cases h; exact ⟨_, rfl, aIn_top _⟩
  | 5, h => cases h; exact ⟨_, rfl, aIn_top _⟩
  | 6, h => cases h; exact ⟨_, rfl, aIn_top _⟩
  | 7, h => cases h; exact ⟨_, rfl, aIn_top _⟩
  | 8, h => cases h; exact ⟨_, rfl, aIn_top _⟩
  | 9, h =>
    simp only [aBin] at h
    split at h
    · next h1 =>
      have hne : y ≠ 0 := by
        intro e
        rw [e] at hy1
        have : (0 : Int32).toInt = 0 := rfl
        omega
      refine ⟨x / y, by simp [mbin, hne], ?_⟩
      cases h
      split
      · next h0 =>
        have hne1 : y ≠ -1 := by
          intro e
          rw [e] at hy1
          have : (-1 : Int32).toInt = -1 := rfl
          omega
        have e1 : (x / y).toInt = x.toInt.tdiv y.toInt := Int32.toInt_div_of_ne_right x y hne1
        have p1 : 0 ≤ x.toInt := by omega
        have p2 : 0 ≤ X.2 := by omega
        have p3 : 0 ≤ y.toInt := by omega
        refine ⟨?_, ?_⟩
        · show X.1.tdiv Y.2 ≤ _
          rw [e1, Int.tdiv_eq_ediv_of_nonneg h0, Int.tdiv_eq_ediv_of_nonneg p1]
          refine Int.le_ediv_of_mul_le (by omega) ?_
          have q1 : X.1 / Y.2 * y.toInt ≤ X.1 / Y.2 * Y.2 := Int.mul_le_mul_of_nonneg_left hy2 (Int.ediv_nonneg h0 (by omega))
          have q2 : X.1 / Y.2 * Y.2 ≤ X.1 := Int.ediv_mul_le _ (by omega)
          omega
        · show _ ≤ X.2.tdiv Y.1
          rw [e1, Int.tdiv_eq_ediv_of_nonneg p1, Int.tdiv_eq_ediv_of_nonneg p2]
          refine Int.le_ediv_of_mul_le (by omega) ?_
          have q1 : x.toInt / y.toInt * Y.1 ≤ x.toInt / y.toInt * y.toInt := Int.mul_le_mul_of_nonneg_left hy1 (Int.ediv_nonneg p1 p3)
          have q2 : x.toInt / y.toInt * y.toInt ≤ x.toInt := Int.ediv_mul_le _ (by omega)
          omega
      · exact aIn_top _
    · cases h
  | 10, h =>
    simp only [aBin] at h
    split at h
    · next h1 =>
      have hne : y ≠ 0 := by
        intro e
        rw [e] at hy1
        have : (0 : Int32).toInt = 0 := rfl
        omega
      refine ⟨x - x / y * y, by simp [mbin, hne], ?_⟩
      have e1 := arem_toInt (x := x) (y := y) (by omega)
      have c1 : x.toInt.tmod y.toInt < y.toInt := Int.tmod_lt_of_pos _ (by omega)
      have c2 : -y.toInt < x.toInt.tmod y.toInt := Int.lt_tmod_of_pos _ (by omega)
      cases h
      split
      · next h0 =>
        have c3 : 0 ≤ x.toInt.tmod y.toInt := Int.tmod_nonneg _ (by omega)
        have c4 : x.toInt.tmod y.toInt ≤ x.toInt := by
          have p1 : 0 ≤ x.toInt := by omega
          have : x.toInt.tdiv y.toInt * y.toInt + x.toInt.tmod y.toInt = x.toInt := by rw [Int.mul_comm]; exact Int.mul_tdiv_add_tmod _ _
          have q : 0 ≤ x.toInt.tdiv y.toInt * y.toInt := Int.mul_nonneg (Int.tdiv_nonneg p1 (by omega)) (by omega)
          omega
        exact ⟨by show 0 ≤ _; omega, by show _ ≤ min X.2 (Y.2 - 1); omega⟩
      · exact ⟨by show 1 - Y.2 ≤ _; omega, by show _ ≤ Y.2 - 1; omega⟩
    · cases h
  | n + 11, h => cases h
/-- what a comparison that holds says -/
def aRef (c : Nat) (x y : aIv) : aIv × aIv := match c with
  | 0 => ((max x.1 y.1, min x.2 y.2), (max x.1 y.1, min x.2 y.2))
  | 1 => ((if y.1 = y.2 ∧ x.1 = y.1 then x.1 + 1 else x.1, if y.1 = y.2 ∧ x.2 = y.1 then x.2 - 1 else x.2), (if x.1 = x.2 ∧ y.1 = x.1 then y.1 + 1 else y.1, if x.1 = x.2 ∧ y.2 = x.1 then y.2 - 1 else y.2))
  | 2 => ((x.1, min x.2 (y.2 - 1)), (max y.1 (x.1 + 1), y.2))
  | 3 => ((max x.1 y.1, x.2), (y.1, min y.2 x.2))
  | 4 => ((max x.1 (y.1 + 1), x.2), (y.1, min y.2 (x.2 - 1)))
  | _ => ((x.1, min x.2 y.2), (max y.1 x.1, y.2))
def aNot (c : Nat) : Nat := match c with | 0 => 1 | 1 => 0 | 2 => 3 | 3 => 2 | 4 => 5 | _ => 4
theorem aRef_ok {c : Nat} {X Y : aIv} {x y : Int32} (h : mcmp c x y = true) (hx : aIn x X) (hy : aIn y Y) : aIn x (aRef c X Y).1 ∧ aIn y (aRef c X Y).2 := by
  obtain ⟨hx1, hx2⟩ := hx
  obtain ⟨hy1, hy2⟩ := hy
  match c, h with
  | 0, h =>
    have h : x = y := by simpa [mcmp] using h
    subst h
    exact ⟨⟨by show max X.1 Y.1 ≤ _; omega, by show _ ≤ min X.2 Y.2; omega⟩, ⟨by show max X.1 Y.1 ≤ _; omega, by show _ ≤ min X.2 Y.2; omega⟩⟩
  | 1, h =>
    have h : ¬ x = y := by simpa [mcmp] using h
    have h : ¬ x.toInt = y.toInt := fun e => h (Int32.toInt_inj.mp e)
    refine ⟨⟨?_, ?_⟩, ⟨?_, ?_⟩⟩
    · simp only [aRef]; split <;> omega
    · simp only [aRef]; split <;> omega
    · simp only [aRef]; split <;> omega
    · simp only [aRef]; split <;> omega
  | 2, h =>
    have h : x.toInt < y.toInt := Int32.lt_iff_toInt_lt.mp (by simpa [mcmp] using h)
    exact ⟨⟨hx1, by show _ ≤ min X.2 (Y.2 - 1); omega⟩, ⟨by show max Y.1 (X.1 + 1) ≤ _; omega, hy2⟩⟩
  | 3, h =>
    have h : y.toInt ≤ x.toInt := Int32.le_iff_toInt_le.mp (by simpa [mcmp] using h)
    exact ⟨⟨by show max X.1 Y.1 ≤ _; omega, hx2⟩, ⟨hy1, by show _ ≤ min Y.2 X.2; omega⟩⟩
  | 4, h =>
    have h : y.toInt < x.toInt := Int32.lt_iff_toInt_lt.mp (by simpa [mcmp] using h)
    exact ⟨⟨by show max X.1 (Y.1 + 1) ≤ _; omega, hx2⟩, ⟨hy1, by show _ ≤ min Y.2 (X.2 - 1); omega⟩⟩
  | n + 5, h =>
    have h : x.toInt ≤ y.toInt := Int32.le_iff_toInt_le.mp (by simpa [mcmp] using h)
    exact ⟨⟨hx1, by show _ ≤ min X.2 Y.2; omega⟩, ⟨by show max Y.1 X.1 ≤ _; omega, hy2⟩⟩
theorem aNot_ok {c : Nat} {x y : Int32} (h : mcmp c x y = false) : mcmp (aNot c) x y = true := by
  match c, h with
  | 0, h => simpa [mcmp, aNot] using h
  | 1, h => simpa [mcmp, aNot] using h
  | 2, h => simpa [mcmp, aNot, Int32.not_lt] using h
  | 3, h => simpa [mcmp, aNot, Int32.not_le] using h
  | 4, h => simpa [mcmp, aNot, Int32.not_lt] using h
  | n + 5, h => simpa [mcmp, aNot, Int32.not_le] using h
