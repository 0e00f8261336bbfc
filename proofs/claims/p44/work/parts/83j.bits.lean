/-! BITS of ints -/
def zb (x : Int) (i : Nat) : Bool := (Int32.ofInt x).toBitVec.getLsbD i
theorem zb_or (x y : Int) (i : Nat) : zb (zbit 4 x y) i = (zb x i || zb y i) := by
  have e : zbit 4 x y = (Int32.ofInt x ||| Int32.ofInt y).toInt := rfl
  unfold zb
  rw [e, zio]
  show ((Int32.ofInt x).toBitVec ||| (Int32.ofInt y).toBitVec).getLsbD i = _
  rw [BitVec.getLsbD_or]
theorem zb_and (x y : Int) (i : Nat) : zb (zbit 3 x y) i = (zb x i && zb y i) := by
  have e : zbit 3 x y = (Int32.ofInt x &&& Int32.ofInt y).toInt := rfl
  unfold zb
  rw [e, zio]
  show ((Int32.ofInt x).toBitVec &&& (Int32.ofInt y).toBitVec).getLsbD i = _
  rw [BitVec.getLsbD_and]
theorem zb_hi {x : Int} {i : Nat} (h : 32 ≤ i) : zb x i = false := BitVec.getLsbD_of_ge _ _ h
theorem zb_ext {x y : Int} (hx : zR x) (hy : zR y) (h : ∀ i, i < 32 → zb x i = zb y i) : x = y := by
  have e : (Int32.ofInt x).toBitVec = (Int32.ofInt y).toBitVec := BitVec.eq_of_getLsbD_eq fun i hi => h i hi
  rw [← zoi hx, ← zoi hy]
  show (Int32.ofInt x).toBitVec.toInt = (Int32.ofInt y).toBitVec.toInt
  rw [e]
theorem zb_0 (i : Nat) : zb 0 i = false := by
  unfold zb
  show (0#32).getLsbD i = false
  rw [BitVec.getLsbD_zero]
theorem zb_nat {x : Int} (h : 0 ≤ x) (i : Nat) : zb x i = (decide (i < 32) && x.toNat.testBit i) := by
  unfold zb
  have e : (Int32.ofInt x).toBitVec = BitVec.ofNat 32 x.toNat := by
    show BitVec.ofInt 32 x = _
    rw [← BitVec.ofInt_natCast, show ((x.toNat : Nat) : Int) = x by omega]
  rw [e, BitVec.getLsbD_ofNat]
theorem zb_one_aux : ∀ k : Nat, k < 32 → ∀ i : Nat, i < 32 → zb (zbit 6 1 (k : Int)) i = decide (i = k) := by decide +kernel
theorem zb_one {k : Int} (h : 0 ≤ k ∧ k < 32) (i : Nat) : zb (zbit 6 1 k) i = decide ((i : Int) = k) := by
  by_cases hi : i < 32
  · have := zb_one_aux k.toNat (by omega) i hi
    rw [show ((k.toNat : Nat) : Int) = k by omega] at this
    rw [this]
    by_cases e : i = k.toNat
    · rw [decide_eq_true e, decide_eq_true (show (i : Int) = k by omega)]
    · rw [decide_eq_false e, decide_eq_false (show ¬ (i : Int) = k by omega)]
  · rw [zb_hi (by omega), decide_eq_false (by omega)]
theorem zsh_aux : ∀ k : Nat, k < 32 → (((Int32.ofInt (k : Int)) &&& 31).toBitVec.smod 32#32).toNat = k := by decide +kernel
theorem zb_test {x k : Int} (h : 0 ≤ k ∧ k < 32) : zbit 3 (zbit 7 x k) 1 = if zb x k.toNat = true then 1 else 0 := by
  have e1 : zbit 7 x k = (Int32.ofInt x >>> (Int32.ofInt k &&& 31)).toInt := rfl
  have e2 : zbit 3 (zbit 7 x k) 1 = (Int32.ofInt (zbit 7 x k) &&& Int32.ofInt 1).toInt := rfl
  rw [e2, e1, zio]
  show (BitVec.sshiftRight (Int32.ofInt x).toBitVec ((((Int32.ofInt k) &&& 31).toBitVec.smod 32#32).toNat) &&& 1#32).toInt = _
  have e3 := zsh_aux k.toNat (by omega)
  rw [show ((k.toNat : Nat) : Int) = k by omega] at e3
  rw [e3, BitVec.and_one_eq_setWidth_ofBool_getLsbD, BitVec.getLsbD_sshiftRight, if_pos (show k.toNat + 0 < 32 by omega), Nat.add_zero]
  unfold zb
  cases (Int32.ofInt x).toBitVec.getLsbD k.toNat <;> rfl
/-- how many bits below m -/
def zcnt (x : Int) : Nat → Int
  | 0 => 0
  | m + 1 => zcnt x m + (if zb x m = true then 1 else 0)
theorem zcnt_congr {x y : Int} : ∀ m : Nat, (∀ i, i < m → zb x i = zb y i) → zcnt x m = zcnt y m
  | 0, _ => rfl
  | m + 1, h => by
    unfold zcnt
    rw [zcnt_congr m (fun i hi => h i (by omega)), h m (by omega)]
theorem zcnt_b {x : Int} : ∀ m : Nat, 0 ≤ zcnt x m ∧ zcnt x m ≤ m
  | 0 => by unfold zcnt; omega
  | m + 1 => by
    have := zcnt_b (x := x) m
    unfold zcnt
    split <;> omega
theorem zcnt_hi {x : Int} {n : Nat} (h : ∀ i, n ≤ i → zb x i = false) : ∀ m : Nat, zcnt x (n + m) = zcnt x n
  | 0 => rfl
  | m + 1 => by
    show zcnt x (n + m) + (if zb x (n + m) = true then 1 else 0) = _
    rw [zcnt_hi h m, h (n + m) (by omega)]
    exact Int.add_zero _
theorem zb_small {x : Int} {n : Nat} (h : 0 ≤ x) (h2 : x.toNat < 2 ^ n) (i : Nat) (hi : n ≤ i) : zb x i = false := by
  have e : x.toNat < 2 ^ i := Nat.lt_of_lt_of_le h2 (Nat.pow_le_pow_right (by decide) hi)
  rw [zb_nat h, Nat.testBit_lt_two_pow e, Bool.and_false]
theorem zpop_aux : ∀ j : Nat, j < 64 → ∀ i : Nat, i < 64 → (zbit 3 (((zbit 3 (((zbit 3 (((64 * j + i : Nat) : Int) - (zbit 3 (zbit 8 ((64 * j + i : Nat) : Int) 1) 1431655765)) 858993459) + (zbit 3 (zbit 8 (((64 * j + i : Nat) : Int) - (zbit 3 (zbit 8 ((64 * j + i : Nat) : Int) 1) 1431655765)) 2) 858993459)) + (zbit 8 ((zbit 3 (((64 * j + i : Nat) : Int) - (zbit 3 (zbit 8 ((64 * j + i : Nat) : Int) 1) 1431655765)) 858993459) + (zbit 3 (zbit 8 (((64 * j + i : Nat) : Int) - (zbit 3 (zbit 8 ((64 * j + i : Nat) : Int) 1) 1431655765)) 2) 858993459)) 4)) 252645135) + (zbit 8 (zbit 3 (((zbit 3 (((64 * j + i : Nat) : Int) - (zbit 3 (zbit 8 ((64 * j + i : Nat) : Int) 1) 1431655765)) 858993459) + (zbit 3 (zbit 8 (((64 * j + i : Nat) : Int) - (zbit 3 (zbit 8 ((64 * j + i : Nat) : Int) 1) 1431655765)) 2) 858993459)) + (zbit 8 ((zbit 3 (((64 * j + i : Nat) : Int) - (zbit 3 (zbit 8 ((64 * j + i : Nat) : Int) 1) 1431655765)) 858993459) + (zbit 3 (zbit 8 (((64 * j + i : Nat) : Int) - (zbit 3 (zbit 8 ((64 * j + i : Nat) : Int) 1) 1431655765)) 2) 858993459)) 4)) 252645135) 8)) + (zbit 8 ((zbit 3 (((zbit 3 (((64 * j + i : Nat) : Int) - (zbit 3 (zbit 8 ((64 * j + i : Nat) : Int) 1) 1431655765)) 858993459) + (zbit 3 (zbit 8 (((64 * j + i : Nat) : Int) - (zbit 3 (zbit 8 ((64 * j + i : Nat) : Int) 1) 1431655765)) 2) 858993459)) + (zbit 8 ((zbit 3 (((64 * j + i : Nat) : Int) - (zbit 3 (zbit 8 ((64 * j + i : Nat) : Int) 1) 1431655765)) 858993459) + (zbit 3 (zbit 8 (((64 * j + i : Nat) : Int) - (zbit 3 (zbit 8 ((64 * j + i : Nat) : Int) 1) 1431655765)) 2) 858993459)) 4)) 252645135) + (zbit 8 (zbit 3 (((zbit 3 (((64 * j + i : Nat) : Int) - (zbit 3 (zbit 8 ((64 * j + i : Nat) : Int) 1) 1431655765)) 858993459) + (zbit 3 (zbit 8 (((64 * j + i : Nat) : Int) - (zbit 3 (zbit 8 ((64 * j + i : Nat) : Int) 1) 1431655765)) 2) 858993459)) + (zbit 8 ((zbit 3 (((64 * j + i : Nat) : Int) - (zbit 3 (zbit 8 ((64 * j + i : Nat) : Int) 1) 1431655765)) 858993459) + (zbit 3 (zbit 8 (((64 * j + i : Nat) : Int) - (zbit 3 (zbit 8 ((64 * j + i : Nat) : Int) 1) 1431655765)) 2) 858993459)) 4)) 252645135) 8)) 16)) 63) = zcnt ((64 * j + i : Nat) : Int) 12 := by decide +kernel
theorem C_bits {d : Nat} {Z : zM} {x : Int} {Q : Int → zM → Prop} (h : 0 ≤ x ∧ x < 4096) (hQ : Q (zcnt x 31) Z) : TI d 0 [.inl x] Z Q := by
  have e := zpop_aux (x.toNat / 64) (by omega) (x.toNat % 64) (by omega)
  rw [show ((64 * (x.toNat / 64) + x.toNat % 64 : Nat) : Int) = x by omega] at e
  have e2 : zcnt x 31 = zcnt x 12 := zcnt_hi (n := 12) (fun i hi => zb_small (n := 12) h.1 (by show x.toNat < 4096; omega) i hi) 19
  refine w0_0 ?_
  rw [e, ← e2]
  exact hQ
theorem R_bits {d : Nat} {Z : zM} {x : Int} {Q : Int → zM → Prop} (hQ : Q (zcnt x 31) Z) : TI d 257 [.inl x] Z Q := by
  refine w257_0 ?_
  suffices H : ∀ (f m : Nat) (x2 : Int), x2 = m → f = 31 - m → m ≤ 31 → TZ d 257 4 [some (.inl x), some (.inl (zcnt x m)), some (.inl x2)] [] Z (zri Q) from H 31 0 0 rfl rfl (by decide)
  intro f
  induction f with
  | zero =>
    intro m x2 e y1 y2
    have em : m = 31 := by omega
    subst em
    exact w257_4 ⟨by unfold zR; omega, fun _ => hQ, fun c => absurd (show 31 ≤ x2 by omega) c⟩
  | succ f ih =>
    intro m x2 e y1 y2
    have := ih (m + 1) (x2 + 1) (by omega) (by omega) (by omega)
    have st : zcnt x (m + 1) = zcnt x m + (if zb x m = true then 1 else 0) := rfl
    rw [st] at this
    refine w257_4 ⟨by unfold zR; omega, fun c => by omega, fun _ => ?_⟩
    rw [zb_test (by omega), show x2.toNat = m by omega]
    exact this
theorem zr01 (b : Bool) : zR (if b = true then 1 else 0) := by cases b <;> decide
theorem zb_bound {x : Int} {n : Nat} (hn : n ≤ 31) (hx : zR x) (h : ∀ i, n ≤ i → zb x i = false) : 0 ≤ x ∧ x.toNat < 2 ^ n := by
  have t : (Int32.ofInt x).toBitVec.toNat < 2 ^ n := Nat.lt_pow_two_of_testBit _ fun i hi => h i hi
  have p : 2 ^ n ≤ 2 ^ 31 := Nat.pow_le_pow_right (by decide) hn
  have q : 2 * (Int32.ofInt x).toBitVec.toNat < 2 ^ 32 := by
    have : (2 : Nat) ^ 32 = 2 * 2 ^ 31 := by decide
    omega
  have e : (Int32.ofInt x).toBitVec.toInt = (Int32.ofInt x).toBitVec.toNat := BitVec.toInt_eq_toNat_of_lt q
  have e2 : x = (Int32.ofInt x).toBitVec.toNat := by rw [← e]; exact (zoi hx).symm
  omega
/-- one more bit -/
theorem zcnt_in {x v : Int} (hv : 0 ≤ v ∧ v < 32) : ∀ m : Nat, zcnt (zbit 4 x (zbit 6 1 v)) m = zcnt x m + (if v < m then (if zb x v.toNat = true then 0 else 1) else 0)
  | 0 => by
    rw [if_neg (by omega)]
    rfl
  | m + 1 => by
    have ih := zcnt_in (x := x) hv m
    have e1 : zcnt (zbit 4 x (zbit 6 1 v)) (m + 1) = zcnt (zbit 4 x (zbit 6 1 v)) m + (if zb (zbit 4 x (zbit 6 1 v)) m = true then 1 else 0) := rfl
    have e2 : zcnt x (m + 1) = zcnt x m + (if zb x m = true then 1 else 0) := rfl
    rw [e1, e2, ih, zb_or, zb_one hv]
    by_cases c : (m : Int) = v
    · have cm : v.toNat = m := by omega
      rw [cm, if_neg (show ¬ v < (m : Int) by omega), if_pos (show v < ((m + 1 : Nat) : Int) by omega), decide_eq_true c]
      cases zb x m <;> simp
    · rw [decide_eq_false c, Bool.or_false]
      by_cases c2 : v < (m : Int)
      · rw [if_pos c2, if_pos (show v < ((m + 1 : Nat) : Int) by omega)]
        omega
      · rw [if_neg c2, if_neg (show ¬ v < ((m + 1 : Nat) : Int) by omega)]
        omega
