/-- the machine's count of a long's bits -/
def zsr (x : Int64) (k : Int32) : Int64 := (x.toUInt64 >>> (k.toInt64.toUInt64 &&& Int64.toUInt64 63)).toInt64
def zp1 (x : Int64) : Int64 := x - (zsr x (Int32.ofInt 1) &&& Int64.ofInt 6148914691236517205)
def zp2 (x : Int64) : Int64 := (x &&& Int64.ofInt 3689348814741910323) + (zsr x (Int32.ofInt 2) &&& Int64.ofInt 3689348814741910323)
def zp3 (x : Int64) : Int64 := (x + zsr x (Int32.ofInt 4)) &&& Int64.ofInt 1085102592571150095
def zpop64 (x : Int64) : Int32 :=
  let y := zp3 (zp2 (zp1 x))
  let y := y + zsr y (Int8.ofInt 8).toInt32
  let y := y + zsr y (Int8.ofInt 16).toInt32
  let y := y + zsr y (Int8.ofInt 32).toInt32
  y.toInt32 &&& (Int8.ofInt 127).toInt32
theorem bitJ2 {d : Nat} (x : Int64) (M : mMem) : EvS d none 6 0 (ment 6 [.long x]) [] M (some (.int (zpop64 x)), M) := ⟨60, rfl⟩
theorem zsr_n (x : Int64) : (zsr x (Int32.ofInt 1)).toBitVec.toNat = x.toBitVec.toNat / 2 ∧ (zsr x (Int32.ofInt 2)).toBitVec.toNat = x.toBitVec.toNat / 4 ∧ (zsr x (Int32.ofInt 4)).toBitVec.toNat = x.toBitVec.toNat / 16 ∧ (zsr x (Int8.ofInt 8).toInt32).toBitVec.toNat = x.toBitVec.toNat / 256 ∧ (zsr x (Int8.ofInt 16).toInt32).toBitVec.toNat = x.toBitVec.toNat / 65536 ∧ (zsr x (Int8.ofInt 32).toInt32).toBitVec.toNat = x.toBitVec.toNat / 4294967296 := by
  have g : ∀ (k : Int32) (n : Nat), ((k.toInt64.toUInt64 &&& Int64.toUInt64 63).toBitVec % 64#64).toNat = n → (zsr x k).toBitVec.toNat = x.toBitVec.toNat / 2 ^ n := by
    intro k n h
    show (x.toBitVec >>> ((k.toInt64.toUInt64 &&& Int64.toUInt64 63).toBitVec % 64#64).toNat).toNat = _
    rw [h, BitVec.toNat_ushiftRight, Nat.shiftRight_eq_div_pow]
  exact ⟨g _ 1 (by decide +kernel), g _ 2 (by decide +kernel), g _ 4 (by decide +kernel), g _ 8 (by decide +kernel), g _ 16 (by decide +kernel), g _ 32 (by decide +kernel)⟩
theorem zn_add {x y : Int64} (h : x.toBitVec.toNat + y.toBitVec.toNat < 18446744073709551616) : (x + y).toBitVec.toNat = x.toBitVec.toNat + y.toBitVec.toNat := by
  show (x.toBitVec + y.toBitVec).toNat = _
  rw [BitVec.toNat_add]
  exact Nat.mod_eq_of_lt h
theorem zn_and (x : Int64) (k : Int) (m : Nat) (h : (Int64.ofInt k).toBitVec.toNat = m) : (x &&& Int64.ofInt k).toBitVec.toNat = x.toBitVec.toNat &&& m := by
  show (x.toBitVec &&& (Int64.ofInt k).toBitVec).toNat = _
  rw [BitVec.toNat_and, h]
theorem swB_lt {g : Nat → Nat} {c : Nat} (hg : ∀ a, a < 256 → g a ≤ c) : ∀ n x, swB g n x ≤ swm c n
  | 0, _ => Nat.le_refl _
  | n + 1, x => by
    have := swB_lt hg n (x / 256)
    have h2 := hg (x % 256) (Nat.mod_lt _ (by decide))
    show g (x % 256) + 256 * swB g n (x / 256) ≤ c + 256 * swm c n
    omega
theorem sw_a {a b A A' B B' : Nat} (h : A = a + 256 * A') (h' : B = b + 256 * B') : A + B = (a + b) + 256 * (A' + B') := by omega
theorem sw_d {a A A' : Nat} (h : A = a + 256 * A') (ha : a < 256) : A / 256 = A' := by omega
theorem sw_m {s X T : Nat} (h : X = s + 256 * T) (hs : s < 128) : X % 128 = s := by omega
theorem sw_l {a b m n : Nat} (h : a ≤ m) (h' : b ≤ n) : a + b ≤ m + n := by omega
/-- eight counts put together -/
theorem sw_fin {p0 p1 p2 p3 p4 p5 p6 p7 V0 V1 V2 V3 V4 V5 V6 V7 : Nat} (e0 : V0 = p0 + 256 * V1) (e1 : V1 = p1 + 256 * V2) (e2 : V2 = p2 + 256 * V3) (e3 : V3 = p3 + 256 * V4) (e4 : V4 = p4 + 256 * V5) (e5 : V5 = p5 + 256 * V6) (e6 : V6 = p6 + 256 * V7) (e7 : V7 = p7 + 256 * 0) (b0 : p0 ≤ 8) (b1 : p1 ≤ 8) (b2 : p2 ≤ 8) (b3 : p3 ≤ 8) (b4 : p4 ≤ 8) (b5 : p5 ≤ 8) (b6 : p6 ≤ 8) (b7 : p7 ≤ 8) : (V0 / 256 = V1 ∧ (V0 + V1) / 65536 = V2 + V3 ∧ ((V0 + V1) + (V2 + V3)) / 4294967296 = (V4 + V5) + (V6 + V7)) ∧ (((V0 + V1) + (V2 + V3)) + ((V4 + V5) + (V6 + V7))) % 128 = ((p0 + p1) + (p2 + p3)) + ((p4 + p5) + (p6 + p7)) := by
  have z : (0 : Nat) = 0 + 256 * 0 := rfl
  have a0 := sw_a e0 e1
  have a1 := sw_a e1 e2
  have a2 := sw_a e2 e3
  have a3 := sw_a e3 e4
  have a4 := sw_a e4 e5
  have a5 := sw_a e5 e6
  have a6 := sw_a e6 e7
  have a7 := sw_a e7 z
  have c0 := sw_a a0 a2
  have c1 := sw_a a1 a3
  have c2 := sw_a a2 a4
  have c3 := sw_a a3 a5
  have c4 := sw_a a4 a6
  have f := sw_a c0 c4
  have l01 := sw_l b0 b1
  have l12 := sw_l b1 b2
  have l23 := sw_l b2 b3
  have l34 := sw_l b3 b4
  have l45 := sw_l b4 b5
  have l56 := sw_l b5 b6
  have l67 := sw_l b6 b7
  have lt : ∀ {n : Nat}, n ≤ 8 + 8 → n < 256 := fun h => Nat.lt_of_le_of_lt h (by decide)
  have lt2 : ∀ {n : Nat}, n ≤ 8 + 8 + (8 + 8) → n < 256 := fun h => Nat.lt_of_le_of_lt h (by decide)
  have lt3 : ∀ {n : Nat}, n ≤ 8 + 8 + (8 + 8) + (8 + 8 + (8 + 8)) → n < 128 := fun h => Nat.lt_of_le_of_lt h (by decide)
  refine ⟨⟨sw_d e0 (Nat.lt_of_le_of_lt b0 (by decide)), ?_, ?_⟩, sw_m f (lt3 (sw_l (sw_l l01 l23) (sw_l l45 l67)))⟩
  · rw [show (65536 : Nat) = 256 * 256 from rfl, ← Nat.div_div_eq_div_mul, sw_d a0 (lt l01), sw_d a1 (lt l12)]
  · rw [show (4294967296 : Nat) = 256 * 256 * 256 * 256 from rfl, ← Nat.div_div_eq_div_mul, ← Nat.div_div_eq_div_mul, ← Nat.div_div_eq_div_mul, sw_d c0 (lt2 (sw_l l01 l23)), sw_d c1 (lt2 (sw_l l12 l34)), sw_d c2 (lt2 (sw_l l23 l45)), sw_d c3 (lt2 (sw_l l34 l56))]
theorem zn1 (x : Int64) : (zp1 x).toBitVec.toNat = swB sw1 8 x.toBitVec.toNat := by
  have hx : x.toBitVec.toNat < 256 ^ 8 := x.toBitVec.isLt
  have b1 := swB_1 8 _ hx
  have ea : (zsr x (Int32.ofInt 1) &&& Int64.ofInt 6148914691236517205).toBitVec.toNat = (x.toBitVec.toNat / 2) &&& swm 85 8 := by
    rw [zn_and _ _ (swm 85 8) (by decide +kernel), (zsr_n x).1]
  show (x.toBitVec - (zsr x (Int32.ofInt 1) &&& Int64.ofInt 6148914691236517205).toBitVec).toNat = _
  rw [BitVec.toNat_sub_of_le (by rw [BitVec.le_def, ea]; exact b1.2), ea]
  exact b1.1
theorem zn2 (x : Int64) : (zp2 (zp1 x)).toBitVec.toNat = swB sw2 8 x.toBitVec.toNat := by
  have b2 := swB_2 8 x.toBitVec.toNat
  have l2 : swB sw2 8 x.toBitVec.toNat ≤ swm 255 8 := swB_lt (fun a ha => by have := sw_v a ha; omega) 8 _
  have e255 : swm 255 8 < 18446744073709551616 := by decide +kernel
  have ea : (zp1 x &&& Int64.ofInt 3689348814741910323).toBitVec.toNat = swB sw1 8 x.toBitVec.toNat &&& swm 51 8 := by
    rw [zn_and _ _ (swm 51 8) (by decide +kernel), zn1]
  have eb : (zsr (zp1 x) (Int32.ofInt 2) &&& Int64.ofInt 3689348814741910323).toBitVec.toNat = (swB sw1 8 x.toBitVec.toNat / 4) &&& swm 51 8 := by
    rw [zn_and _ _ (swm 51 8) (by decide +kernel), (zsr_n (zp1 x)).2.1, zn1]
  unfold zp2
  rw [zn_add (by rw [ea, eb, b2]; exact Nat.lt_of_le_of_lt l2 e255), ea, eb]
  exact b2
theorem zn3 (x : Int64) : (zp3 (zp2 (zp1 x))).toBitVec.toNat = swB sw3 8 x.toBitVec.toNat := by
  have b3 := (swB_3 8 x.toBitVec.toNat).1
  have l2 : swB sw2 8 x.toBitVec.toNat ≤ swm 68 8 := swB_lt (fun a ha => by have := sw_v a ha; omega) 8 _
  have e68 : swm 68 8 + swm 68 8 < 18446744073709551616 := by decide +kernel
  have es := (zsr_n (zp2 (zp1 x))).2.2.1
  rw [zn2] at es
  unfold zp3
  rw [zn_and _ _ (swm 15 8) (by decide +kernel), zn_add (by rw [zn2, es]; exact Nat.lt_of_le_of_lt (sw_l l2 (Nat.le_trans (Nat.div_le_self _ _) l2)) e68), zn2, es]
  exact b3
/-- the end of the count, of what the eight counts are put together in -/
def zp4 (y : Int64) : Int64 := y + zsr y (Int8.ofInt 8).toInt32
def zp5 (y : Int64) : Int64 := y + zsr y (Int8.ofInt 16).toInt32
def zp6 (y : Int64) : Int64 := y + zsr y (Int8.ofInt 32).toInt32
theorem zn7 (y : Int64) : (y.toInt32 &&& (Int8.ofInt 127).toInt32).toInt = ((y.toBitVec.toNat % 128 : Nat) : Int) := by
  have fin : (y.toInt32 &&& (Int8.ofInt 127).toInt32).toBitVec.toNat = y.toBitVec.toNat % 128 := by
    show (BitVec.signExtend 32 y.toBitVec &&& (127#32)).toNat = _
    rw [BitVec.toNat_and]
    have : (BitVec.signExtend 32 y.toBitVec).toNat = y.toBitVec.toNat % 2 ^ 32 := by
      rw [BitVec.signExtend_eq_setWidth_of_le _ (by decide), BitVec.toNat_setWidth]
    rw [this, show (127#32).toNat = 2 ^ 7 - 1 from rfl, Nat.and_two_pow_sub_one_eq_mod]
    omega
  have q : (y.toInt32 &&& (Int8.ofInt 127).toInt32).toInt = ((y.toInt32 &&& (Int8.ofInt 127).toInt32).toBitVec.toNat : Int) :=
    BitVec.toInt_eq_toNat_of_lt (by rw [fin]; omega)
  rw [q, fin]
theorem zn6 {y : Int64} {V0 V1 V23 V47 : Nat} (hy : y.toBitVec.toNat = V0) (h0 : V0 / 256 = V1) (h1 : (V0 + V1) / 65536 = V23) (h2 : (V0 + V1 + V23) / 4294967296 = V47) (b : V0 ≤ 578721382704613384) : (zp6 (zp5 (zp4 y))).toBitVec.toNat = V0 + V1 + V23 + V47 := by
  have l1 : V1 ≤ V0 := by rw [← h0]; exact Nat.div_le_self _ _
  have l2 : V23 ≤ V0 + V1 := by rw [← h1]; exact Nat.div_le_self _ _
  have l3 : V47 ≤ V0 + V1 + V23 := by rw [← h2]; exact Nat.div_le_self _ _
  have s8 := (zsr_n y).2.2.2.1
  rw [hy, h0] at s8
  have t1 : (zp4 y).toBitVec.toNat = V0 + V1 := by
    unfold zp4
    rw [zn_add (by rw [s8, hy]; clear h0 h1 h2; omega), s8, hy]
  have s16 := (zsr_n (zp4 y)).2.2.2.2.1
  rw [t1, h1] at s16
  have t2 : (zp5 (zp4 y)).toBitVec.toNat = V0 + V1 + V23 := by
    unfold zp5
    rw [zn_add (by rw [s16, t1]; clear h0 h1 h2; omega), s16, t1]
  have s32 := (zsr_n (zp5 (zp4 y))).2.2.2.2.2
  rw [t2, h2] at s32
  unfold zp6
  rw [zn_add (by rw [s32, t2]; clear h0 h1 h2; omega), s32, t2]
theorem sw_tot (x : Nat) : ncnt x 64 = ((sw3 (x % 256) + sw3 (x / 256 % 256)) + (sw3 (x / 256 / 256 % 256) + sw3 (x / 256 / 256 / 256 % 256))) + ((sw3 (x / 256 / 256 / 256 / 256 % 256) + sw3 (x / 256 / 256 / 256 / 256 / 256 % 256)) + (sw3 (x / 256 / 256 / 256 / 256 / 256 / 256 % 256) + sw3 (x / 256 / 256 / 256 / 256 / 256 / 256 / 256 % 256))) := by
  have v : ∀ y : Nat, ncnt (y % 256) 8 = sw3 (y % 256) := fun y => ((sw_v (y % 256) (Nat.mod_lt _ (by decide))).2.2.2.2.1).symm
  have e8 : ∀ (y m : Nat), ncnt y (8 + m) = sw3 (y % 256) + ncnt (y / 256) m := fun y m => by rw [ncnt_8, v]
  have e0 : ∀ y, ncnt y 8 = sw3 (y % 256) := fun y => by rw [← v]; exact ncnt_8 y 0
  rw [show (64 : Nat) = 8 + (8 + (8 + (8 + (8 + (8 + (8 + 8)))))) from rfl, e8, e8, e8, e8, e8, e8, e8, e0]
  simp only [Nat.add_assoc]
theorem zpop64_n (x : Int64) : (zpop64 x).toInt = (ncnt x.toBitVec.toNat 64 : Nat) := by
  have u : ∀ (n y : Nat), swB sw3 (n + 1) y = sw3 (y % 256) + 256 * swB sw3 n (y / 256) := fun _ _ => rfl
  have v : ∀ y : Nat, sw3 (y % 256) ≤ 8 := fun y => (sw_v (y % 256) (Nat.mod_lt _ (by decide))).2.2.2.2.2
  have l3 : swB sw3 8 x.toBitVec.toNat ≤ 578721382704613384 := by
    have := swB_lt (g := sw3) (c := 8) (fun a ha => (sw_v a ha).2.2.2.2.2) 8 x.toBitVec.toNat
    exact Nat.le_trans this (by decide +kernel)
  have F := sw_fin (u 7 x.toBitVec.toNat) (u 6 _) (u 5 _) (u 4 _) (u 3 _) (u 2 _) (u 1 _) (u 0 _) (v _) (v _) (v _) (v _) (v _) (v _) (v _) (v _)
  have n6 := zn6 (zn3 x) F.1.1 F.1.2.1 F.1.2.2 l3
  have e : zpop64 x = (zp6 (zp5 (zp4 (zp3 (zp2 (zp1 x)))))).toInt32 &&& (Int8.ofInt 127).toInt32 := rfl
  rw [e, zn7, n6, F.2, sw_tot]
