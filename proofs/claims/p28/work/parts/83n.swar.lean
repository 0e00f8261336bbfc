/-! how many bits of a long -/
def ncnt (x : Nat) : Nat → Nat
  | 0 => 0
  | m + 1 => ncnt x m + (if x.testBit m = true then 1 else 0)
theorem ncnt_congr {x y : Nat} : ∀ m : Nat, (∀ i, i < m → x.testBit i = y.testBit i) → ncnt x m = ncnt y m
  | 0, _ => rfl
  | m + 1, h => by
    unfold ncnt
    rw [ncnt_congr m (fun i hi => h i (by omega)), h m (by omega)]
theorem ncnt_8 (x : Nat) : ∀ m : Nat, ncnt x (8 + m) = ncnt (x % 256) 8 + ncnt (x / 256) m
  | 0 => by
    show ncnt x 8 = ncnt (x % 256) 8 + 0
    rw [Nat.add_zero]
    refine ncnt_congr 8 fun i hi => ?_
    rw [show (256 : Nat) = 2 ^ 8 from rfl, Nat.testBit_mod_two_pow, decide_eq_true hi, Bool.true_and]
  | m + 1 => by
    have e : ncnt x (8 + (m + 1)) = ncnt x (8 + m) + (if x.testBit (8 + m) = true then 1 else 0) := rfl
    have e2 : ncnt (x / 256) (m + 1) = ncnt (x / 256) m + (if (x / 256).testBit m = true then 1 else 0) := rfl
    rw [e, e2, ncnt_8 x m, show (256 : Nat) = 2 ^ 8 from rfl, Nat.testBit_div_two_pow, Nat.add_comm m 8, Nat.add_assoc]
def swm (c : Nat) : Nat → Nat
  | 0 => 0
  | n + 1 => c + 256 * swm c n
def swB (g : Nat → Nat) : Nat → Nat → Nat
  | 0, _ => 0
  | n + 1, x => g (x % 256) + 256 * swB g n (x / 256)
def sw1 (a : Nat) : Nat := a - ((a / 2) &&& 85)
def sw2 (a : Nat) : Nat := (sw1 a &&& 51) + ((sw1 a / 4) &&& 51)
def sw3 (a : Nat) : Nat := (sw2 a + sw2 a / 16) &&& 15
theorem sw_and (a r c m : Nat) (ha : a < 256) (hc : c < 256) : (a + 256 * r) &&& (c + 256 * m) = (a &&& c) + 256 * (r &&& m) := by
  have h1 : ((a + 256 * r) &&& (c + 256 * m)) % 2 ^ 8 = (a &&& c) := by
    rw [Nat.and_mod_two_pow, show (a + 256 * r) % 2 ^ 8 = a by omega, show (c + 256 * m) % 2 ^ 8 = c by omega]
  have h2 : ((a + 256 * r) &&& (c + 256 * m)) / 2 ^ 8 = (r &&& m) := by
    rw [Nat.and_div_two_pow, show (a + 256 * r) / 2 ^ 8 = r by omega, show (c + 256 * m) / 2 ^ 8 = m by omega]
  omega
theorem sw_d1 : ∀ a : Nat, a < 256 → ∀ e : Nat, e < 2 → ((a / 2 + 128 * e) &&& 85) = ((a / 2) &&& 85) := by decide +kernel
theorem sw_d2 : ∀ a : Nat, a < 256 → ∀ e : Nat, e < 4 → ((a / 4 + 64 * e) &&& 51) = ((a / 4) &&& 51) := by decide +kernel
theorem sw_v : ∀ a : Nat, a < 256 → sw1 a < 256 ∧ ((a / 2) &&& 85) ≤ a ∧ (sw2 a) % 16 ≤ 4 ∧ sw2 a / 16 ≤ 4 ∧ sw3 a = ncnt a 8 ∧ sw3 a ≤ 8 := by decide +kernel
theorem sw_d3 : ∀ p : Nat, p < 17 → ∀ q : Nat, q < 17 → (p + 16 * q) &&& 15 = p % 16 := by decide +kernel
theorem swB_1 : ∀ (n x : Nat), x < 256 ^ n → x - ((x / 2) &&& swm 85 n) = swB sw1 n x ∧ ((x / 2) &&& swm 85 n) ≤ x
  | 0, x, h => by
    have : x = 0 := by omega
    subst this
    exact ⟨rfl, Nat.zero_le _⟩
  | n + 1, x, h => by
    have hr : x / 256 < 256 ^ n := by
      rw [Nat.pow_succ] at h
      exact Nat.div_lt_of_lt_mul (by omega)
    obtain ⟨i1, i2⟩ := swB_1 n (x / 256) hr
    have ha : x % 256 < 256 := Nat.mod_lt _ (by decide)
    have v := sw_v _ ha
    have e1 : x / 2 = (x % 256 / 2 + 128 * (x / 256 % 2)) + 256 * (x / 256 / 2) := by omega
    have d1 := sw_d1 _ ha (x / 256 % 2) (by omega)
    have e2 : (x / 2) &&& swm 85 (n + 1) = ((x % 256 / 2) &&& 85) + 256 * ((x / 256 / 2) &&& swm 85 n) := by
      show (x / 2) &&& (85 + 256 * swm 85 n) = _
      rw [e1, sw_and _ _ _ _ (by omega) (by decide), d1]
    rw [e2]
    have s1 : sw1 (x % 256) = x % 256 - ((x % 256 / 2) &&& 85) := rfl
    have s2 : swB sw1 (n + 1) x = sw1 (x % 256) + 256 * swB sw1 n (x / 256) := rfl
    rw [s2, s1, ← i1]
    have vv := v.2.1
    omega
theorem swB_2 : ∀ (n x : Nat), (swB sw1 n x &&& swm 51 n) + ((swB sw1 n x / 4) &&& swm 51 n) = swB sw2 n x
  | 0, x => by
    show ((0 : Nat) &&& 0) + ((0 / 4) &&& 0) = 0
    decide
  | n + 1, x => by
    have ih := swB_2 n (x / 256)
    have ha : x % 256 < 256 := Nat.mod_lt _ (by decide)
    have v := sw_v _ ha
    have s1 : swB sw1 (n + 1) x = sw1 (x % 256) + 256 * swB sw1 n (x / 256) := rfl
    have s2 : swB sw2 (n + 1) x = sw2 (x % 256) + 256 * swB sw2 n (x / 256) := rfl
    have sm : swm 51 (n + 1) = 51 + 256 * swm 51 n := rfl
    have d2 := sw_d2 _ v.1 (swB sw1 n (x / 256) % 4) (by omega)
    have e1 : (sw1 (x % 256) + 256 * swB sw1 n (x / 256)) / 4 = (sw1 (x % 256) / 4 + 64 * (swB sw1 n (x / 256) % 4)) + 256 * (swB sw1 n (x / 256) / 4) := by omega
    have v1 := v.1
    rw [s1, s2, sm, e1, sw_and _ _ _ _ v1 (by decide), sw_and _ _ _ _ (by omega) (by decide), d2, ← ih]
    show _ = ((sw1 (x % 256) &&& 51) + ((sw1 (x % 256) / 4) &&& 51)) + _
    omega
theorem swB_3 : ∀ (n x : Nat), (swB sw2 n x + swB sw2 n x / 16) &&& swm 15 n = swB sw3 n x ∧ swB sw2 n x % 16 ≤ 4
  | 0, x => ⟨by show ((0 : Nat) + 0 / 16) &&& 0 = 0; decide, by show (0 : Nat) % 16 ≤ 4; decide⟩
  | n + 1, x => by
    obtain ⟨ih, ib⟩ := swB_3 n (x / 256)
    have ha : x % 256 < 256 := Nat.mod_lt _ (by decide)
    have v := sw_v _ ha
    have v3 := v.2.2.1
    have v4 := v.2.2.2.1
    have s2 : swB sw2 (n + 1) x = sw2 (x % 256) + 256 * swB sw2 n (x / 256) := rfl
    have s3 : swB sw3 (n + 1) x = sw3 (x % 256) + 256 * swB sw3 n (x / 256) := rfl
    have sm : swm 15 (n + 1) = 15 + 256 * swm 15 n := rfl
    have e1 : (sw2 (x % 256) + 256 * swB sw2 n (x / 256)) + (sw2 (x % 256) + 256 * swB sw2 n (x / 256)) / 16 = (sw2 (x % 256) + sw2 (x % 256) / 16 + 16 * (swB sw2 n (x / 256) % 16)) + 256 * (swB sw2 n (x / 256) + swB sw2 n (x / 256) / 16) := by omega
    have d3 := sw_d3 (sw2 (x % 256) % 16 + sw2 (x % 256) / 16) (by omega) (sw2 (x % 256) / 16 + swB sw2 n (x / 256) % 16) (by omega)
    have d4 := sw_d3 (sw2 (x % 256) % 16 + sw2 (x % 256) / 16) (by omega) (sw2 (x % 256) / 16) (by omega)
    have q1 : sw2 (x % 256) + sw2 (x % 256) / 16 + 16 * (swB sw2 n (x / 256) % 16) = sw2 (x % 256) % 16 + sw2 (x % 256) / 16 + 16 * (sw2 (x % 256) / 16 + swB sw2 n (x / 256) % 16) := by omega
    have q2 : sw2 (x % 256) + sw2 (x % 256) / 16 = sw2 (x % 256) % 16 + sw2 (x % 256) / 16 + 16 * (sw2 (x % 256) / 16) := by omega
    refine ⟨?_, by rw [s2]; omega⟩
    rw [s2, s3, sm, e1, sw_and _ _ _ _ (by omega) (by decide), ih]
    have s3' : sw3 (x % 256) = (sw2 (x % 256) + sw2 (x % 256) / 16) &&& 15 := rfl
    rw [s3', q1, d3]
    rw [q2, d4]
