/-! THE CHECKER OF SAFETY: a stretch of steps, up to the next cut or a return -/
def aGo (T : aTyL) (wok : Nat → Nat → Nat → Bool) (CS : List aCt) (D y : Nat) (hd : Nat → aSt → Option Bool) (rt : aSt → Option aAr → Bool) : Nat → Nat → aSt → Bool
  | 0, _, _ => false
  | n + 1, pc, A => match aStep T wok CS D y pc A with
    | none => false
    | some (.inr ro) => rt A ro
    | some (.inl l) => l.all (fun q => match hd q.1 q.2 with | some b => b | none => aGo T wok CS D y hd rt n q.1 q.2)
section
variable {T : aTyL} {wok : Nat → Nat → Nat → Bool} {G : Nat → mMem → Prop} {CS : List aCt}
theorem aGo_ok (hG : ∀ (fl k j : Nat) (x : Int32) (M : mMem), (wok fl k j = true ∨ wok fl k 999 = true) → G fl M → G fl (mup M k j x)) (hN : ∀ (fl ks kd sp dp n : Nat) (M : mMem), wok fl kd 999 = true → G fl M → G fl (mcpy M ks kd sp dp n)) (hCS : ∀ C ∈ CS, aCon T G C) {D d y : Nat} (hD : D ≤ d) {s0 : Nat → Int} {hd : Nat → aSt → Option Bool} {rt : aSt → Option aAr → Bool} : ∀ (n pc : Nat) (A : aSt) (L : List (Option Value)) (st : List Value) (M : mMem), aGo T wok CS D y hd rt n pc A = true → gA y s0 A L st M → aInv T M → G A.2.2.2 M →
    (∃ q, hd q.1 q.2 = some true ∧ aDo T G d y pc s0 L st M q) ∨ (∃ A' ro L' st' M', rt A' ro = true ∧ gA y s0 A' L' st' M' ∧ aEnd T G d y pc L st M A'.2.2.2 ro)
  | 0, _, _, _, _, _, h, _, _, _ => by cases h
  | n + 1, pc, A, L, st, M, h, hg, hI, hGh => by
    unfold aGo at h
    cases hs : aStep T wok CS D y pc A with
    | none => simp [hs] at h
    | some R =>
      rcases aStep_ok hG hN hCS hD hs hg hI hGh with ⟨l, e, q, hq, hdo⟩ | ⟨ro, e, he⟩
      · subst e
        simp only [hs] at h
        have h := List.all_eq_true.mp h q hq
        cases hh : hd q.1 q.2 with
        | some b =>
          simp only [hh] at h
          subst h
          exact Or.inl ⟨q, hh, hdo⟩
        | none =>
          simp only [hh] at h
          obtain ⟨L1, st1, M1, g1, i1, G1, hx⟩ := hdo
          rcases aGo_ok hG hN hCS hD n q.1 q.2 L1 st1 M1 h g1 i1 G1 with ⟨q2, h2, L2, st2, M2, g2, i2, G2, hx2⟩ | ⟨A', ro, L', st', M', hr, g2, r, M2, a1, a2, a3, a4⟩
          · exact Or.inl ⟨q2, h2, L2, st2, M2, g2, i2, G2, fun x h => hx x (hx2 x h)⟩
          · exact Or.inr ⟨A', ro, L', st', M', hr, g2, r, M2, a1, a2, a3, hx _ a4⟩
      · subst e
        simp only [hs] at h
        exact Or.inr ⟨A, ro, L, st, M, h, hg, he⟩
end
/-! MEASURES: a cut has a list of parts; each is a number, a local that grows or a local that falls -/
/-- (0, n): the number n; (1, j): local j grows; (2, j): local j falls -/
abbrev aMc : Type := Nat × Nat
def aMv (s : Nat → Int) (c : aMc) : Nat := match c.1 with
  | 0 => if c.2 < 2 ^ 32 then c.2 else 0
  | 1 => if -2147483648 ≤ s c.2 ∧ s c.2 ≤ 2147483647 then (2147483647 - s c.2).toNat else 0
  | _ => if -2147483648 ≤ s c.2 ∧ s c.2 ≤ 2147483647 then (s c.2 + 2147483648).toNat else 0
theorem aMv_lt (s : Nat → Int) (c : aMc) : aMv s c < 2 ^ 32 := by
  unfold aMv
  split
  · split <;> omega
  · split <;> omega
  · split <;> omega
def aMu (s : Nat → Int) : List aMc → Nat
  | [] => 0
  | c :: cs => aMv s c * (2 ^ 32) ^ cs.length + aMu s cs
theorem aMu_lt (s : Nat → Int) : ∀ cs : List aMc, aMu s cs < (2 ^ 32) ^ cs.length
  | [] => by simp [aMu]
  | c :: cs => by
    have h1 := aMu_lt s cs
    have h2 := aMv_lt s c
    have h3 : (aMv s c + 1) * (2 ^ 32) ^ cs.length ≤ 2 ^ 32 * (2 ^ 32) ^ cs.length := Nat.mul_le_mul_right _ h2
    rw [Nat.add_mul, Nat.one_mul] at h3
    have h4 : (2 ^ 32) ^ (c :: cs).length = 2 ^ 32 * (2 ^ 32) ^ cs.length := by rw [List.length_cons, Nat.pow_succ, Nat.mul_comm]
    show aMv s c * (2 ^ 32) ^ cs.length + aMu s cs < _
    omega
/-- lexicographically smaller, read off the tags of the locals on arrival -/
def aLess (A : List (Option aV)) : List aMc → List aMc → Bool
  | (0, n) :: cs, (0, m) :: ds => decide (n < 2 ^ 32) && decide (cs.length = ds.length) && (decide (m < n) || (decide (m = n) && aLess A cs ds))
  | (1, j) :: cs, (1, i) :: ds => decide (cs.length = ds.length) && (match A[i]? with
    | some (some (.inr (_, _, some (k, a, _)))) => decide (k = j) && (decide (1 ≤ a) || (decide (0 ≤ a) && aLess A cs ds))
    | _ => false)
  | (2, j) :: cs, (2, i) :: ds => decide (cs.length = ds.length) && (match A[i]? with
    | some (some (.inr (_, _, some (k, _, b)))) => decide (k = j) && (decide (b ≤ -1) || (decide (b ≤ 0) && aLess A cs ds))
    | _ => false)
  | _, _ => false
def aVal (L : List (Option Value)) (j : Nat) : Int := match mget L j with | some (.int x) => x.toInt | _ => 0
theorem aLex {P c d m n : Nat} (hn : n < P) (h : d < c ∨ (d ≤ c ∧ n < m)) : d * P + n < c * P + m := by
  rcases h with h | ⟨h1, h2⟩
  · have := Nat.mul_le_mul_right P h
    rw [Nat.succ_mul] at this
    omega
  · have := Nat.mul_le_mul_right P h1
    omega
theorem aLess_ok {s0 : Nat → Int} {A : List (Option aV)} {L : List (Option Value)} {M : mMem} (hb : ∀ j, -2147483648 ≤ s0 j ∧ s0 j ≤ 2147483647) (hg : gL s0 L M A) : ∀ (cs ds : List aMc), aLess A cs ds = true → aMu (aVal L) ds < aMu s0 cs
  | [], _, h => by simp [aLess] at h
  | (0, n) :: cs, [], h => by simp [aLess] at h
  | (1, n) :: cs, [], h => by simp [aLess] at h
  | (2, n) :: cs, [], h => by simp [aLess] at h
  | (n + 3, _) :: cs, _, h => by simp [aLess] at h
  | (0, n) :: cs, (0, m) :: ds, h => by
    simp only [aLess, Bool.and_eq_true, Bool.or_eq_true, decide_eq_true_eq] at h
    obtain ⟨⟨h1, h2⟩, h3⟩ := h
    show aMv _ _ * _ + _ < aMv _ _ * _ + _
    rw [h2]
    refine aLex (aMu_lt _ _) ?_
    have e1 : aMv s0 (0, n) = n := if_pos h1
    rcases h3 with h3 | ⟨h3, h4⟩
    · left
      have e2 : aMv (aVal L) (0, m) = m := if_pos (by omega)
      omega
    · right
      subst h3
      have e2 : aMv (aVal L) (0, m) = m := if_pos h1
      exact ⟨by omega, aLess_ok hb hg cs ds h4⟩
  | (1, j) :: cs, (1, i) :: ds, h => by
    simp only [aLess, Bool.and_eq_true, decide_eq_true_eq] at h
    obtain ⟨h2, h3⟩ := h
    split at h3
    · next iv o k a b hA =>
      simp only [Bool.and_eq_true, Bool.or_eq_true, decide_eq_true_eq] at h3
      obtain ⟨h4, h5⟩ := h3
      subst h4
      obtain ⟨v, hv, x, e, _, _, ht⟩ := hg _ _ hA
      subst e
      have ev : aVal L i = x.toInt := by unfold aVal; rw [hv]
      have hx1 := x.le_toInt
      have hx2 := x.toInt_lt
      have hk := hb k
      have ht1 : s0 k + a ≤ x.toInt := ht.1
      show aMv _ _ * _ + _ < aMv _ _ * _ + _
      rw [h2]
      refine aLex (aMu_lt _ _) ?_
      have e1 : aMv s0 (1, k) = (2147483647 - s0 k).toNat := if_pos hk
      have e2 : aMv (aVal L) (1, i) = (2147483647 - x.toInt).toNat := by
        show (if _ then _ else _) = _
        rw [ev]; exact if_pos (by omega)
      rw [e1, e2]
      rcases h5 with h5 | ⟨h5, h6⟩
      · left; omega
      · right; exact ⟨by omega, aLess_ok hb hg cs ds h6⟩
    · cases h3
  | (2, j) :: cs, (2, i) :: ds, h => by
    simp only [aLess, Bool.and_eq_true, decide_eq_true_eq] at h
    obtain ⟨h2, h3⟩ := h
    split at h3
    · next iv o k a b hA =>
      simp only [Bool.and_eq_true, Bool.or_eq_true, decide_eq_true_eq] at h3
      obtain ⟨h4, h5⟩ := h3
      subst h4
      obtain ⟨v, hv, x, e, _, _, ht⟩ := hg _ _ hA
      subst e
      have ev : aVal L i = x.toInt := by unfold aVal; rw [hv]
      have hx1 := x.le_toInt
      have hx2 := x.toInt_lt
      have hk := hb k
      have ht1 : x.toInt ≤ s0 k + b := ht.2
      show aMv _ _ * _ + _ < aMv _ _ * _ + _
      rw [h2]
      refine aLex (aMu_lt _ _) ?_
      have e1 : aMv s0 (2, k) = (s0 k + 2147483648).toNat := if_pos hk
      have e2 : aMv (aVal L) (2, i) = (x.toInt + 2147483648).toNat := by
        show (if _ then _ else _) = _
        rw [ev]; exact if_pos (by omega)
      rw [e1, e2]
      rcases h5 with h5 | ⟨h5, h6⟩
      · left; omega
      · right; exact ⟨by omega, aLess_ok hb hg cs ds h6⟩
    · cases h3
  | (0, _) :: _, (_ + 1, _) :: _, h => by simp [aLess] at h
  | (1, _) :: _, (0, _) :: _, h => by simp [aLess] at h
  | (1, _) :: _, (_ + 2, _) :: _, h => by simp [aLess] at h
  | (2, _) :: _, (0, _) :: _, h => by simp [aLess] at h
  | (2, _) :: _, (1, _) :: _, h => by simp [aLess] at h
  | (2, _) :: _, (_ + 3, _) :: _, h => by simp [aLess] at h
