/-! LOOKS with their very answers: chords to come -/
/-- the chord behind an hour with the k-th flies (0: none) -/
def gch (a : gX) (k : Int) : Int := gsit (gpass (k - 1) a.1)
def gnw (a : gX) (k : Int) : Nat → Bool
  | 0 => true
  | q + 1 => gnw a k q && decide (gch a q ≠ gch a k)
def gnc (a : gX) : Nat → Int
  | 0 => 0
  | m + 1 => gnc a m + (if gnw a m m = true then 1 else 0)
theorem gnw_iff {a : gX} {k : Int} : ∀ m : Nat, gnw a k m = true ↔ ∀ q : Nat, q < m → gch a q ≠ gch a k
  | 0 => ⟨fun _ q h => by omega, fun _ => rfl⟩
  | m + 1 => by
    unfold gnw
    rw [Bool.and_eq_true, gnw_iff m, decide_eq_true_eq]
    constructor
    · rintro ⟨h1, h2⟩ q hq
      by_cases e : q = m
      · rw [e]; exact h2
      · exact h1 q (by omega)
    · intro h
      exact ⟨fun q hq => h q (by omega), h m (by omega)⟩
theorem gnc_b {a : gX} : ∀ m : Nat, 0 ≤ gnc a m ∧ gnc a m ≤ m
  | 0 => ⟨Int.le_refl _, Int.le_refl _⟩
  | m + 1 => by
    have := gnc_b (a := a) m
    unfold gnc
    split <;> omega
def vChord (a : gX) (x1 : Int) : Int := if x1 = 0 then gsit a.1 else gnc a (a.1.2.1 + 1).toNat
theorem gch_b {a : gX} (wx : WX a) {k : Int} (hk : 0 ≤ k ∧ k ≤ a.1.2.1) : 0 ≤ gch a k ∧ gch a k < 64 := gsit_v (gpass_w wx (by omega))
theorem lone_aux : ∀ k : Nat, k < 64 → ∀ i : Nat, i < 64 → ((1 : Int64) <<< ((Int32.ofInt (k : Int)).toInt64 &&& 63)).toBitVec.getLsbD i = decide (i = k) := by decide +kernel
theorem lone {k : Int} (h : 0 ≤ k ∧ k < 64) (i : Nat) : ((1 : Int64) <<< ((Int32.ofInt k).toInt64 &&& 63)).toBitVec.getLsbD i = decide ((i : Int) = k) := by
  by_cases hi : i < 64
  · have := lone_aux k.toNat (by omega) i hi
    rw [show ((k.toNat : Nat) : Int) = k by omega] at this
    rw [this]
    exact decide_eq_decide.mpr (by omega)
  · rw [BitVec.getLsbD_of_ge _ _ (by omega), decide_eq_false (by omega)]
theorem ncnt_in {x y v : Nat} (h : ∀ i, y.testBit i = (x.testBit i || decide (i = v))) : ∀ m : Nat, ncnt y m = ncnt x m + (if v < m then (if x.testBit v = true then 0 else 1) else 0)
  | 0 => by
    rw [if_neg (by omega)]
    rfl
  | m + 1 => by
    have ih := ncnt_in h m
    have e1 : ncnt y (m + 1) = ncnt y m + (if y.testBit m = true then 1 else 0) := rfl
    have e2 : ncnt x (m + 1) = ncnt x m + (if x.testBit m = true then 1 else 0) := rfl
    rw [e1, e2, ih, h m]
    by_cases c : m = v
    · subst c
      rw [if_neg (show ¬ m < m by omega), if_pos (show m < m + 1 by omega), decide_eq_true rfl]
      cases x.testBit m <;> simp
    · rw [decide_eq_false c, Bool.or_false]
      by_cases c2 : v < m
      · rw [if_pos c2, if_pos (show v < m + 1 by omega)]
        omega
      · rw [if_neg c2, if_neg (show ¬ v < m + 1 by omega)]
        omega
/-- the set of the first k chords, as a long -/
def lset (a : gX) (c : Int64) (k : Nat) : Prop := (∀ i : Nat, c.toBitVec.getLsbD i = true ↔ ∃ q : Nat, q < k ∧ gch a q = i) ∧ (ncnt c.toBitVec.toNat 64 : Nat) = gnc a k
theorem lset_0 {a : gX} : lset a 0 0 := ⟨fun i => by
  constructor
  · intro h
    have : (0#64).getLsbD i = true := h
    rw [BitVec.getLsbD_zero] at this
    exact absurd this (by decide)
  · rintro ⟨q, h, _⟩; omega, by show ((ncnt (0#64).toNat 64 : Nat) : Int) = 0; decide +kernel⟩
theorem lset_s {a : gX} {c : Int64} {k : Nat} (wx : WX a) (hk : (k : Int) ≤ a.1.2.1) (h : lset a c k) : lset a (c ||| 1 <<< ((Int32.ofInt (gch a k)).toInt64 &&& 63)) (k + 1) := by
  have gb := gch_b wx (k := k) (by omega)
  have or : ∀ i, (c ||| 1 <<< ((Int32.ofInt (gch a k)).toInt64 &&& 63)).toBitVec.getLsbD i = (c.toBitVec.getLsbD i || decide ((i : Int) = gch a k)) := fun i => by
    show (c.toBitVec ||| ((1 : Int64) <<< ((Int32.ofInt (gch a k)).toInt64 &&& 63)).toBitVec).getLsbD i = _
    rw [BitVec.getLsbD_or, lone gb]
  refine ⟨fun i => ?_, ?_⟩
  · rw [or, Bool.or_eq_true, h.1 i, decide_eq_true_eq]
    constructor
    · rintro (⟨q, h1, h2⟩ | h1)
      · exact ⟨q, by omega, h2⟩
      · exact ⟨k, by omega, h1.symm⟩
    · rintro ⟨q, h1, h2⟩
      by_cases e : q = k
      · rw [e] at h2; exact Or.inr h2.symm
      · exact Or.inl ⟨q, by omega, h2⟩
  · have ni := ncnt_in (x := c.toBitVec.toNat) (y := (c ||| 1 <<< ((Int32.ofInt (gch a k)).toInt64 &&& 63)).toBitVec.toNat) (v := (gch a k).toNat) (fun i => by
      have := or i
      rw [show decide ((i : Int) = gch a k) = decide (i = (gch a k).toNat) from decide_eq_decide.mpr (by omega)] at this
      exact this) 64
    rw [if_pos (by omega)] at ni
    have st : gnc a (k + 1) = gnc a k + (if gnw a k k = true then 1 else 0) := rfl
    rw [ni, st, ← h.2]
    have hb := h.1 (gch a k).toNat
    have e : c.toBitVec.toNat.testBit (gch a k).toNat = c.toBitVec.getLsbD (gch a k).toNat := rfl
    rw [e]
    have tn : (((gch a k).toNat : Nat) : Int) = gch a k := by omega
    rw [tn] at hb
    by_cases c1 : gnw a k k = true
    · rw [if_pos c1]
      have n := (gnw_iff k).mp c1
      have : ¬ c.toBitVec.getLsbD (gch a k).toNat = true := fun x => by
        obtain ⟨q, h1, h2⟩ := hb.mp x
        exact n q h1 h2
      rw [if_neg this]
      omega
    · rw [if_neg c1]
      have : c.toBitVec.getLsbD (gch a k).toNat = true := by
        by_cases x : c.toBitVec.getLsbD (gch a k).toNat = true
        · exact x
        · exact absurd ((gnw_iff k).mpr fun q hq e => x (hb.mpr ⟨q, hq, e⟩)) c1
      rw [if_pos this]
      omega
section
variable {d : Nat} {Z Z1 Z2 : zM} {a : gX} {s : gS} {i : Int}
theorem F_nextChords {Q : Int → zM → Prop} (A : CX Z a) (wx : WX a) (hQ : ∀ Z', frs SQ Z Z' → Q (gnc a (a.1.2.1 + 1).toNat) Z') : TI (d + 5) 119 [.inr 0] Z Q := by
  have hW : 5 ≤ a.1.2.1 ∧ a.1.2.1 ≤ 6 := wx.1.1.2.1
  show TW (d + 5) 119 0 [some (.ref 0), none, none, none] [] Z (zri Q)
  refine TW.pure (op := 17) (x := 0) (b := 0) (L' := [some (.ref 0), none, none, none]) (st' := [.long 0]) rfl rfl ?_
  refine TW.pure (op := 19) (x := 1) (b := 0) (L' := [some (.ref 0), some (.long 0), none, none]) (st' := []) rfl rfl ?_
  refine TW.pure (op := 0) (x := 0) (b := -1) (L' := [some (.ref 0), some (.long 0), none, none]) (st' := [.int (Int32.ofInt (-1))]) rfl rfl ?_
  refine TW.pure (op := 7) (x := 3) (b := 0) (L' := [some (.ref 0), some (.long 0), none, some (.int (Int32.ofInt (-1)))]) (st' := []) rfl rfl ?_
  suffices H : ∀ (f k : Nat) (c : Int64) (x : Int) (Z1 : zM), x = (k : Int) - 1 → f = (a.1.2.1 + 1).toNat - k → k ≤ (a.1.2.1 + 1).toNat → lset a c k → frs SQ Z Z1 → TW (d + 5) 119 4 [some (.ref 0), some (.long c), none, some (.int (Int32.ofInt x))] [] Z1 (zri Q) from H _ 0 0 (-1) Z rfl rfl (by omega) lset_0 (frs.refl _ _)
  intro f
  induction f with
  | zero =>
    intro k c x Z1 ex y1 y2 ls f1
    have e6 : Z1 1 6 = a.1.2.1 := (now6 A f1).1
    refine TW.pure (op := 3) (x := 3) (b := 0) (L' := [some (.ref 0), some (.long c), none, some (.int (Int32.ofInt x))]) (st' := [.int (Int32.ofInt x)]) rfl rfl ?_
    refine TW.pure (op := 5) (x := 0) (b := 0) (L' := [some (.ref 0), some (.long c), none, some (.int (Int32.ofInt x))]) (st' := [.ref 0, .int (Int32.ofInt x)]) rfl rfl ?_
    refine TW.mem (op := 0) (x := 50) (b := 0) (st' := [.ref 1, .int (Int32.ofInt x)]) rfl rfl ?_
    refine TW.mem (op := 0) (x := 69) (b := 0) (st' := [.int (Int32.ofInt (Z1 1 6)), .int (Int32.ofInt x)]) rfl rfl ?_
    rw [e6]
    have hc : mcmp 3 (Int32.ofInt x) (Int32.ofInt a.1.2.1) = true := (zc_ok (a := 3) (by unfold zR; omega) (by unfold zR; omega)).mpr (show a.1.2.1 ≤ x by omega)
    refine TW.jump (op := 1) (x := 3) (b := 22) (t := 34) (st' := []) rfl (by show some (if mcmp 3 (Int32.ofInt x) (Int32.ofInt a.1.2.1) = true then 34 else 15, ([] : List Value)) = _; rw [if_pos hc]) ?_
    refine TW.pure (op := 18) (x := 1) (b := 0) (L' := [some (.ref 0), some (.long c), none, some (.int (Int32.ofInt x))]) (st' := [.long c]) rfl rfl ?_
    have hr := bitJ2 (d := d + 4) c (zm Z1)
    have ev : (zpop64 c).toInt = gnc a (a.1.2.1 + 1).toNat := by rw [zpop64_n, ls.2, show (a.1.2.1 + 1).toNat = k by omega]
    refine ⟨some (.inl (zpop64 c).toInt), Z1, ?_, (zpop64 c).toInt, rfl, by rw [ev]; exact hQ _ f1⟩
    exact EvS.call (op := 1) (a := 30) (bb := 0) (y' := 6) (As := [.long c]) (rest := []) rfl rfl hr (EvS.ret (op := 0) (a := 0) (bb := 0) rfl (by show mret 0 119 [.int (zpop64 c)] = some _; rw [show mret 0 119 [.int (zpop64 c)] = some (some (.int (zpop64 c))) from rfl]; show _ = some (some (Value.int (Int32.ofInt (zpop64 c).toInt))); rw [zio]))
  | succ f ih =>
    intro k c x Z1 ex y1 y2 ls f1
    have e6 : Z1 1 6 = a.1.2.1 := (now6 A f1).1
    refine TW.pure (op := 3) (x := 3) (b := 0) (L' := [some (.ref 0), some (.long c), none, some (.int (Int32.ofInt x))]) (st' := [.int (Int32.ofInt x)]) rfl rfl ?_
    refine TW.pure (op := 5) (x := 0) (b := 0) (L' := [some (.ref 0), some (.long c), none, some (.int (Int32.ofInt x))]) (st' := [.ref 0, .int (Int32.ofInt x)]) rfl rfl ?_
    refine TW.mem (op := 0) (x := 50) (b := 0) (st' := [.ref 1, .int (Int32.ofInt x)]) rfl rfl ?_
    refine TW.mem (op := 0) (x := 69) (b := 0) (st' := [.int (Int32.ofInt (Z1 1 6)), .int (Int32.ofInt x)]) rfl rfl ?_
    rw [e6]
    have hx : ¬ a.1.2.1 ≤ x := by omega
    have hc : ¬ mcmp 3 (Int32.ofInt x) (Int32.ofInt a.1.2.1) = true := fun y => hx ((zc_ok (a := 3) (by unfold zR; omega) (by unfold zR; omega)).mp y)
    refine TW.jump (op := 1) (x := 3) (b := 22) (t := 15) (st' := []) rfl (by show some (if mcmp 3 (Int32.ofInt x) (Int32.ofInt a.1.2.1) = true then 34 else 15, ([] : List Value)) = _; rw [if_neg hc]) ?_
    refine TW.pure (op := 18) (x := 1) (b := 0) (L' := [some (.ref 0), some (.long c), none, some (.int (Int32.ofInt x))]) (st' := [.long c]) rfl rfl ?_
    refine TW.pure (op := 17) (x := 1) (b := 0) (L' := [some (.ref 0), some (.long c), none, some (.int (Int32.ofInt x))]) (st' := [.long 1, .long c]) rfl rfl ?_
    refine TW.pure (op := 5) (x := 0) (b := 0) (L' := [some (.ref 0), some (.long c), none, some (.int (Int32.ofInt x))]) (st' := [.ref 0, .long 1, .long c]) rfl rfl ?_
    refine TW.pure (op := 3) (x := 3) (b := 0) (L' := [some (.ref 0), some (.long c), none, some (.int (Int32.ofInt x))]) (st' := [.int (Int32.ofInt x), .ref 0, .long 1, .long c]) rfl rfl ?_
    refine TW.call (op := 0) (x := 66) (b := 0) (y' := 116) (As := [.inr 0, .inl x]) (rest := [.long 1, .long c]) rfl rfl ?_
    have h1 : TR (d + 4) 116 [.inr 0, .inl x] Z1 (fun r Z2 => r = 19 ∧ MF Z Z2 (gpass x a.1)) := F_fed A wx f1 (by omega) fun Z2 m _ => ⟨rfl, m⟩
    refine TZ.mono h1 fun r Z2 hr => ?_
    obtain ⟨j, ej, hj, m⟩ := hr
    subst ej; subst hj
    show TW (d + 5) 119 22 _ [.ref 19, .long 1, .long c] Z2 (zri Q)
    refine TW.call (op := 0) (x := 67) (b := 0) (y' := 24) (As := [.inr 19]) (rest := [.long 1, .long c]) rfl rfl ?_
    have h2 : TI (d + 4) 24 [.inr 19] Z2 (fun r Z3 => r = gch a k ∧ Z3 = Z2) := F_chord m (gpass_w wx (by omega)) ⟨by unfold gch; rw [← ex], rfl⟩
    refine TZ.mono h2 fun r Z3 hr => ?_
    obtain ⟨v, ev, hv, hz⟩ := hr
    subst ev; subst hv; subst hz
    show TW (d + 5) 119 25 _ [.int (Int32.ofInt (gch a k)), .long 1, .long c] Z3 (zri Q)
    refine TW.pure (op := 21) (x := 0) (b := 0) (L' := [some (.ref 0), some (.long c), none, some (.int (Int32.ofInt x))]) (st' := [.long (1 <<< ((Int32.ofInt (gch a k)).toInt64 &&& 63)), .long c]) rfl rfl ?_
    refine TW.pure (op := 20) (x := 0) (b := 0) (L' := [some (.ref 0), some (.long c), none, some (.int (Int32.ofInt x))]) (st' := [.long (c ||| 1 <<< ((Int32.ofInt (gch a k)).toInt64 &&& 63))]) rfl rfl ?_
    refine TW.pure (op := 19) (x := 1) (b := 0) (L' := [some (.ref 0), some (.long (c ||| 1 <<< ((Int32.ofInt (gch a k)).toInt64 &&& 63))), none, some (.int (Int32.ofInt x))]) (st' := []) rfl rfl ?_
    refine TW.pure (op := 11) (x := 3) (b := 1) (L' := [some (.ref 0), some (.long (c ||| 1 <<< ((Int32.ofInt (gch a k)).toInt64 &&& 63))), none, some (.int (Int32.ofInt (x + 1)))]) (st' := []) rfl (by rw [Int32.ofInt_add]; rfl) ?_
    refine TW.jump (op := 2) (x := 0) (b := -27) (t := 4) (st' := []) rfl rfl ?_
    exact ih (k + 1) _ (x + 1) Z3 (by omega) (by omega) (by omega) (lset_s wx (by omega) ls) m.1
theorem X_chord {x1 : Int} (A : CX Z a) (wx : WX a) (h1 : zR x1) : TI (d + 6) 118 [.inr 0, .inl x1] Z (PostC Z (oq a (gunk x1 1) (vChord a x1))) := by
  refine w118_0 (C_unknown h1 (by decide) ⟨zR9 gb2, fun c => ⟨h1, fun e => F_nextChords A wx fun Z' f => ?_, fun e => C_satOn (n := a.1.1) (W := a.1.2.1) (h := a.1.2.2.1) (K := a.1.2.2.2.1) (F := a.1.2.2.2.2.1) (P := a.1.2.2.2.2.2.1) (T := a.1.2.2.2.2.2.2) zF1 A.1 wx.1.1 ?_⟩, fun c => C_refuse (by have := @gb2 x1 1; omega) (PRq A c gb2)⟩)
  · have ok := PQ (v := vChord a x1) A c f
    unfold vChord at ok ⊢
    rw [if_neg e] at ok ⊢; exact ok
  · have ok := PQ (v := vChord a x1) A c (frs.refl SQ Z)
    unfold vChord at ok ⊢
    rw [if_pos (by omega)] at ok ⊢; exact ok
theorem G_238 {x1 : Int} {Q : Int → zM → Prop} (m : QS Z Z1 a) (wx : WX a) (h1 : -1 ≤ x1 ∧ x1 < a.1.2.1) (hQ : ∀ Z2, QS Z Z2 a → Q (gch a (x1 + 1)) Z2) : TI (d + 4) 238 [.inr 100, .inl x1] Z1 Q := by
  refine w238_0 (G_thinks m wx fun Z2 k s => G_passf k wx wx.1.1 h1 (by have := wx.1.2; omega) fun r Z3 k3 s3 => G_chord k3 (gpass_w wx h1) (G_forgets k3 wx fun Z4 l s4 => ?_))
  have := hQ Z4 l
  unfold gch at this
  rw [show x1 + 1 - 1 = x1 by omega] at this
  exact this
theorem Y_chord {x1 : Int} (A : RX Z a) (wx : WX a) (h1 : zR x1) : TI (d + 6) 239 [.inr 100, .inl x1] Z (PostR Z (oq a (gunk x1 1) (vChord a x1))) := by
  have m := QS.refl A
  have hW : 5 ≤ a.1.2.1 ∧ a.1.2.1 ≤ 6 := wx.1.1.2.1
  refine w239_0 (R_isIn h1 (by decide) (by decide) (fun i => ⟨by decide, fun _ => ⟨h1, fun e => w237_0 ?_, fun e => R_chord m.1.1 wx.1.1 ?_⟩, fun e => absurd (show (1 : Int) ≠ 0 by decide) e⟩) (fun i => ⟨by decide, fun e => absurd rfl e, fun _ => G_no m wx (gu2 i) (by decide)⟩))
  rotate_left
  · have ok := G_ok (v := vChord a x1) m (gunk_0.mpr i)
    unfold vChord at ok ⊢
    rw [if_pos (by omega)] at ok ⊢; exact ok
  suffices H : ∀ (f k : Nat) (x2 : Int) (o3 o4 : Option zV) (Z1 : zM), x2 = k → f = (a.1.2.1 + 1).toNat - k → k ≤ (a.1.2.1 + 1).toNat → QS Z Z1 a → TZ (d + 5) 237 4 [some (.inr 100), some (.inl (gnc a k)), some (.inl x2), o3, o4] [] Z1 (zri (PostR Z (oq a (gunk x1 1) (vChord a x1)))) from H _ 0 0 none none Z rfl rfl (by omega) m
  intro f
  induction f with
  | zero =>
    intro k x2 o3 o4 Z1 ex y1 y2 l
    have e6 := l.now.2.1
    refine w237_4 ⟨by unfold zR; omega, by unfold zR; omega, fun _ => ?_, fun y => absurd (show Z1 100 6 < x2 by omega) y⟩
    have ok := G_ok (v := vChord a x1) l (gunk_0.mpr i)
    unfold vChord at ok ⊢
    rw [if_neg e, show (a.1.2.1 + 1).toNat = k by omega] at ok ⊢; exact ok
  | succ f ih =>
    intro k x2 o3 o4 Z1 ex y1 y2 l
    have e6 := l.now.2.1
    refine w237_4 ⟨by unfold zR; omega, by unfold zR; omega, fun c => by omega, fun y => ?_⟩
    suffices H : ∀ (g q : Nat) (x4 : Int) (Z1 : zM), x4 = q → g = k - q → q ≤ k → QS Z Z1 a → TZ (d + 5) 237 17 [some (.inr 100), some (.inl (gnc a k)), some (.inl x2), some (.inl (if gnw a k q = true then 1 else 0)), some (.inl x4)] [] Z1 (zri (PostR Z (oq a (gunk x1 1) (vChord a x1)))) from H _ 0 0 Z1 rfl rfl (by omega) l
    intro g
    induction g with
    | zero =>
      intro q x4 Z1 eq z1 z2 l
      have ek : q = k := by omega
      subst ek
      have st : gnc a (q + 1) = gnc a q + (if gnw a q q = true then 1 else 0) := rfl
      refine w237_17 ⟨by unfold zR; omega, by unfold zR; omega, fun _ => ⟨zr01 _, fun c => ?_, fun c => ?_⟩, fun c => absurd (show x2 ≤ x4 by omega) c⟩
      · have := ih (q + 1) (x2 + 1) (some (.inl (if gnw a q q = true then 1 else 0))) (some (.inl x4)) Z1 (by omega) (by omega) (by omega) l
        rw [st, c] at this
        rw [c]; exact this
      · have := ih (q + 1) (x2 + 1) (some (.inl (if gnw a q q = true then 1 else 0))) (some (.inl x4)) Z1 (by omega) (by omega) (by omega) l
        have c1 : gnw a q q = true := by
          cases h : gnw a q q
          · rw [h] at c; exact absurd (by decide) c
          · rfl
        rw [st, if_pos c1] at this
        rw [if_pos c1]; exact this
    | succ g ihg =>
      intro q x4 Z1 eq z1 z2 l
      have b1 := gch_b wx (k := x4) (by omega)
      have b2 := gch_b wx (k := x2) (by omega)
      have st : gnw a k (q + 1) = (gnw a k q && decide (gch a q ≠ gch a k)) := rfl
      refine w237_17 ⟨by unfold zR; omega, by unfold zR; omega, fun c => by omega, fun _ => G_238 l wx (by omega) fun Z2 l2 => G_238 l2 wx (by omega) fun Z3 l3 => ?_⟩
      rw [show x4 - 1 + 1 = x4 by omega, show x2 - 1 + 1 = x2 by omega]
      refine ⟨by unfold zR; omega, by unfold zR; omega, fun c => ?_, fun c => ?_⟩
      · have := ihg (q + 1) (x4 + 1) Z3 (by omega) (by omega) (by omega) l3
        rw [eq, ex] at c
        rw [st, decide_eq_false (fun x => x c), Bool.and_false] at this
        cases h : gnw a k q <;> exact this
      · have := ihg (q + 1) (x4 + 1) Z3 (by omega) (by omega) (by omega) l3
        rw [eq, ex] at c
        rw [st, decide_eq_true c, Bool.and_true] at this
        cases h : gnw a k q
        · rw [h] at this; exact this
        · rw [h] at this; exact this
end

