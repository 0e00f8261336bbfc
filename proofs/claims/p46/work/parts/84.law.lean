/-! THE LAW's steps -/
def TL (L : Nat) (xs : Nat → Int32) (d pc : Nat) (n : Int) (st : List zV) (Z : zM) : Prop := ∃ M', EvS d (some (L, xs)) 274 pc (mL18 (Int32.ofInt n)) (zS st) (zm Z) (some (.int 1), M')
section
variable {L : Nat} {xs : Nat → Int32} {d pc : Nat} {n : Int} {st : List zV} {Z : zM}
theorem TL.x (hI : mI 274 pc = some (0, 5, 1, 0)) (h : TL L xs d (pc + 1) n (.inr 0 :: st) Z) : TL L xs d pc n st Z := by
  obtain ⟨M', h⟩ := h
  exact ⟨M', EvS.pure (op := 5) (a := 1) (bb := 0) hI rfl h⟩
theorem TL.m (hI : mI 274 pc = some (0, 5, 2, 0)) (h : TL L xs d (pc + 1) n (.inr 100 :: st) Z) : TL L xs d pc n st Z := by
  obtain ⟨M', h⟩ := h
  exact ⟨M', EvS.pure (op := 5) (a := 2) (bb := 0) hI rfl h⟩
theorem TL.pop {v : zV} (hI : mI 274 pc = some (0, 14, 0, 0)) (h : TL L xs d (pc + 1) n st Z) : TL L xs d pc n (v :: st) Z := by
  obtain ⟨M', h⟩ := h
  refine ⟨M', EvS.pure (op := 14) (a := 0) (bb := 0) hI ?_ h⟩
  cases v <;> rfl
theorem TL.go {t : Nat} {b : Int} (hI : mI 274 pc = some (1, 2, 0, b)) (ht : mto pc b = some t) (h : TL L xs d t n st Z) : TL L xs d pc n st Z := by
  obtain ⟨M', h⟩ := h
  refine ⟨M', EvS.jump (op := 2) (a := 0) (bb := b) hI ?_ h⟩
  show (mto pc b).map _ = _
  rw [ht]; rfl
theorem TL.arg {j : Int} (hI0 : mI 274 pc = some (0, 5, 0, 0)) (hI1 : mI 274 (pc + 1) = some (0, 3, 3, 0)) (hI2 : mI 274 (pc + 1 + 1) = some (0, 0, 0, j)) (hI3 : mI 274 (pc + 1 + 1 + 1) = some (0, 12, 0, 0)) (hI4 : mI 274 (pc + 1 + 1 + 1 + 1) = some (2, 2, 0, 0)) (hn : 0 ≤ n + j ∧ n + j < L) (hL : L ≤ 2560) (h : TL L xs d (pc + 1 + 1 + 1 + 1 + 1) n (.inl (xs (n + j).toNat).toInt :: st) Z) : TL L xs d pc n st Z := by
  obtain ⟨M', h⟩ := h
  refine ⟨M', EvS.pure (op := 5) (a := 0) (bb := 0) (st' := .ref mSCR :: zS st) hI0 rfl ?_⟩
  refine EvS.pure (op := 3) (a := 3) (bb := 0) (st' := .int (Int32.ofInt n) :: .ref mSCR :: zS st) hI1 rfl ?_
  refine EvS.pure (op := 0) (a := 0) (bb := j) (st' := .int (Int32.ofInt j) :: .int (Int32.ofInt n) :: .ref mSCR :: zS st) hI2 rfl ?_
  refine EvS.pure (op := 12) (a := 0) (bb := 0) (st' := .int (Int32.ofInt (n + j)) :: .ref mSCR :: zS st) hI3 (by rw [Int32.ofInt_add]; rfl) ?_
  refine EvS.mem (op := 2) (a := 0) (bb := 0) (st' := .int (xs (n + j).toNat) :: zS st) (M' := zm Z) hI4 ?_ ?_
  · obtain ⟨i1, i2⟩ := zidx hn (by omega)
    unfold mmemS
    dsimp only
    rw [if_pos rfl, if_neg i1, i2]
    rfl
  · have e : zS (.inl (xs (n + j).toNat).toInt :: st) = .int (xs (n + j).toNat) :: zS st := by
      show Value.int (Int32.ofInt (xs (n + j).toNat).toInt) :: zS st = _
      rw [zio]
    rw [e] at h
    exact h
theorem TL.call {a y' : Nat} {As rest : List zV} (hI : mI 274 pc = some (4, 0, a, 0)) (hp : mcallS 0 a (zS st) = some (y', zS As, zS rest)) (h : TI d y' As Z (fun r Z1 => TL L xs (d + 1) (pc + 3) n (.inl r :: rest) Z1)) : TL L xs (d + 1) pc n st Z := by
  obtain ⟨r, Z1, h1, x, h2, M', h3⟩ := h
  subst h2
  exact ⟨M', EvS.call (op := 0) (a := a) (bb := 0) (r := (some (Sum.inl x) : Option zV).map zv) (M1 := zm Z1) hI hp (by rw [← zent_ok]; exact h1) h3⟩
theorem TL.eq {v b : Int} {t : Nat} (hI : mI 274 pc = some (1, 1, 0, b)) (ht : mto pc b = some t) (h : TL L xs d t n st Z) : TL L xs d pc n (.inl v :: .inl v :: st) Z := by
  obtain ⟨M', h⟩ := h
  refine ⟨M', EvS.jump (op := 1) (a := 0) (bb := b) (pc' := t) (st' := zS st) hI ?_ h⟩
  show (mto pc b).map (fun t => (if mcmp 0 (Int32.ofInt v) (Int32.ofInt v) = true then t else pc + 3, zS st)) = _
  rw [ht]
  show some (if mcmp 0 (Int32.ofInt v) (Int32.ofInt v) = true then t else pc + 3, zS st) = _
  rw [if_pos (by simp only [mcmp, decide_true])]
theorem TL.next (h : TL L xs d 18 (n + 5) [] Z) : TL L xs d 1438 n [] Z := by
  obtain ⟨M', h⟩ := h
  refine ⟨M', EvS.pure (op := 11) (a := 3) (bb := 5) (L' := mL18 (Int32.ofInt (n + 5))) (st' := zS []) (by decide +kernel) (by rw [Int32.ofInt_add]; rfl) ?_⟩
  exact EvS.jump (op := 2) (a := 0) (bb := -1423) (pc' := 18) (st' := zS []) (by decide +kernel) rfl h
theorem TL.done (Z : zM) : TL L xs d 1444 n [] Z :=
  ⟨zm Z, EvS.pure (op := 0) (a := 0) (bb := 1) (st' := [.int 1]) (by decide +kernel) rfl (EvS.ret (op := 0) (a := 0) (bb := 0) (by decide +kernel) rfl)⟩
theorem TL.head (hn : 0 ≤ n ∧ n ≤ L) (hL : L ≤ 2560) (h1 : n + 5 ≤ L → TL L xs d 26 n [] Z) : TL L xs d 18 n [] Z := by
  have go : ∀ t : Nat, (if n + 5 ≤ (L : Int) then 26 else 1444) = t → TL L xs d t n [] Z → TL L xs d 18 n [] Z := by
    intro t ht h
    obtain ⟨M', h⟩ := h
    refine ⟨M', EvS.pure (op := 3) (a := 3) (bb := 0) (st' := .int (Int32.ofInt n) :: zS []) (by decide +kernel) rfl ?_⟩
    refine EvS.pure (op := 5) (a := 0) (bb := 0) (st' := .ref mSCR :: .int (Int32.ofInt n) :: zS []) (by decide +kernel) rfl ?_
    refine EvS.mem (op := 5) (a := 0) (bb := 0) (st' := .int (Int32.ofInt L) :: .int (Int32.ofInt n) :: zS []) (M' := zm Z) (by decide +kernel) ?_ ?_
    · unfold mmemS
      dsimp only
      rw [if_pos rfl, Int32.ofInt_eq_ofNat]
      rfl
    refine EvS.pure (op := 0) (a := 0) (bb := 5) (st' := .int (Int32.ofInt 5) :: .int (Int32.ofInt L) :: .int (Int32.ofInt n) :: zS []) (by decide +kernel) rfl ?_
    refine EvS.pure (op := 12) (a := 1) (bb := 0) (st' := .int (Int32.ofInt (L - 5)) :: .int (Int32.ofInt n) :: zS []) (by decide +kernel) (by rw [Int32.ofInt_sub]; rfl) ?_
    refine EvS.jump (op := 1) (a := 4) (bb := 1421) (pc' := t) (st' := zS []) (by decide +kernel) ?_ h
    show some (if mcmp 4 (Int32.ofInt n) (Int32.ofInt (L - 5)) = true then 1444 else 26, zS []) = _
    rw [← ht]
    have e := zc_ok (a := 4) (x := n) (y := L - 5) (by unfold zR; omega) (by unfold zR; omega)
    have e2 : zc 4 n (L - 5) ↔ (L : Int) - 5 < n := Iff.rfl
    by_cases c : n + 5 ≤ (L : Int)
    · rw [if_pos c, if_neg (fun q => by have := e2.mp (e.mp q); omega)]
    · rw [if_neg c, if_pos (e.mpr (e2.mpr (by omega)))]
  by_cases c : n + 5 ≤ (L : Int)
  · exact go 26 (if_pos c) (h1 c)
  · exact go 1444 (if_neg c) (TL.done Z)
theorem TL.pick (hn : 0 ≤ n ∧ n < L) (hL : L ≤ 2560) (h : ∀ v : Int, 0 ≤ v → v ≤ 63 → TL L xs d 32 n [.inl v] Z) : TL L xs d 26 n [] Z := by
  have b := aand_nn (x := xs n.toNat) (y := 63) (by decide)
  have b2 : (63 : Int32).toInt = 63 := by decide
  obtain ⟨M', h⟩ := h _ b.1 (by omega)
  refine ⟨M', EvS.pure (op := 5) (a := 0) (bb := 0) (st' := .ref mSCR :: zS []) (by decide +kernel) rfl ?_⟩
  refine EvS.pure (op := 3) (a := 3) (bb := 0) (st' := .int (Int32.ofInt n) :: .ref mSCR :: zS []) (by decide +kernel) rfl ?_
  refine EvS.mem (op := 2) (a := 0) (bb := 0) (st' := .int (xs n.toNat) :: zS []) (M' := zm Z) (by decide +kernel) ?_ ?_
  · obtain ⟨i1, i2⟩ := zidx hn (by omega)
    unfold mmemS
    dsimp only
    rw [if_pos rfl, if_neg i1, i2]
    rfl
  refine EvS.pure (op := 1) (a := 0) (bb := 63) (st' := .int 63 :: .int (xs n.toNat) :: zS []) (by decide +kernel) rfl ?_
  refine EvS.pure (op := 12) (a := 3) (bb := 0) (st' := zS [.inl (xs n.toNat &&& 63).toInt]) (by decide +kernel) ?_ h
  show some (mL18 (Int32.ofInt n), [Value.int (xs n.toNat &&& 63)]) = some (mL18 (Int32.ofInt n), [Value.int (Int32.ofInt (xs n.toNat &&& 63).toInt)])
  rw [zio]
theorem TL.sw {v : Int} {t : Nat} (hp : mjump 3 8 216 32 (zS [.inl v]) = some (t, zS [])) (h : TL L xs d t n [] Z) : TL L xs d 32 n [.inl v] Z := by
  obtain ⟨M', h⟩ := h
  exact ⟨M', EvS.jump (op := 3) (a := 8) (bb := 216) (by decide +kernel) hp h⟩
end
/-- the two sides at work -/
def GD (Z : zM) (a : gX) : Prop := CX Z a ∧ RX Z a ∧ OKX a
def CS (Z : zM) (a' : gX) (Z1 : zM) : Prop := CX Z1 a' ∧ ∀ q, 100 ≤ q → Z1 q = Z q
def RS (Z : zM) (a' : gX) (Z1 : zM) : Prop := RX Z1 a' ∧ ∀ q, q < 100 → Z1 q = Z q
theorem GD.two {Z Z1 Z2 : zM} {a' : gX} (c : CS Z a' Z1) (r : RS Z1 a' Z2) (o : OKX a') : GD Z2 a' := ⟨c.1.lo r.2, r.1, o⟩
theorem cs_q {Z : zM} {a : gX} {c r : Int} {Z1 : zM} (h : QC Z a c r Z1) : CS Z (oq a c 0).2 Z1 := by
  obtain ⟨v, h1, h2, h3⟩ := h
  rw [oq_2] at h2
  exact ⟨h2, h3⟩
theorem rs_q {Z : zM} {a : gX} {c r : Int} {Z1 : zM} (h : QD Z a c r Z1) : RS Z (oq a c 0).2 Z1 := by
  obtain ⟨v, h1, h2, h3⟩ := h
  rw [oq_2] at h2
  exact ⟨h2, h3⟩
