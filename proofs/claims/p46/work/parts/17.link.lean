/-! from the law's entry to its loop; what is left is about the static machine -/
theorem mEw_M0 : mM2 = mEw mM0 := by
  apply List.ext_getElem?
  intro k
  rw [mEw_get]
  cases h : mSH[k]? with
  | none =>
    have hl : mM2.length = 123 := by
      have h2 := mRun2_is
      unfold mM2
      cases hr : mRun2 with
      | none => rw [hr] at h2; cases h2
      | some q =>
        obtain ⟨r, M⟩ := q
        rw [hr] at h2
        cases r with
        | none => simpa using h2
        | some v => cases h2
    have hk : 123 ≤ k := List.getElem?_eq_none_iff.mp h
    rw [List.getElem?_eq_none (by omega)]
    rfl
  | some sh =>
    obtain ⟨e, he, hc⟩ := mchk_at h
    have hM : mM0 k = mprj e := by unfold mM0; rw [he]
    have hR : ∀ t n f, e = .inl (t, n, .inr f) → mRA k = f := fun t n f h9 => by unfold mRA; rw [he, h9]
    rw [he, Option.map_some, hM]
    refine congrArg some ?_
    obtain ⟨t, n, ts⟩ := sh
    cases e with
    | inl x =>
      obtain ⟨t', n', f⟩ := x
      cases f with
      | inl f =>
        match t, hc with
        | 0, hc =>
          match t', hc with
          | 0, hc =>
            simp only [mchkE, beq_iff_eq] at hc
            subst hc
            rfl
          | t' + 1, hc => simp [mchkE] at hc
        | 1, hc => simp [mchkE] at hc
        | 2, hc => simp [mchkE] at hc
        | c + 3, hc => simp [mchkE] at hc
      | inr f =>
        have hR0 := hR _ _ _ rfl
        clear hR
        match t, h, hc with
        | 0, h, hc => simp [mchkE] at hc
        | 1, h, hc =>
          simp only [mchkE, Bool.and_eq_true, beq_iff_eq] at hc
          obtain ⟨⟨⟨-, h1⟩, h2⟩, -⟩ := hc
          subst h1; subst h2
          simp only [men]
          rw [hR0]
        | 2, h, hc =>
          simp only [mchkE, Bool.and_eq_true, beq_iff_eq] at hc
          obtain ⟨⟨⟨-, h1⟩, h2⟩, -⟩ := hc
          subst h1; subst h2
          simp only [men]
          rw [hR0]
        | c + 3, h, hc => simp [mchkE] at hc
    | inr x =>
      obtain ⟨c', fs⟩ := x
      match t, hc with
      | 0, hc => simp [mchkE] at hc
      | 1, hc => simp [mchkE] at hc
      | 2, hc => simp [mchkE] at hc
      | c + 3, hc =>
        simp only [mchkE, Bool.and_eq_true, beq_iff_eq, List.all_eq_true, List.mem_range] at hc
        obtain ⟨⟨h1, h2⟩, h3⟩ := hc
        subst h1
        simp only [men]
        refine congrArg Sum.inr (Prod.ext rfl ?_)
        apply List.ext_getElem?
        intro j
        rw [mfl_get]
        by_cases hj : j < ts.length
        · have h4 := h3 j hj
          have e1 : ts[j]? = some ts[j] := List.getElem?_eq_getElem hj
          have e2 : fs[j]? = some fs[j] := List.getElem?_eq_getElem (by omega)
          rw [e1, e2] at h4 ⊢
          show some _ = some _
          refine congrArg some ?_
          cases ht : ts[j] with
          | none =>
            rw [ht] at h4
            cases hf : fs[j] with
            | int v => simp [mprj, e2, hf]
            | _ => rw [hf] at h4; simp at h4
          | some tt =>
            rw [ht] at h4
            cases hf : fs[j] with
            | ref v => rw [hf] at h4; simp at h4; rw [h4]
            | _ => rw [hf] at h4; simp at h4
        · rw [List.getElem?_eq_none (by omega : fs.length ≤ j), List.getElem?_eq_none (by omega : ts.length ≤ j)]
          rfl
def EvA (d : Nat) (S : Option (Nat × (Nat → Int32))) (y pc : Nat) (L : List (Option Value)) (st : List Value) (M : List mE) (x : Option Value × List mE) : Prop := ∃ n, exA n d S y pc L st M = some x
def EvS (d : Nat) (S : Option (Nat × (Nat → Int32))) (y pc : Nat) (L : List (Option Value)) (st : List Value) (M : mMem) (x : Option Value × mMem) : Prop := ∃ n, exS n d S y pc L st M = some x
theorem exA_up : ∀ (n d : Nat) (S : Option (Nat × (Nat → Int32))) (y pc : Nat) (L : List (Option Value)) (st : List Value) (M : List mE) (x : Option Value × List mE), exA n d S y pc L st M = some x → ∀ m, n ≤ m → exA m d S y pc L st M = some x
  | 0, _, _, _, _, _, _, _, _, h, _, _ => by cases h
  | n + 1, d, S, y, pc, L, st, M, x, h, 0, hm => by omega
  | n + 1, d, S, y, pc, L, st, M, x, h, m + 1, hm => by
    have hm : n ≤ m := by omega
    simp only [exA] at h ⊢
    cases hI : mI y pc with
    | none => simp [hI] at h
    | some q =>
      obtain ⟨gg, op, a, bb⟩ := q
      simp only [hI] at h ⊢
      match gg, h with
      | 0, h =>
        cases hp : mpure op a bb L st with
        | none => simp [hp] at h
        | some q => simp only [hp] at h ⊢; exact exA_up n _ _ _ _ _ _ _ _ h m hm
      | 1, h =>
        cases hp : mjump op a bb pc st with
        | none => simp [hp] at h
        | some q => simp only [hp] at h ⊢; exact exA_up n _ _ _ _ _ _ _ _ h m hm
      | 2, h =>
        cases hp : mmem y op a S st M with
        | none => simp [hp] at h
        | some q => simp only [hp] at h ⊢; exact exA_up n _ _ _ _ _ _ _ _ h m hm
      | 3, h => exact h
      | 4, h =>
        cases d with
        | zero => cases h
        | succ d' =>
          cases hp : mcall op a st M with
          | none => simp [hp] at h
          | some q =>
            simp only [hp] at h ⊢
            cases hz : exA n d' none q.1 0 (ment q.1 q.2.1) [] M with
            | none => simp [hz] at h
            | some z =>
              simp only [hz] at h
              simp only [exA_up n _ _ _ _ _ _ _ _ hz m hm]
              exact exA_up n _ _ _ _ _ _ _ _ h m hm
      | 5, h =>
        cases d with
        | zero => cases h
        | succ d' =>
          cases hp : mnat op a st M with
          | none => simp [hp] at h
          | some q => simp only [hp] at h ⊢; exact exA_up n _ _ _ _ _ _ _ _ h m hm
      | 6, h =>
        cases hp : mcon op a st with
        | none => simp [hp] at h
        | some q => simp only [hp] at h ⊢; exact exA_up n _ _ _ _ _ _ _ _ h m hm
      | gg + 7, h => cases h
theorem EvA.pure {d y pc op a : Nat} {bb : Int} {S : Option (Nat × (Nat → Int32))} {L L' : List (Option Value)} {st st' : List Value} {M : List mE} {x : Option Value × List mE} (hI : mI y pc = some (0, op, a, bb)) (hp : mpure op a bb L st = some (L', st')) (h : EvA d S y (pc + mlen 0 op bb) L' st' M x) : EvA d S y pc L st M x := by
  obtain ⟨n, h⟩ := h
  refine ⟨n + 1, ?_⟩
  simp only [exA, hI, hp]
  exact h
theorem EvA.mem {d y pc op a : Nat} {bb : Int} {S : Option (Nat × (Nat → Int32))} {L : List (Option Value)} {st st' : List Value} {M M' : List mE} {x : Option Value × List mE} (hI : mI y pc = some (2, op, a, bb)) (hp : mmem y op a S st M = some (st', M')) (h : EvA d S y (pc + mlen 2 op bb) L st' M' x) : EvA d S y pc L st M x := by
  obtain ⟨n, h⟩ := h
  refine ⟨n + 1, ?_⟩
  simp only [exA, hI, hp]
  exact h
theorem EvA.call {d y pc op a y' : Nat} {bb : Int} {S : Option (Nat × (Nat → Int32))} {L : List (Option Value)} {st As rest : List Value} {M M1 : List mE} {r : Option Value} {x : Option Value × List mE} (hI : mI y pc = some (4, op, a, bb)) (hp : mcall op a st M = some (y', As, rest)) (hc : EvA d none y' 0 (ment y' As) [] M (r, M1)) (h : EvA (d + 1) S y (pc + 3) L (r.toList ++ rest) M1 x) : EvA (d + 1) S y pc L st M x := by
  obtain ⟨n1, hc⟩ := hc
  obtain ⟨n, h⟩ := h
  refine ⟨max n1 n + 1, ?_⟩
  simp only [exA, hI, hp, exA_up n1 _ _ _ _ _ _ _ _ hc (max n1 n) (Nat.le_max_left _ _)]
  exact exA_up n _ _ _ _ _ _ _ _ h (max n1 n) (Nat.le_max_right _ _)
theorem mRun1_ok : mRun1 = some (none, mM1) ∧ mM1.length = 100 := by
  have h2 := mRun1_is
  unfold mM1
  cases hr : mRun1 with
  | none => rw [hr] at h2; cases h2
  | some q =>
    obtain ⟨r, M⟩ := q
    rw [hr] at h2
    cases r with
    | none => exact ⟨rfl, by simpa using h2⟩
    | some v => cases h2
theorem mRun2_ok : mRun2 = some (none, mM2) := by
  have h2 := mRun2_is
  unfold mM2
  cases hr : mRun2 with
  | none => rw [hr] at h2; cases h2
  | some q =>
    obtain ⟨r, M⟩ := q
    rw [hr] at h2
    cases r with
    | none => rfl
    | some v => cases h2
def mL18 (i : Int32) : List (Option Value) := [some (.ref mSCR), some (.ref 0), some (.ref 100), some (.int i)]
/-- what is left: the law's loop over the static machine -/
def mGoalS : Prop := ∀ (L : Nat) (xs : Nat → Int32), L ≤ 2560 → ∃ M', EvS 800 (some (L, xs)) mLawN 18 (mL18 0) [] mM0 (some (.int 1), M')
theorem men_size (k : Nat) (sh : Nat × Nat × List (Option Nat)) (f : Nat → Int32) : mszE (men k sh f) = (match sh with | (0, n, _) => n | (1, n, _) => n | (2, n, _) => n | (_ + 3, _, fl) => fl.length) := by
  obtain ⟨t, n, ts⟩ := sh
  match t with
  | 0 => rfl
  | 1 => rfl
  | 2 => rfl
  | c + 3 => show (mfl f ts).length = _; simp [mfl]
theorem msz_Ew (M : mMem) : (mEw M).length = 123 ∧ msz (mEw M) = msz (mEw mM0) := by
  refine ⟨by simp only [mEw, List.length_mapIdx]; rfl, ?_⟩
  unfold msz
  refine congrArg List.sum ?_
  apply List.ext_getElem?
  intro i
  rw [List.getElem?_map, List.getElem?_map, mEw_get, mEw_get]
  cases mSH[i]? with
  | none => simp only [Option.map_none]
  | some sh => show some _ = some _; rw [men_size, men_size]
set_option maxRecDepth 100000 in
theorem mGoal_of (h : mGoalS) : mGoal := by
  intro L xs hL
  obtain ⟨M', n9, h9⟩ := h L xs hL
  have hA : EvA 800 (some (L, xs)) mLawN 18 (mL18 0) [] (mEw mM0) (some (.int 1), mEw M') := ⟨n9, exS_ok _ _ _ _ _ _ _ _ _ _ h9⟩
  rw [← mEw_M0] at hA
  have hz : msz (mEw M') ≤ 100000 := by rw [(msz_Ew M').2, ← mEw_M0]; exact msz_M2
  obtain ⟨r1, r2⟩ := mRun1_ok
  have hAll : EvA 800 (some (L, xs)) mLawN 0 [some (.ref mSCR), none, none, none] [] [] (some (.int 1), mEw M') := by
    refine EvA.mem (op := 6) (a := 12) (bb := 0) (st' := [.ref 0]) (M' := [mNewX]) (by decide +kernel) rfl ?_
    refine EvA.pure (op := 15) (a := 0) (bb := 0) (by decide +kernel) rfl ?_
    refine EvA.call (op := 2) (a := 23) (bb := 0) (y' := 70) (As := [.ref 0]) (rest := [.ref 0]) (by decide +kernel) rfl ⟨4000, r1⟩ ?_
    refine EvA.pure (op := 9) (a := 1) (bb := 0) (by decide +kernel) rfl ?_
    refine EvA.mem (op := 6) (a := 13) (bb := 0) (st' := [.ref 100]) (M' := mM1 ++ [mNewM]) (by decide +kernel) (by
      have : mmem mLawN 6 13 (some (L, xs)) [] mM1 = if (0 : Nat) = 0 ∧ mM1.length + 1 < mSCR then some (.ref mM1.length :: [], mM1 ++ [mNewM]) else none := rfl
      rw [this, r2]
      rfl) ?_
    refine EvA.pure (op := 15) (a := 0) (bb := 0) (by decide +kernel) rfl ?_
    refine EvA.call (op := 2) (a := 24) (bb := 0) (y' := 153) (As := [.ref 100]) (rest := [.ref 100]) (by decide +kernel) rfl ⟨4000, mRun2_ok⟩ ?_
    refine EvA.pure (op := 9) (a := 2) (bb := 0) (by decide +kernel) rfl ?_
    refine EvA.pure (op := 0) (a := 0) (bb := 0) (by decide +kernel) rfl ?_
    refine EvA.pure (op := 7) (a := 3) (bb := 0) (by decide +kernel) rfl ?_
    exact hA
  obtain ⟨n, hn⟩ := hAll
  exact ⟨n, mEw M', hn, by rw [(msz_Ew M').1]; omega, by omega⟩
