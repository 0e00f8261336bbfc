/-! THE STATIC MACHINE: behind the constructors the cells stand still; a world is what the ints are -/
def mup (M : mMem) (k j : Nat) (x : Int32) : mMem := fun q => if q = k then upd (M k) j x else M q
def mfl (f : Nat → Int32) (fl : List (Option Nat)) : List Value := fl.mapIdx (fun j o => match o with | some t => .ref t | none => .int (f j))
def men (k : Nat) (sh : Nat × Nat × List (Option Nat)) (f : Nat → Int32) : mE := match sh with
  | (0, n, _) => .inl (0, n, .inl f)
  | (1, n, _) => .inl (1, n, .inr (mRA k))
  | (2, n, _) => .inl (2, n, .inr (mRA k))
  | (c + 3, _, fl) => .inr (c, mfl f fl)
def mEw (M : mMem) : List mE := mSH.mapIdx (fun k sh => men k sh (M k))
theorem mchk_at {k : Nat} {sh : Nat × Nat × List (Option Nat)} (h : mSH[k]? = some sh) : ∃ e, mM2[k]? = some e ∧ mchkE sh e = true := by
  have hk : k < 123 := (List.getElem?_eq_some_iff.mp h).1
  have h1 := List.all_eq_true.mp mchk_all k (List.mem_range.mpr hk)
  rw [h] at h1
  cases he : mM2[k]? with
  | none => simp [he] at h1
  | some e => exact ⟨e, rfl, by simpa [he] using h1⟩
theorem mRA_ok {k t n i : Nat} {ts : List (Option Nat)} (h : mSH[k]? = some (t, n, ts)) (ht : t = 1 ∨ t = 2) (hi : i < n) : mRA k i = (ts[i]?).join := by
  obtain ⟨e, he, hc⟩ := mchk_at h
  unfold mRA
  rw [he]
  rcases ht with rfl | rfl
  · cases e with
    | inr x => simp [mchkE] at hc
    | inl x =>
      obtain ⟨t', n', f⟩ := x
      cases f with
      | inl f => simp [mchkE] at hc
      | inr f =>
        simp only [mchkE, Bool.and_eq_true, List.all_eq_true, List.mem_range, beq_iff_eq] at hc
        exact hc.2 i hi
  · cases e with
    | inr x => simp [mchkE] at hc
    | inl x =>
      obtain ⟨t', n', f⟩ := x
      cases f with
      | inl f => simp [mchkE] at hc
      | inr f =>
        simp only [mchkE, Bool.and_eq_true, List.all_eq_true, List.mem_range, beq_iff_eq] at hc
        exact hc.2 i hi
def mmemS (op a : Nat) (S : Option (Nat × (Nat → Int32))) (st : List Value) (M : mMem) : Option (List Value × mMem) := match op with
  | 0 => match st, mFS[a]? with
    | .ref k :: r, some q => match mSH[k]? with
      | some (c + 3, _, fl) => if q.2.2.2.2.2.2.2.contains c = true then match fl[q.2.2.2.2.2.2.1]? with
          | some (some t) => some (.ref t :: r, M)
          | some none => some (.int (M k q.2.2.2.2.2.2.1) :: r, M)
          | none => none
        else none
      | _ => none
    | _, _ => none
  | 1 => match st, mFS[a]? with
    | .int x :: .ref k :: r, some q => match mSH[k]? with
      | some (c + 3, _, fl) => match mcl[c]?, mty[c]?, fl[q.2.2.2.2.2.2.1]? with
        | some (_, T, _), some ty, some none => if q.2.2.2.2.2.2.2.contains c = true ∧ mnf (ty q.2.2.2.2.2.2.1) (.int x) = true ∧ (T q.2.2.2.2.2.2.1).2.2.2 = false then some (r, mup M k q.2.2.2.2.2.2.1 x) else none
        | _, _, _ => none
      | _ => none
    | _, _ => none
  | 2 => match st with
    | .int i :: .ref k :: r => if k = mSCR then match S with
        | some (n, xs) => if i < 0 ∨ n ≤ i.toNatClampNeg then none else some (.int (xs i.toNatClampNeg) :: r, M)
        | none => none
      else match mSH[k]? with
        | some (0, n, _) => if i < 0 ∨ n ≤ i.toNatClampNeg then none else some (.int (M k i.toNatClampNeg) :: r, M)
        | _ => none
    | _ => none
  | 3 => match st with
    | .int x :: .int i :: .ref k :: r => match mSH[k]? with
      | some (0, n, _) => if i < 0 ∨ n ≤ i.toNatClampNeg then none else some (r, mup M k i.toNatClampNeg x)
      | _ => none
    | _ => none
  | 4 => match st with
    | .int i :: .ref k :: r => match mSH[k]? with
      | some (t, n, ts) => if (i < 0 ∨ n ≤ i.toNatClampNeg) ∨ 2 < t ∨ t = 0 then none else match ts[i.toNatClampNeg]? with | some (some z) => some (.ref z :: r, M) | _ => none
      | none => none
    | _ => none
  | 5 => match st with
    | .ref k :: r => if k = mSCR then match S with
        | some (n, _) => some (.int (Int32.ofNat n) :: r, M)
        | none => none
      else match mSH[k]? with
        | some (t, n, _) => if t < 3 then some (.int (Int32.ofNat n) :: r, M) else none
        | none => none
    | _ => none
  | _ => none
def mcpy (M : mMem) (ks kd sp dp n : Nat) : mMem := fun q => if q = kd then va_cpy (M ks) (M kd) sp dp n else M q
def mnatS (op a : Nat) (st : List Value) (M : mMem) : Option (List Value × mMem) := match op with
  | 0 => match st, mSS[a]? with
    | .int n :: .int dp :: .ref kd :: .int sp :: .ref ks :: r, some _ => match mSH[ks]?, mSH[kd]? with
      | some (0, n0, _), some (0, n1, _) => if sp < 0 ∨ dp < 0 ∨ n < 0 ∨ ¬ sp.toNatClampNeg + n.toNatClampNeg ≤ n0 ∨ ¬ dp.toNatClampNeg + n.toNatClampNeg ≤ n1 ∨ 8 < (r.map fun v => v.category).sum then none else some (r, mcpy M ks kd sp.toNatClampNeg dp.toNatClampNeg n.toNatClampNeg)
      | _, _ => none
    | _, _ => none
  | 1 => none
  | _ => match mnat op a st [] with
    | some q => some (q.1, M)
    | none => none
def mcallS (op a : Nat) (st : List Value) : Option (Nat × List Value × List Value) := match op with
  | 0 => match mVS[a]? with
    | some q => match st.drop q.2.2.2.2.2.1 with
      | .ref k :: r => match mSH[k]? with
        | some (c + 3, _, _) => match q.2.2.2.2.2.2.lookup c with
          | some z => if q.2.2.2.2.2.1 ≤ st.length ∧ (r.map fun v => v.category).sum ≤ 8 ∧ (mslots (.ref k :: (st.take q.2.2.2.2.2.1).reverse)).length ≤ mLo z.1 then some (z.1, .ref k :: (st.take q.2.2.2.2.2.1).reverse, r) else none
          | none => none
        | _ => none
      | _ => none
    | none => none
  | 1 => mcall 1 a st []
  | _ => none
def exS : Nat → Nat → Option (Nat × (Nat → Int32)) → Nat → Nat → List (Option Value) → List Value → mMem → Option (Option Value × mMem)
  | 0, _, _, _, _, _, _, _ => none
  | n + 1, d, S, y, pc, L, st, M => match mI y pc with
    | none => none
    | some (g, op, a, b) => match g with
      | 0 => match mpure op a b L st with | none => none | some q => exS n d S y (pc + mlen 0 op b) q.1 q.2 M
      | 1 => match mjump op a b pc st with | none => none | some q => exS n d S y q.1 L q.2 M
      | 2 => match mmemS op a S st M with | none => none | some q => exS n d S y (pc + mlen 2 op b) L q.1 q.2
      | 3 => match mret op y st with | none => none | some r => some (r, M)
      | 4 => match d with
        | 0 => none
        | d' + 1 => match mcallS op a st with
          | none => none
          | some q => match exS n d' none q.1 0 (ment q.1 q.2.1) [] M with
            | none => none
            | some z => exS n d S y (pc + 3) L (z.1.toList ++ q.2.2) z.2
      | 5 => match d with
        | 0 => none
        | _ + 1 => match mnatS op a st M with | none => none | some q => exS n d S y (pc + 3) L q.1 q.2
      | 6 => match mcon op a st with | none => none | some st' => exS n d S y (pc + mlen 6 op b) L st' M
      | _ => none
theorem mEw_get (M : mMem) (k : Nat) : (mEw M)[k]? = (mSH[k]?).map (fun sh => men k sh (M k)) := by
  unfold mEw
  rw [List.getElem?_mapIdx]
theorem mEw_at {M : mMem} {k : Nat} {sh : Nat × Nat × List (Option Nat)} (h : mSH[k]? = some sh) : (mEw M)[k]? = some (men k sh (M k)) := by rw [mEw_get, h]; rfl
theorem mEw_set {M M' : mMem} {k : Nat} {sh : Nat × Nat × List (Option Nat)} (h : mSH[k]? = some sh) (ho : ∀ q, q ≠ k → M' q = M q) : (mEw M).set k (men k sh (M' k)) = mEw M' := by
  apply List.ext_getElem?
  intro i
  rw [List.getElem?_set, mEw_get, mEw_get]
  by_cases hi : k = i
  · subst hi
    have hl : k < (mEw M).length := by
      have := (List.getElem?_eq_some_iff.mp h).1
      simpa [mEw] using this
    rw [if_pos rfl, if_pos hl, h]
    rfl
  · rw [if_neg hi, ho i (fun e => hi e.symm)]
theorem mup_self (M : mMem) (k j : Nat) (x : Int32) : mup M k j x k = upd (M k) j x := if_pos rfl
theorem mup_ne (M : mMem) (k j : Nat) (x : Int32) {q : Nat} (h : q ≠ k) : mup M k j x q = M q := if_neg h
theorem mfl_get (f : Nat → Int32) (fl : List (Option Nat)) (j : Nat) : (mfl f fl)[j]? = (fl[j]?).map (fun o => match o with | some t => .ref t | none => .int (f j)) := by
  unfold mfl
  rw [List.getElem?_mapIdx]
theorem mfl_set {f : Nat → Int32} {fl : List (Option Nat)} {j : Nat} {x : Int32} (h : fl[j]? = some none) : (mfl f fl).set j (.int x) = mfl (upd f j x) fl := by
  apply List.ext_getElem?
  intro i
  rw [List.getElem?_set, mfl_get, mfl_get]
  by_cases hi : j = i
  · subst hi
    have hl : j < (mfl f fl).length := by
      have := (List.getElem?_eq_some_iff.mp h).1
      simpa [mfl] using this
    rw [if_pos rfl, if_pos hl, h]
    simp [upd]
  · rw [if_neg hi]
    cases fl[i]? with
    | none => rfl
    | some o =>
      cases o with
      | none => simp [upd, show ¬ i = j from fun e => hi e.symm]
      | some t => rfl
theorem mmemS_ok0 {y a : Nat} {S : Option (Nat × (Nat → Int32))} {st st' : List Value} {M M' : mMem} (h : mmemS 0 a S st M = some (st', M')) : mmem y 0 a S st (mEw M) = some (st', mEw M') := by
  cases hF : mFS[a]? with
  | none => simp only [mmemS, hF] at h; cases h
  | some q =>
    simp only [mmemS, hF] at h
    simp only [mmem, hF]
    cases st with
    | nil => cases h
    | cons v r =>
      cases v with
      | ref k =>
        dsimp only at h ⊢
        cases hk : mSH[k]? with
        | none => simp [hk] at h
        | some sh =>
          simp only [hk] at h
          rw [mEw_at hk]
          split at h
          · next c n0 fl he =>
            cases he
            simp only [men]
            split at h
            · next hal =>
              rw [if_pos hal, mfl_get]
              split at h
              · next t ht => cases h; simp [ht]
              · next ht => cases h; simp [ht]
              · cases h
            · cases h
          · cases h
      | _ => cases h
theorem mmemS_ok1 {y a : Nat} {S : Option (Nat × (Nat → Int32))} {st st' : List Value} {M M' : mMem} (h : mmemS 1 a S st M = some (st', M')) : mmem y 1 a S st (mEw M) = some (st', mEw M') := by
  cases hF : mFS[a]? with
  | none => simp only [mmemS, hF] at h; cases h
  | some q =>
    simp only [mmemS, hF] at h
    simp only [mmem, hF]
    cases st with
    | nil => cases h
    | cons v r =>
      cases v with
      | int x =>
        cases r with
        | nil => cases h
        | cons v r =>
          cases v with
          | ref k =>
            dsimp only at h ⊢
            cases hk : mSH[k]? with
            | none => simp [hk] at h
            | some sh =>
              simp only [hk] at h
              rw [mEw_at hk]
              split at h
              · next c n0 fl he =>
                cases he
                simp only [men]
                cases hc : mcl[c]? with
                | none => simp [hc] at h
                | some cq =>
                  obtain ⟨C, T, N⟩ := cq
                  cases hty : mty[c]? with
                  | none => simp [hc, hty] at h
                  | some ty =>
                    cases hj : fl[q.2.2.2.2.2.2.1]? with
                    | none => simp [hc, hty, hj] at h
                    | some o =>
                      cases o with
                      | some t => simp [hc, hty, hj] at h
                      | none =>
                        simp only [hc, hty, hj] at h ⊢
                        split at h
                        · next hcond =>
                          have hl := (List.getElem?_eq_some_iff.mp hj).1
                          have hset := mEw_set (M := M) (M' := mup M k q.2.2.2.2.2.2.1 x) hk (fun q hq => mup_ne _ _ _ _ hq)
                          rw [mup_self] at hset
                          rw [if_pos ⟨hcond.1, by simpa [mfl] using hl, hcond.2.1, Or.inl hcond.2.2⟩, mfl_set hj]
                          cases h
                          simp only [men] at hset
                          rw [hset]
                        · cases h
              · cases h
          | _ => cases h
      | _ => cases h
theorem mmemS_ok2 {y a : Nat} {S : Option (Nat × (Nat → Int32))} {st st' : List Value} {M M' : mMem} (h : mmemS 2 a S st M = some (st', M')) : mmem y 2 a S st (mEw M) = some (st', mEw M') := by
  simp only [mmemS] at h
  simp only [mmem]
  split at h
  · next i k r =>
    dsimp only
    by_cases hk : k = mSCR
    · rw [if_pos hk] at h ⊢
      cases S with
      | none => cases h
      | some q =>
        obtain ⟨n, xs⟩ := q
        dsimp only at h ⊢
        split at h
        · cases h
        · next hin => rw [if_neg hin]; cases h; rfl
    · rw [if_neg hk] at h ⊢
      cases hsh : mSH[k]? with
      | none => simp [hsh] at h
      | some sh =>
        simp only [hsh] at h
        rw [mEw_at hsh]
        split at h
        · next n ts he =>
          cases he
          simp only [men]
          split at h
          · cases h
          · next hin => rw [if_neg hin]; cases h; rfl
        · cases h
  · cases h
theorem mmemS_ok3 {y a : Nat} {S : Option (Nat × (Nat → Int32))} {st st' : List Value} {M M' : mMem} (h : mmemS 3 a S st M = some (st', M')) : mmem y 3 a S st (mEw M) = some (st', mEw M') := by
  simp only [mmemS] at h
  simp only [mmem]
  split at h
  · next x i k r =>
    dsimp only
    cases hsh : mSH[k]? with
    | none => simp [hsh] at h
    | some sh =>
      simp only [hsh] at h
      rw [mEw_at hsh]
      split at h
      · next n ts he =>
        cases he
        simp only [men]
        split at h
        · cases h
        · next hin =>
          have hset := mEw_set (M := M) (M' := mup M k i.toNatClampNeg x) hsh (fun q hq => mup_ne _ _ _ _ hq)
          rw [mup_self] at hset
          rw [if_neg hin]
          cases h
          simp only [men] at hset
          rw [hset]
      · cases h
  · cases h
theorem mmemS_ok4 {y a : Nat} {S : Option (Nat × (Nat → Int32))} {st st' : List Value} {M M' : mMem} (h : mmemS 4 a S st M = some (st', M')) : mmem y 4 a S st (mEw M) = some (st', mEw M') := by
  simp only [mmemS] at h
  simp only [mmem]
  split at h
  · next i k r =>
    dsimp only
    cases hsh : mSH[k]? with
    | none => simp [hsh] at h
    | some sh =>
      obtain ⟨t, n, ts⟩ := sh
      simp only [hsh] at h
      rw [mEw_at hsh]
      split at h
      · cases h
      · next hin =>
        have ht : t = 1 ∨ t = 2 := by
          have h1 : ¬ 2 < t := fun q => hin (Or.inr (Or.inl q))
          have h2 : ¬ t = 0 := fun q => hin (Or.inr (Or.inr q))
          omega
        have hi : i.toNatClampNeg < n := Nat.not_le.mp fun q => hin (Or.inl (Or.inr q))
        have hra := mRA_ok hsh ht hi
        split at h
        · next z hz =>
          rw [hz] at hra
          rcases ht with rfl | rfl
          · simp only [men]
            rw [if_neg hin, hra]
            cases h
            rfl
          · simp only [men]
            rw [if_neg hin, hra]
            cases h
            rfl
        · cases h
  · cases h
theorem mmemS_ok5 {y a : Nat} {S : Option (Nat × (Nat → Int32))} {st st' : List Value} {M M' : mMem} (h : mmemS 5 a S st M = some (st', M')) : mmem y 5 a S st (mEw M) = some (st', mEw M') := by
  simp only [mmemS] at h
  simp only [mmem]
  split at h
  · next k r =>
    dsimp only
    by_cases hk : k = mSCR
    · rw [if_pos hk] at h ⊢
      cases S with
      | none => cases h
      | some q => obtain ⟨n, xs⟩ := q; cases h; rfl
    · rw [if_neg hk] at h ⊢
      cases hsh : mSH[k]? with
      | none => simp [hsh] at h
      | some sh =>
        obtain ⟨t, n, ts⟩ := sh
        simp only [hsh] at h
        rw [mEw_at hsh]
        split at h
        · next ht =>
          have ht' : t = 0 ∨ t = 1 ∨ t = 2 := by omega
          rcases ht' with rfl | rfl | rfl <;> (simp only [men]; cases h; rfl)
        · cases h
  · cases h
theorem mmemS_ok {y op a : Nat} {S : Option (Nat × (Nat → Int32))} {st st' : List Value} {M M' : mMem} (h : mmemS op a S st M = some (st', M')) : mmem y op a S st (mEw M) = some (st', mEw M') := by
  match op, h with
  | 0, h => exact mmemS_ok0 h
  | 1, h => exact mmemS_ok1 h
  | 2, h => exact mmemS_ok2 h
  | 3, h => exact mmemS_ok3 h
  | 4, h => exact mmemS_ok4 h
  | 5, h => exact mmemS_ok5 h
  | n + 6, h => cases h
theorem mnat_any {op a : Nat} {st : List Value} (M : List mE) (h : 2 ≤ op) : mnat op a st M = (mnat op a st []).map (fun q => (q.1, M)) := by
  match op, h with
  | 2, _ =>
    simp only [mnat]
    repeat' split
    all_goals first | rfl | simp_all
  | 3, _ =>
    simp only [mnat]
    repeat' split
    all_goals first | rfl | simp_all
  | 4, _ =>
    simp only [mnat]
    repeat' split
    all_goals first | rfl | simp_all
  | n + 5, _ => rfl
theorem mnatS_ok {op a : Nat} {st st' : List Value} {M M' : mMem} (h : mnatS op a st M = some (st', M')) : mnat op a st (mEw M) = some (st', mEw M') := by
  match op, h with
  | 0, h =>
    cases hF : mSS[a]? with
    | none => simp only [mnatS, hF] at h; cases h
    | some q =>
      simp only [mnatS, hF] at h
      simp only [mnat, hF]
      split at h
      · next n dp kd sp ks r _ _ _ =>
        dsimp only
        cases h0 : mSH[ks]? with
        | none => simp [h0] at h
        | some s0 =>
          cases h1 : mSH[kd]? with
          | none => simp [h0, h1] at h
          | some s1 =>
            simp only [h0, h1] at h
            rw [mEw_at h0, mEw_at h1]
            split at h
            · next n0 t0 n1 t1 e0 e1 =>
              cases e0; cases e1
              simp only [men]
              split at h
              · cases h
              · next hc =>
                rw [if_neg hc]
                have hset := mEw_set (M := M) (M' := mcpy M ks kd sp.toNatClampNeg dp.toNatClampNeg n.toNatClampNeg) h1 (fun q hq => if_neg hq)
                rw [show mcpy M ks kd sp.toNatClampNeg dp.toNatClampNeg n.toNatClampNeg kd = va_cpy (M ks) (M kd) sp.toNatClampNeg dp.toNatClampNeg n.toNatClampNeg from if_pos rfl] at hset
                cases h
                simp only [men] at hset
                rw [hset]
            · cases h
      · cases h
  | 1, h => cases h
  | n + 2, h =>
    rw [mnat_any (mEw M) (by omega)]
    have h : (match mnat (n + 2) a st [] with | some q => some (q.1, M) | none => none) = some (st', M') := h
    cases hq : mnat (n + 2) a st [] with
    | none => simp [hq] at h
    | some q => simp only [hq] at h; cases h; rfl
theorem mcall_any (a : Nat) (st : List Value) (M : List mE) : mcall 1 a st M = mcall 1 a st [] := rfl
theorem mcallS_ok {op a : Nat} {st : List Value} {M : mMem} {q : Nat × List Value × List Value} (h : mcallS op a st = some q) : mcall op a st (mEw M) = some q := by
  match op, h with
  | 0, h =>
    cases hF : mVS[a]? with
    | none => simp only [mcallS, hF] at h; cases h
    | some z =>
      simp only [mcallS, hF] at h
      simp only [mcall, hF]
      split at h
      · next k r hdr =>
        simp only [hdr]
        cases hsh : mSH[k]? with
        | none => simp [hsh] at h
        | some sh =>
          simp only [hsh] at h
          rw [mEw_at hsh]
          split at h
          · next c n fl he =>
            cases he
            exact h
          · cases h
      · cases h
  | 1, h => rw [mcall_any]; exact h
  | n + 2, h => cases h
theorem exS_ok : ∀ (n d : Nat) (S : Option (Nat × (Nat → Int32))) (y pc : Nat) (L : List (Option Value)) (st : List Value) (M : mMem) (r : Option Value) (M' : mMem), exS n d S y pc L st M = some (r, M') → exA n d S y pc L st (mEw M) = some (r, mEw M')
  | 0, _, _, _, _, _, _, _, _, _, h => by cases h
  | n + 1, d, S, y, pc, L, st, M, r, M', h => by
    simp only [exS] at h
    simp only [exA]
    cases hI : mI y pc with
    | none => simp [hI] at h
    | some q =>
      obtain ⟨gg, op, a, bb⟩ := q
      simp only [hI] at h ⊢
      match gg, h with
      | 0, h =>
        cases hp : mpure op a bb L st with
        | none => simp [hp] at h
        | some q => simp only [hp] at h ⊢; exact exS_ok n _ _ _ _ _ _ _ _ _ h
      | 1, h =>
        cases hp : mjump op a bb pc st with
        | none => simp [hp] at h
        | some q => simp only [hp] at h ⊢; exact exS_ok n _ _ _ _ _ _ _ _ _ h
      | 2, h =>
        cases hp : mmemS op a S st M with
        | none => simp [hp] at h
        | some q => simp only [hp] at h; simp only [mmemS_ok (y := y) hp]; exact exS_ok n _ _ _ _ _ _ _ _ _ h
      | 3, h =>
        cases hp : mret op y st with
        | none => simp [hp] at h
        | some q => simp only [hp] at h ⊢; cases h; rfl
      | 4, h =>
        cases d with
        | zero => cases h
        | succ d' =>
          cases hp : mcallS op a st with
          | none => simp [hp] at h
          | some q =>
            simp only [hp] at h
            simp only [mcallS_ok (M := M) hp]
            cases hz : exS n d' none q.1 0 (ment q.1 q.2.1) [] M with
            | none => simp [hz] at h
            | some z =>
              obtain ⟨r1, M1⟩ := z
              simp only [hz] at h
              simp only [exS_ok n _ _ _ _ _ _ _ _ _ hz]
              exact exS_ok n _ _ _ _ _ _ _ _ _ h
      | 5, h =>
        cases d with
        | zero => cases h
        | succ d' =>
          cases hp : mnatS op a st M with
          | none => simp [hp] at h
          | some q => simp only [hp] at h; simp only [mnatS_ok hp]; exact exS_ok n _ _ _ _ _ _ _ _ _ h
      | 6, h =>
        cases hp : mcon op a st with
        | none => simp [hp] at h
        | some q => simp only [hp] at h ⊢; exact exS_ok n _ _ _ _ _ _ _ _ _ h
      | gg + 7, h => cases h
