/-! THE CHECKER OF SAFETY: cells. tyL: what each cell holds (.inl: an array, all its ints; .inr: an object, slot by slot) -/
abbrev aTyL : Type := List (aIv ⊕ List aIv)
def aTy (T : aTyL) (k j : Nat) : aIv := match T[k]? with
  | some (.inl iv) => iv
  | some (.inr l) => l.getD j aTop
  | none => aTop
def aInv (T : aTyL) (M : mMem) : Prop := ∀ k, k < 123 → ∀ j, j < 400 → aIn (M k j) (aTy T k j)
def aSub (a b : aIv) : Bool := decide (b.1 ≤ a.1 ∧ a.2 ≤ b.2)
theorem aSub_ok {a b : aIv} {x : Int32} (h : aSub a b = true) (hx : aIn x a) : aIn x b := by
  have h := of_decide_eq_true h
  obtain ⟨h1, h2⟩ := hx
  exact ⟨by omega, by omega⟩
def aFit (ty : FieldType) (iv : aIv) : Bool := match ty with
  | .int => true
  | .boolean => aSub iv (0, 1)
  | _ => false
theorem aFit_ok {ty : FieldType} {iv : aIv} {x : Int32} (h : aFit ty iv = true) (hx : aIn x iv) : mnf ty (.int x) = true := by
  cases ty with
  | int => unfold mnf; simp [narrow, fits]
  | boolean =>
    obtain ⟨h1, h2⟩ := aSub_ok h hx
    have h1 : (0 : Int) ≤ x.toInt := h1
    have h2 : x.toInt ≤ (1 : Int) := h2
    have : x = 0 ∨ x = 1 := by
      have e0 : (0 : Int32).toInt = 0 := rfl
      have e1 : (1 : Int32).toInt = 1 := rfl
      rcases (show x.toInt = 0 ∨ x.toInt = 1 by omega) with h | h
      · exact Or.inl (Int32.toInt_inj.mp (h.trans e0.symm))
      · exact Or.inr (Int32.toInt_inj.mp (h.trans e1.symm))
    rcases this with rfl | rfl <;> rfl
  | _ => cases h
def aMem (T : aTyL) (wok : Nat → Nat → Nat → Bool) (op a : Nat) (A : aSt) : Option aSt := match A with
  | (AL, AS, AF, fl) => match op with
    | 0 => match AS, mFS[a]? with
      | .inl k :: r, some q => match mSH[k]? with
        | some (c + 3, _, fl') => if q.2.2.2.2.2.2.2.contains c = true ∧ k < 123 ∧ q.2.2.2.2.2.2.1 < 400 then match fl'[q.2.2.2.2.2.2.1]? with
            | some (some t) => some (AL, .inl t :: r, AF, fl)
            | some none => some (AL, .inr ((AF.lookup (k, q.2.2.2.2.2.2.1)).getD (aTy T k q.2.2.2.2.2.2.1), some (.inr (k, q.2.2.2.2.2.2.1)), none) :: r, AF, fl)
            | none => none
          else none
        | _ => none
      | _, _ => none
    | 1 => match AS, mFS[a]? with
      | .inr (iv, _, _) :: .inl k :: r, some q => match mSH[k]? with
        | some (c + 3, _, fl') => match mcl[c]?, mty[c]?, fl'[q.2.2.2.2.2.2.1]? with
          | some (_, F, _), some ty, some none => if q.2.2.2.2.2.2.2.contains c = true ∧ aFit (ty q.2.2.2.2.2.2.1) iv = true ∧ (F q.2.2.2.2.2.2.1).2.2.2 = false ∧ aSub iv (aTy T k q.2.2.2.2.2.2.1) = true ∧ wok fl k q.2.2.2.2.2.2.1 = true then some (AL.map (Option.map (aDropF k q.2.2.2.2.2.2.1)), r.map (aDropF k q.2.2.2.2.2.2.1), ((k, q.2.2.2.2.2.2.1), iv) :: AF.filter (fun f => decide (f.1 ≠ (k, q.2.2.2.2.2.2.1))), fl) else none
          | _, _, _ => none
        | _ => none
      | _, _ => none
    | 2 => match AS with
      | .inr (iv, _, _) :: .inl k :: r => match mSH[k]?, T[k]? with
        | some (0, n, _), some (.inl ty) => if 0 ≤ iv.1 ∧ iv.2 < n ∧ n ≤ 400 ∧ k < 123 then some (AL, .inr (ty, none, none) :: r, AF, fl) else none
        | _, _ => none
      | _ => none
    | 3 => match AS with
      | .inr (ix, _, _) :: .inr (iv, _, _) :: .inl k :: r => match mSH[k]?, T[k]? with
        | some (0, n, _), some (.inl ty) => if 0 ≤ iv.1 ∧ iv.2 < n ∧ n ≤ 400 ∧ k < 123 ∧ aSub ix ty = true ∧ wok fl k 999 = true then some (AL.map (Option.map (aDropC k)), r.map (aDropC k), AF.filter (fun f => decide (f.1.1 ≠ k)), fl) else none
        | _, _ => none
      | _ => none
    | 4 => match AS with
      | .inr (iv, _, _) :: .inl k :: r => match mSH[k]? with
        | some (t, n, ts) => if 0 ≤ iv.1 ∧ iv.1 = iv.2 ∧ iv.2 < n ∧ n ≤ 400 ∧ t < 3 ∧ t ≠ 0 ∧ k < 123 then match ts[iv.1.toNat]? with | some (some z) => some (AL, .inl z :: r, AF, fl) | _ => none else none
        | none => none
      | _ => none
    | 5 => match AS with
      | .inl k :: r => match mSH[k]? with
        | some (t, n, _) => if t < 3 ∧ n ≤ 400 ∧ k < 123 then some (AL, .inr ((n, n), none, none) :: r, AF, fl) else none
        | none => none
      | _ => none
    | _ => none
theorem aidx {i : Int32} {n : Nat} {iv : aIv} (hi : aIn i iv) (h0 : 0 ≤ iv.1) (h1 : iv.2 < n) : ¬ (i < 0 ∨ n ≤ i.toNatClampNeg) ∧ i.toNatClampNeg < n ∧ (i.toNatClampNeg : Int) = i.toInt := by
  obtain ⟨a1, a2⟩ := hi
  have e : (i.toNatClampNeg : Int) = i.toInt := by show ((i.toInt.toNat : Nat) : Int) = i.toInt; omega
  refine ⟨?_, by omega, e⟩
  rintro (h | h)
  · have := Int32.lt_iff_toInt_lt.mp h
    have z : (0 : Int32).toInt = 0 := rfl
    omega
  · omega
theorem aInv.put {T : aTyL} {M : mMem} {k j : Nat} {x : Int32} (h : aInv T M) (hx : j < 400 → k < 123 → aIn x (aTy T k j)) : aInv T (mup M k j x) := by
  intro q hq i hi
  unfold mup
  split
  · next e =>
    subst e
    unfold upd
    split
    · next e2 => subst e2; exact hx hi hq
    · exact h q hq i hi
  · exact h q hq i hi
theorem mup_at (M : mMem) (k j : Nat) (x : Int32) {k' j' : Nat} (h : (k', j') ≠ (k, j)) : mup M k j x k' j' = M k' j' := by
  unfold mup
  split
  · next e =>
    subst e
    unfold upd
    rw [if_neg (fun e2 => h (by rw [e2]))]
  · rfl
theorem alookF {M : mMem} {F : List ((Nat × Nat) × aIv)} {q : Nat × Nat} {d : aIv} (h : gF M F) (hd : aIn (M q.1 q.2) d) : aIn (M q.1 q.2) ((F.lookup q).getD d) := by
  cases hl : F.lookup q with
  | none => exact hd
  | some iv =>
    obtain ⟨l1, l2, e, -⟩ := List.lookup_eq_some_iff.mp hl
    exact h (q, iv) (by rw [e]; simp)
set_option maxHeartbeats 2000000 in
theorem aMem_ok {T : aTyL} {wok : Nat → Nat → Nat → Bool} {G : Nat → mMem → Prop} (hG : ∀ (fl k j : Nat) (x : Int32) (M : mMem), (wok fl k j = true ∨ wok fl k 999 = true) → G fl M → G fl (mup M k j x)) {y op a : Nat} {s0 : Nat → Int} {A A' : aSt} {L : List (Option Value)} {st : List Value} {M : mMem} (h : aMem T wok op a A = some A') (hg : gA y s0 A L st M) (hI : aInv T M) (hGh : G A.2.2.2 M) :
    ∃ st' M', mmemS op a none st M = some (st', M') ∧ gA y s0 A' L st' M' ∧ aInv T M' ∧ G A'.2.2.2 M' := by
  obtain ⟨AL, AS, AF, fl⟩ := A
  obtain ⟨h1, h2, h3, h4, h5⟩ := hg
  match op, h with
  | 0, h =>
    cases hF : mFS[a]? with
    | none => simp only [aMem, hF] at h; cases h
    | some q =>
      match AS, st, h, h2 with
      | [], _, h, h2 => simp only [aMem, hF] at h; cases h
      | .inr X :: r, _, h, h2 => simp only [aMem, hF] at h; cases h
      | .inl k :: r, v :: st, h, ⟨g1, g2⟩ =>
        have g1 : v = .ref k := g1
        subst g1
        simp only [aMem, hF] at h
        cases hS : mSH[k]? with
        | none => simp [hS] at h
        | some sh =>
          simp only [hS] at h
          split at h
          · next c n0 fl' he =>
            cases he
            split at h
            · next hc =>
              split at h
              · next t ht =>
                cases h
                exact ⟨.ref t :: st, M, by simp only [mmemS, hF, hS, if_pos hc.1, ht], ⟨h1, ⟨rfl, g2⟩, h3, h4, h5⟩, hI, hGh⟩
              · next ht =>
                cases h
                exact ⟨.int (M k q.2.2.2.2.2.2.1) :: st, M, by simp only [mmemS, hF, hS, if_pos hc.1, ht], ⟨h1, ⟨⟨_, rfl, alookF (q := (k, q.2.2.2.2.2.2.1)) h3 (hI k hc.2.1 _ hc.2.2), rfl, trivial⟩, g2⟩, h3, h4, h5⟩, hI, hGh⟩
              · cases h
            · cases h
          · cases h
  | 1, h =>
    cases hF : mFS[a]? with
    | none => simp only [aMem, hF] at h; cases h
    | some q =>
      match AS, st, h, h2 with
      | [], _, h, h2 => simp only [aMem, hF] at h; cases h
      | .inl k :: r, _, h, h2 => simp only [aMem, hF] at h; cases h
      | .inr X :: [], _, h, h2 => simp only [aMem, hF] at h; cases h
      | .inr X :: .inr Y :: r, _, h, h2 => simp only [aMem, hF] at h; cases h
      | .inr (iv, o, t) :: .inl k :: r, v :: w :: st, h, ⟨⟨x, e1, x1, x2, x3⟩, g1, g2⟩ =>
        have g1 : w = .ref k := g1
        subst g1; subst e1
        simp only [aMem, hF] at h
        cases hS : mSH[k]? with
        | none => simp [hS] at h
        | some sh =>
          simp only [hS] at h
          split at h
          · next c n0 fl' he =>
            cases he
            cases hc : mcl[c]? with
            | none => simp [hc] at h
            | some cq =>
              obtain ⟨C, F, N⟩ := cq
              cases hty : mty[c]? with
              | none => simp [hc, hty] at h
              | some ty =>
                cases hj : fl'[q.2.2.2.2.2.2.1]? with
                | none => simp [hc, hty, hj] at h
                | some oo =>
                  cases oo with
                  | some t => simp [hc, hty, hj] at h
                  | none =>
                    simp only [hc, hty, hj] at h
                    split at h
                    · next hcond =>
                      cases h
                      obtain ⟨c1, c2, c3, c4, c5⟩ := hcond
                      have hd : ∀ a v, gV s0 L M a v → gV s0 L (mup M k q.2.2.2.2.2.2.1 x) (aDropF k q.2.2.2.2.2.2.1 a) v := fun a v hv => hv.dropF (fun k' j' hne => mup_at _ _ _ _ hne)
                      refine ⟨st, mup M k q.2.2.2.2.2.2.1 x, by simp only [mmemS, hF, hS, hc, hty, hj]; rw [if_pos ⟨c1, aFit_ok c2 x1, c3⟩], ⟨h1.map hd, gSt.map hd g2, fun f hf => ?_, h4, h5⟩, hI.put (fun _ _ => aSub_ok c4 x1), hG _ _ _ _ _ (Or.inl c5) hGh⟩
                      rcases List.mem_cons.mp hf with rfl | hf
                      · show aIn (mup M k q.2.2.2.2.2.2.1 x k q.2.2.2.2.2.2.1) iv
                        rw [mup_self]
                        unfold upd
                        rw [if_pos rfl]
                        exact x1
                      · obtain ⟨f1, f2⟩ := List.mem_filter.mp hf
                        have f2 := of_decide_eq_true f2
                        rw [mup_at M k q.2.2.2.2.2.2.1 x (k' := f.1.1) (j' := f.1.2) f2]
                        exact h3 f f1
                    · cases h
          · cases h
  | 2, h =>
    match AS, st, h, h2 with
    | [], _, h, h2 => cases h
    | .inl k :: r, _, h, h2 => cases h
    | .inr X :: [], _, h, h2 => cases h
    | .inr X :: .inr Y :: r, _, h, h2 => cases h
    | .inr (iv, o, t) :: .inl k :: r, v :: w :: st, h, ⟨⟨x, e1, x1, x2, x3⟩, g1, g2⟩ =>
      have g1 : w = .ref k := g1
      subst g1; subst e1
      simp only [aMem] at h
      split at h
      · next n ts ty hS hT =>
        split at h
        · next hc =>
          cases h
          obtain ⟨c1, c2, c3, c4⟩ := hc
          obtain ⟨i1, i2, i3⟩ := aidx x1 c1 c2
          have hk : ¬ k = mSCR := by unfold mSCR; omega
          have hv := hI k c4 x.toNatClampNeg (by omega)
          unfold aTy at hv
          rw [hT] at hv
          exact ⟨.int (M k x.toNatClampNeg) :: st, M, by simp only [mmemS, if_neg hk, hS, if_neg i1], ⟨h1, ⟨⟨_, rfl, hv, trivial, trivial⟩, g2⟩, h3, h4, h5⟩, hI, hGh⟩
        · cases h
      · cases h
  | 3, h =>
    match AS, st, h, h2 with
    | [], _, h, h2 => cases h
    | .inl k :: r, _, h, h2 => cases h
    | .inr X :: [], _, h, h2 => cases h
    | .inr X :: .inl k :: r, _, h, h2 => cases h
    | .inr X :: .inr Y :: [], _, h, h2 => cases h
    | .inr X :: .inr Y :: .inr Z :: r, _, h, h2 => cases h
    | .inr (ix, ox, tx) :: .inr (iv, o, t) :: .inl k :: r, u :: v :: w :: st, h, ⟨⟨z, e0, z1, z2, z3⟩, ⟨x, e1, x1, x2, x3⟩, g1, g2⟩ =>
      have g1 : w = .ref k := g1
      subst g1; subst e1; subst e0
      simp only [aMem] at h
      split at h
      · next n ts ty hS hT =>
        split at h
        · next hc =>
          cases h
          obtain ⟨c1, c2, c3, c4, c5, c6⟩ := hc
          obtain ⟨i1, i2, i3⟩ := aidx x1 c1 c2
          have hne : ∀ k', k' ≠ k → mup M k x.toNatClampNeg z k' = M k' := fun k' h => mup_ne _ _ _ _ h
          have hd : ∀ a v, gV s0 L M a v → gV s0 L (mup M k x.toNatClampNeg z) (aDropC k a) v := fun a v hv => hv.dropC hne
          refine ⟨st, mup M k x.toNatClampNeg z, by simp only [mmemS, hS, if_neg i1], ⟨h1.map hd, gSt.map hd g2, fun f hf => ?_, h4, h5⟩, hI.put (fun _ _ => ?_), hG _ _ _ _ _ (Or.inr c6) hGh⟩
          · obtain ⟨f1, f2⟩ := List.mem_filter.mp hf
            have f2 := of_decide_eq_true f2
            rw [hne _ f2]
            exact h3 f f1
          · unfold aTy
            rw [hT]
            exact aSub_ok c5 z1
        · cases h
      · cases h
  | 4, h =>
    match AS, st, h, h2 with
    | [], _, h, h2 => cases h
    | .inl k :: r, _, h, h2 => cases h
    | .inr X :: [], _, h, h2 => cases h
    | .inr X :: .inr Y :: r, _, h, h2 => cases h
    | .inr (iv, o, t) :: .inl k :: r, v :: w :: st, h, ⟨⟨x, e1, x1, x2, x3⟩, g1, g2⟩ =>
      have g1 : w = .ref k := g1
      subst g1; subst e1
      simp only [aMem] at h
      cases hS : mSH[k]? with
      | none => simp [hS] at h
      | some sh =>
        obtain ⟨t', n, ts⟩ := sh
        simp only [hS] at h
        split at h
        · next hc =>
          obtain ⟨c1, c0, c2, c3, c4, c5, c6⟩ := hc
          split at h
          · next z hz =>
            cases h
            obtain ⟨i1, i2, i3⟩ := aidx x1 c1 c2
            obtain ⟨x11, x12⟩ := x1
            have hx : x.toNatClampNeg = iv.1.toNat := by omega
            refine ⟨.ref z :: st, M, ?_, ⟨h1, ⟨rfl, g2⟩, h3, h4, h5⟩, hI, hGh⟩
            simp only [mmemS, hS]
            rw [if_neg (by rintro (h | h | h); exact i1 h; omega; exact c5 h), hx, hz]
          · cases h
        · cases h
  | 5, h =>
    match AS, st, h, h2 with
    | [], _, h, h2 => cases h
    | .inr X :: r, _, h, h2 => cases h
    | .inl k :: r, w :: st, h, ⟨g1, g2⟩ =>
      have g1 : w = .ref k := g1
      subst g1
      simp only [aMem] at h
      cases hS : mSH[k]? with
      | none => simp [hS] at h
      | some sh =>
        obtain ⟨t', n, ts⟩ := sh
        simp only [hS] at h
        split at h
        · next hc =>
          cases h
          obtain ⟨c1, c2, c3⟩ := hc
          have hk : ¬ k = mSCR := by unfold mSCR; omega
          have hn : (Int32.ofNat n).toInt = (n : Int) := nI_toInt (by omega)
          exact ⟨.int (Int32.ofNat n) :: st, M, by simp only [mmemS, if_neg hk, hS, if_pos c1], ⟨h1, ⟨⟨_, rfl, ⟨by rw [hn]; exact Int.le_refl _, by rw [hn]; exact Int.le_refl _⟩, trivial, trivial⟩, g2⟩, h3, h4, h5⟩, hI, hGh⟩
        · cases h
  | n + 6, h => cases h
