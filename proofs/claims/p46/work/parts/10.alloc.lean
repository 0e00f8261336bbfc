/-! THE MINI-MACHINE AGAINST THE MACHINE: what makes cells -/
theorem mdef_rv (bs b : Nat) (ty : FieldType) : mrv bs b (defaultValue ty) = defaultValue ty := by cases ty <;> rfl
section MM3
variable {p : Program} {l : Launch} {e : Env} {R : Room} {s : State} {m : MethodId} {args : Array Value} {below : List Frame} {meth : Method} {c : Code} {H H0 : Heap} {locs : List Loc} {cells slots : Nat} {Q : State → Prop} {pc bs b : Nat} {ls : Array Slot} {nL y : Nat} {D : va_G} {g : Nat → ClassId}
theorem snd_new (C0 : mCx p s m meth c y D g) {a : Nat} {bb : Int} {S : Option (Nat × (Nat → Int32))} {st st' : List Value} {M M' : List mE} (h : mmem y 6 a S st M = some (st', M')) (hd : decode (mB y) pc = .ok (mraw2 6 a bb, 3)) (ho : mown (mCno y) (pc, 2, 6, a, bb) = true)
    (hR : mRel D g bs b M H) (hS : va_S (fun q => bs ≤ q) H0 H locs) (hcl : cells + M'.length ≤ R.cells + M.length) (hsl : slots + msz M' ≤ R.slots + msz M) (kk : mKk p l e R s m args below meth c H0 cells slots Q bs b D g (pc + 3) ls M M' st') : mWst p l e R s m args below meth c H locs cells slots Q bs b pc ls st := by
  obtain ⟨hx, hb, hown, hK, hnm, -⟩ := C0
  cases hF : mNS[a]? with
  | none => simp only [mmem, hF] at h; cases h
  | some q =>
    have hq := mNS_ok hF
    obtain ⟨o, idx, k, nmc, ci, n⟩ := q
    simp only [mraw2, hF] at hd
    simp only [mown, hF, Bool.and_eq_true, beq_iff_eq] at ho
    obtain ⟨ho1, ho2⟩ := ho
    subst ho1; subst ho2
    simp only [mmem, hF] at h
    obtain ⟨T, hc, -, w1, w2, w3⟩ := hq
    cases hty : mty[ci]? with
    | none => simp only [hty] at h; cases h
    | some ty =>
      simp only [hty] at h
      split at h
      · next hcond =>
        cases h
        have hts : ∀ w ∈ mTL, w.before args s = true := fun w hw => hK.2 w hw args
        have hKn := hK.1.1 ci _ hc
        have hc1 : cells + 1 ≤ R.cells := by rw [List.length_append] at hcl; simp at hcl; omega
        have hs1 : slots + n ≤ R.slots := by
          rw [msz_app] at hsl
          have : msz [(.inr (ci, (List.range n).map (fun j => defaultValue (ty j))) : mE)] = n := by simp [msz, mszE]
          omega
        refine W.newcK hx hb hown (hts _ w1) (hts _ w2) (hts _ w3) rfl hd hc1 hs1 hKn.2.1 hR.1 (fun H1 kC hkC e1 z1 o1 => ?_)
        have hset : va_at D mcl (bs + M.length, mre bs b g (.inr (ci, (List.range n).map (fun j => defaultValue (ty j))))) H1 := by
          refine ⟨_, hc, (u_born ty hts (mlay_all ci _ hc) hKn hkC e1 (mty_all ci _ _ hc hty)).to (fun j hj => ?_)⟩
          have hj : j < n := hj
          simp [vp_V, hj, mdef_rv]
        have hkk := kk H1 locs (cells + 1) (slots + n) (by simp; omega) (by rw [msz_app]; simp [msz, mszE]; omega) (hR.push hcond.2 hset (by rw [z1, hR.1]) (fun q hq => o1 q (by rw [hR.1] at hq; exact hq))) (mS_push hS (by rw [z1, hR.1]; omega) (fun q hq => o1 q (by rw [hR.1] at hq; exact hq)))
        have e9 : mrv bs b (.ref M.length) = .ref (bs + M.length) := congrArg Value.ref (madd_lt hR.2.1)
        simp only [mWst, List.map_cons, e9] at hkk
        exact hkk
      · cases h
theorem snd_newa (C0 : mCx p s m meth c y D g) {a : Nat} {bb : Int} {S : Option (Nat × (Nat → Int32))} {st st' : List Value} {M M' : List mE} (h : mmem y 7 a S st M = some (st', M')) (hd : decode (mB y) pc = .ok (mraw2 7 a bb, 2))
    (hR : mRel D g bs b M H) (hS : va_S (fun q => bs ≤ q) H0 H locs) (hcl : cells + M'.length ≤ R.cells + M.length) (hsl : slots + msz M' ≤ R.slots + msz M) (kk : mKk p l e R s m args below meth c H0 cells slots Q bs b D g (pc + 2) ls M M' st') : mWst p l e R s m args below meth c H locs cells slots Q bs b pc ls st := by
  obtain ⟨hx, hb, hown, hK, hnm, -⟩ := C0
  simp only [mmem] at h
  split at h
  · next n r =>
    split at h
    · cases h
    · next hcond =>
      cases h
      have hn0 : ¬ n < 0 := fun q => hcond (Or.inl q)
      have hn1 : ¬ 1000000 < n.toNatClampNeg := fun q => hcond (Or.inr (Or.inl q))
      have hn2 : ¬ mSCR ≤ M.length + 1 := fun q => hcond (Or.inr (Or.inr q))
      have hc1 : cells + 1 ≤ R.cells := by rw [List.length_append] at hcl; simp at hcl; omega
      have hs1 : slots + n.toNatClampNeg ≤ R.slots := by
        rw [msz_app] at hsl
        have : msz [(.inl (0, n.toNatClampNeg, .inl (fun _ => 0)) : mE)] = n.toNatClampNeg := by simp [msz, mszE]
        omega
      refine va_newaK (atype := .int) hx hb (hK.2 _ warr args) rfl hd rfl hn0 rfl (by show n.toNatClampNeg * 4 ≤ _; omega) hc1 hs1 hR.1 (fun H1 cA e1 z1 o1 hAr hNm => ?_)
      have hcA : cA = g 0 := Option.some.inj (hNm.symm.trans (hK.1.2 0 _ (mtys_0 g)).2)
      subst hcA
      have hset : va_at D mcl (bs + M.length, mre bs b g (.inl (0, n.toNatClampNeg, .inl (fun _ => 0)))) H1 := e1
      have hkk := kk H1 locs (cells + 1) (slots + n.toNatClampNeg) (by simp; omega) (by rw [msz_app]; simp [msz, mszE]; omega) (hR.push (by omega) hset (by rw [z1, hR.1]) (fun q hq => o1 q (by rw [hR.1] at hq; exact hq))) (mS_push hS (by rw [z1, hR.1]; omega) (fun q hq => o1 q (by rw [hR.1] at hq; exact hq)))
      have e9 : mrv bs b (.ref M.length) = .ref (bs + M.length) := congrArg Value.ref (madd_lt hR.2.1)
      simp only [mWst, List.map_cons, e9] at hkk
      exact hkk
  · cases h
theorem snd_anew (C0 : mCx p s m meth c y D g) {a : Nat} {bb : Int} {S : Option (Nat × (Nat → Int32))} {st st' : List Value} {M M' : List mE} (h : mmem y 8 a S st M = some (st', M')) (hd : decode (mB y) pc = .ok (mraw2 8 a bb, 3)) (ho : mown (mCno y) (pc, 2, 8, a, bb) = true)
    (hR : mRel D g bs b M H) (hS : va_S (fun q => bs ≤ q) H0 H locs) (hcl : cells + M'.length ≤ R.cells + M.length) (hsl : slots + msz M' ≤ R.slots + msz M) (kk : mKk p l e R s m args below meth c H0 cells slots Q bs b D g (pc + 3) ls M M' st') : mWst p l e R s m args below meth c H locs cells slots Q bs b pc ls st := by
  obtain ⟨hx, hb, hown, hK, hnm, -⟩ := C0
  cases hF : mNS[a]? with
  | none => simp only [mmem, hF] at h; cases h
  | some q =>
    have hq := mNS_ok hF
    obtain ⟨o, idx, k, nmc, ci, n0⟩ := q
    simp only [mraw2, hF] at hd
    simp only [mown, hF, Bool.and_eq_true, beq_iff_eq] at ho
    obtain ⟨ho1, ho2⟩ := ho
    subst ho1; subst ho2
    simp only [mmem, hF] at h
    obtain ⟨hnmc, w1, w2⟩ := hq
    subst hnmc
    split at h
    · next n r q9 he9 =>
      split at h
      · cases h
      · next hcond =>
        cases h
        have hn0 : ¬ n < 0 := fun q => hcond (Or.inl q)
        have hn1 : ¬ 1000000 < n.toNatClampNeg := fun q => hcond (Or.inr (Or.inl q))
        have hn2 : ¬ mSCR ≤ M.length + 1 := fun q => hcond (Or.inr (Or.inr (Or.inl q)))
        have hts : ∀ w ∈ mTL, w.before args s = true := fun w hw => hK.2 w hw args
        have hc1 : cells + 1 ≤ R.cells := by rw [List.length_append] at hcl; simp at hcl; omega
        have hs1 : slots + n.toNatClampNeg ≤ R.slots := by
          rw [msz_app] at hsl
          have : msz [(.inl (1, n.toNatClampNeg, .inr (fun _ => none)) : mE)] = n.toNatClampNeg := by simp [msz, mszE]
          omega
        refine W.anew hx hb hown (hts _ w1) (hts _ w2) rfl hd rfl hn0 (by omega) hc1 hs1 (fun cA kA comp f1 f2 f3 f4 => ?_)
        generalize hH1 : H.push ({ cls := cA, slots := Array.replicate n.toNatClampNeg .null, vm := .none } : Cell) = H1
        have z1 : H1.size = H.size + 1 := by rw [← hH1, Array.size_push]
        have e1 : H1[H.size]? = some (arrV cA n.toNatClampNeg (fun _ => .null)) := by rw [← hH1, Array.getElem?_push_size, ← arrV_new]
        have o1 : ∀ q : Nat, q < H.size → H1[q]? = H[q]? := fun q hq => by rw [← hH1, Array.getElem?_push, if_neg (Nat.ne_of_lt hq)]
        have hcA : cA = g 1 := by
          obtain ⟨kA', comp', r1, r2, r3, r4⟩ := (hK.1.2 1 (g 1, .object RX2) rfl).2
          exact Option.some.inj (f1.symm.trans r4)
        subst hcA
        have hset : va_at D mcl (bs + M.length, mre bs b g (.inl (1, n.toNatClampNeg, .inr (fun _ => none)))) H1 := by
          rw [hR.1] at e1
          exact e1
        have hkk := kk H1 locs (cells + 1) (slots + n.toNatClampNeg) (by simp; omega) (by rw [msz_app]; simp [msz, mszE]; omega) (hR.push (by omega) hset z1 o1) (mS_push hS (by omega) o1)
        have e9 : mrv bs b (.ref M.length) = .ref (bs + M.length) := congrArg Value.ref (madd_lt hR.2.1)
        simp only [mWst, List.map_cons, e9, ← hR.1] at hkk
        exact hkk
    · cases h
theorem snd_aast (C0 : mCx p s m meth c y D g) {a : Nat} {bb : Int} {S : Option (Nat × (Nat → Int32))} {st st' : List Value} {M M' : List mE} (h : mmem y 10 a S st M = some (st', M')) (hd : decode (mB y) pc = .ok (mraw2 10 a bb, 1))
    (hR : mRel D g bs b M H) (hS : va_S (fun q => bs ≤ q) H0 H locs) (kk : mKk p l e R s m args below meth c H0 cells slots Q bs b D g (pc + 1) ls M M' st') : mWst p l e R s m args below meth c H locs cells slots Q bs b pc ls st := by
  obtain ⟨hx, hb, hown, hK, hnm, -⟩ := C0
  simp only [mmem] at h
  split at h
  · next v i k r =>
    split at h
    · next n f fs hM hV =>
      split at h
      · cases h
      · next hin =>
        cases h
        show W p l e R s m args below meth c H locs cells slots Q (F0 m pc ls (.ref (madd bs b v) :: .int i :: .ref (madd bs b k) :: List.map (mrv bs b) _))
        rw [madd_lt (hR.lt hM), madd_lt (hR.lt hV)]
        have hlt : i.toNatClampNeg < n := Nat.not_le.mp fun q => hin (Or.inr q)
        have h0 : ¬ i < 0 := fun q => hin (Or.inl q)
        have hcell : H[bs + k]? = some (vp_cell (g 1) (n, .inr (.inr (.inr (.inr (fun i => (f i).map (madd bs b))))))) := hR.2.2 k _ (mws_at hM)
        obtain ⟨r', hr', cellV, g1, g2, g3, -⟩ := hR.2.2 v _ (mws_at hV)
        have hr' : r' = (RX2, TX2, 8) := by
          have e9 : mcl[2]? = some (RX2, TX2, 8) := rfl
          exact Option.some.inj (hr'.symm.trans e9)
        subst hr'
        have hcls := (hK.1.1 2 (RX2, TX2, 8) rfl).2
        obtain ⟨kA, comp, k1, k2, k3, -⟩ := (hK.1.2 1 (g 1, .object RX2) rfl).2
        have hcomp : comp = D.1 2 := Option.some.inj (k3.symm.trans hcls.1)
        subst hcomp
        obtain ⟨kC, hkC, -⟩ := hcls.2
        refine W.aast hx hb hcell (fun q h => by cases h) (fun h => by cases h) k1 k2 rfl hkC ⟨h0, by show _ < (arrV _ _ _).slots.size; rw [arrV_size]; exact hlt⟩ g1 (fun q h => by rw [g3] at h; cases h) (by rw [g2]; exact hkC) (by rw [g2]; exact va_assign hcls) rfl rfl hd (fun H1 e1 z1 z3 => ?_)
        have hset : va_at D mcl (bs + k, mre bs b g (.inl (1, n, .inr (va_up f i.toNatClampNeg (some v))))) H1 := by
          show H1[bs + k]? = some (vp_cell _ _)
          rw [e1, vp_cell_q, vp_cell_q, arrV_store]
          refine congrArg (fun z => some (arrV (g 1) n z)) (funext fun q => ?_)
          by_cases hq : q = i.toNatClampNeg
          · simp [updV, va_up, va_rf, hq, madd_lt (hR.lt hV)]
          · simp [updV, va_up, hq]
        have hsz : msz (M.set k (.inl (1, n, .inr (va_up f i.toNatClampNeg (some v))))) = msz M := msz_set hM rfl
        exact kk H1 _ cells slots (by simp) (by rw [hsz]) (hR.set hM hset z1 z3) (mS_put hS z1 z3 (by omega))
    · cases h
  · cases h
end MM3
