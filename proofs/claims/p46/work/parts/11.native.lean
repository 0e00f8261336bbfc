/-! THE MINI-MACHINE AGAINST THE MACHINE: new T[n][m], System.arraycopy, Object.<init>, Math.max, min, abs, constants -/
theorem mouter (cA : ClassId) (N h0 : Nat) : ∀ i : Nat, Jvm.Free.Multi.outerC cA N h0 i = arrV cA N (fun j => va_rf (if j < i then some (h0 + 1 + j) else none))
  | 0 => (arrV_new cA N .null).trans (congrArg (arrV cA N) (funext fun j => by simp [va_rf]))
  | i + 1 => by
    have h1 : Jvm.Free.Multi.outerC cA N h0 (i + 1) = (Jvm.Free.Multi.outerC cA N h0 i).setSlot i (.ref (h0 + 1 + i)) := rfl
    rw [h1, mouter cA N h0 i, arrV_store]
    refine congrArg (arrV cA N) (funext fun j => ?_)
    rcases Nat.lt_trichotomy j i with h | h | h
    · simp [updV, show j ≠ i by omega, h, show j < i + 1 by omega]
    · subst h; simp [updV, va_rf]
    · simp [updV, show j ≠ i by omega, show ¬ j < i by omega, show ¬ j < i + 1 by omega]
section MM4
variable {p : Program} {l : Launch} {e : Env} {R : Room} {s : State} {m : MethodId} {args : Array Value} {below : List Frame} {meth : Method} {c : Code} {H H0 : Heap} {locs : List Loc} {cells slots : Nat} {Q : State → Prop} {pc bs b : Nat} {ls : Array Slot} {nL y : Nat} {D : va_G} {g : Nat → ClassId}
theorem snd_multi (C0 : mCx p s m meth c y D g) {a : Nat} {bb : Int} {S : Option (Nat × (Nat → Int32))} {st st' : List Value} {M M' : List mE} (h : mmem y 9 a S st M = some (st', M')) (hd : decode (mB y) pc = .ok (mraw2 9 a bb, 4)) (ho : mown (mCno y) (pc, 2, 9, a, bb) = true)
    (hR : mRel D g bs b M H) (hS : va_S (fun q => bs ≤ q) H0 H locs) (hcl : cells + M'.length ≤ R.cells + M.length) (hsl : slots + msz M' ≤ R.slots + msz M) (kk : mKk p l e R s m args below meth c H0 cells slots Q bs b D g (pc + 4) ls M M' st') : mWst p l e R s m args below meth c H locs cells slots Q bs b pc ls st := by
  obtain ⟨hx, hb, hown, hK, hnm, -⟩ := C0
  cases hF : mNS[a]? with
  | none => simp only [mmem, hF] at h; cases h
  | some q =>
    have hq := mNS_ok hF
    obtain ⟨o, idx, k, nmc, ci, n0⟩ := q
    simp only [mraw2, hF] at hd
    simp only [mown, hF, Bool.and_eq_true, beq_iff_eq] at ho
    obtain ⟨⟨ho1, ho2⟩, ho3⟩ := ho
    subst ho1; subst ho2; subst ho3
    simp only [mmem, hF] at h
    obtain ⟨hnmc, w1, w2⟩ := hq
    subst hnmc
    split at h
    · next k n r q9 he9 =>
      split at h
      · cases h
      · next hcond =>
        cases h
        have hn0 : ¬ n < 0 := fun q => hcond (Or.inl q)
        have hk0 : ¬ k < 0 := fun q => hcond (Or.inr (Or.inl q))
        have hn1 : ¬ 1000 < n.toNatClampNeg := fun q => hcond (Or.inr (Or.inr (Or.inl q)))
        have hk1 : ¬ 1000 < k.toNatClampNeg := fun q => hcond (Or.inr (Or.inr (Or.inr (Or.inl q))))
        have hn2 : ¬ mSCR ≤ M.length + 1 + n.toNatClampNeg := fun q => hcond (Or.inr (Or.inr (Or.inr (Or.inr (Or.inl q)))))
        have hts : ∀ w ∈ mTL, w.before args s = true := fun w hw => hK.2 w hw args
        generalize hN : n.toNatClampNeg = N at *
        generalize hKK : k.toNatClampNeg = KK at *
        have hz : msz ((M ++ [.inl (2, N, .inr (fun i => if i < N then some (M.length + 1 + i) else none))]) ++ List.replicate N (.inl (0, KK, .inl (fun _ => 0)))) = msz M + (N + N * KK) := by
          rw [msz_app, msz_app]
          simp [msz, mszE]
          omega
        have hlen : ((M ++ [.inl (2, N, .inr (fun i => if i < N then some (M.length + 1 + i) else none))]) ++ List.replicate N (.inl (0, KK, .inl (fun _ => 0))) : List mE).length = M.length + 1 + N := by simp; omega
        intro T hT Xs
        obtain ⟨vm₁, cA, comp, -, fA, fC, -, -, X', step⟩ := Xs.multianewarray2F hx hown (ty := .int) (hts _ w1) (hts _ w2) (hK.2 _ warr args) (g := F0 m pc ls (.int k :: .int n :: r.map (mrv bs b))) rfl (by rw [hb]; exact hd) rfl hn0 hk0 (by rw [hN]; omega) (by rw [hKK]; show KK * 4 ≤ _; omega) (by rw [hKK]; omega) rfl rfl (by rw [hN]; omega) (by rw [hN, hKK]; omega)
        have ec : comp = g 0 := Option.some.inj (fC.symm.trans (hK.1.2 0 _ (mtys_0 g)).2)
        have ea : cA = g 2 := Option.some.inj (fA.symm.trans (hK.1.2 2 (g 2, .array .int) rfl).2)
        subst ec; subst ea
        rw [hN, hKK] at X' step
        generalize hFF : Jvm.Free.Multi.fill (T.setVm vm₁) (g 2) (g 0) N KK (defaultValue .int) N = F at X' step
        have hTh : (T.setVm vm₁).heap = H := hT
        obtain ⟨f1, f2, -, -⟩ := Jvm.Free.Multi.fill_facts (T.setVm vm₁) (g 2) (g 0) N KK (defaultValue .int) N
        rw [hFF, hTh] at f1 f2
        have hold : ∀ x : Nat, x < H.size → F.heap[x]? = H[x]? := fun x hx => by
          have := Jvm.Free.Multi.fill_old (T.setVm vm₁) (g 2) (g 0) N KK (defaultValue .int) (a := x) (by rw [hTh]; exact hx) N
          rw [hFF, hTh] at this
          exact this
        have hrow : ∀ j : Nat, j < N → F.heap[H.size + 1 + j]? = some (vp_cell (g 0) (KK, .inl (fun _ => 0))) := fun j hj => by
          have := Jvm.Free.Multi.fill_inner (T.setVm vm₁) (g 2) (g 0) N KK (defaultValue .int) N j hj
          rw [hFF, hTh] at this
          rw [this]
          exact congrArg some (arrV_new (g 0) KK (.int 0))
        rw [mouter] at f2
        have hRel : mRel D g bs b ((M ++ [.inl (2, N, .inr (fun i => if i < N then some (M.length + 1 + i) else none))]) ++ List.replicate N (.inl (0, KK, .inl (fun _ => 0)))) F.heap := by
          refine ⟨by rw [f1, hlen, hR.1]; omega, by rw [hlen]; omega, ?_⟩
          rw [mws_app, mws_app]
          refine va_P.app (va_P.app (hR.2.2.kept (fun k x hx => hold x.1 ((hR.2.2 k x hx).lt))) (fun k x hx => ?_)) (fun k x hx => ?_)
          · have hk : k < 1 := (List.getElem?_eq_some_iff.mp hx).1
            rw [show k = 0 by omega] at hx
            cases hx
            show F.heap[bs + M.length]? = some (vp_cell (g 2) (N, _))
            rw [← hR.1, f2, vp_cell_q]
            refine congrArg some (congrArg (arrV (g 2) N) (funext fun j => ?_))
            by_cases hj : j < N
            · have hjl : madd bs b (M.length + 1 + j) = H.size + 1 + j := by rw [madd_lt (by omega), hR.1]; omega
              simp [hj, hjl]
            · simp [hj]
          · rw [mws_get] at hx
            by_cases hk : k < N
            · rw [List.getElem?_replicate, if_pos hk] at hx
              cases hx
              show F.heap[bs + ((M ++ [_]).length + k)]? = some (vp_cell (g 0) (KK, .inl (fun _ => 0)))
              have := hrow k hk
              rw [hR.1] at this
              rw [← this]
              congr 1
              simp
              omega
            · rw [List.getElem?_replicate, if_neg hk] at hx
              cases hx
        have hkk := kk F.heap locs (cells + 1 + N) (slots + N + N * KK) (by rw [hlen]; omega) (by rw [hz]; omega) hRel (mS_push hS (by omega) hold)
        have e9 : mrv bs b (.ref M.length) = .ref (bs + M.length) := congrArg Value.ref (madd_lt hR.2.1)
        simp only [mWst, List.map_cons, e9, ← hR.1] at hkk
        obtain ⟨t, a1, b1⟩ := hkk F rfl X'
        refine ⟨t, step t ?_, b1⟩
        rw [show T.heap.size = H.size by rw [hT]]
        exact a1
    · cases h
theorem mnn (z : Int32) (hz : ¬ z < 0) : z.toInt = (z.toNatClampNeg : Int) := by
  have hz0 : (0 : Int) ≤ z.toInt := by
    have := Int32.not_lt.mp hz
    simpa using Int32.le_iff_toInt_le.mp this
  show z.toInt = ((z.toInt.toNat : Nat) : Int)
  omega
theorem snd_copy (C0 : mCx p s m meth c y D g) {a : Nat} {bb : Int} {st st' : List Value} {M M' : List mE} (h : mnat 0 a st M = some (st', M')) (hd : decode (mB y) pc = .ok (mraw 5 0 a bb, 3)) (ho : mown (mCno y) (pc, 5, 0, a, bb) = true)
    (hls : ls.size = mLo y) (hfr : 1 ≤ R.frames) (hlo : 100 ≤ R.locals) (hR : mRel D g bs b M H) (hS : va_S (fun q => bs ≤ q) H0 H locs) (kk : mKk p l e R s m args below meth c H0 cells slots Q bs b D g (pc + 3) ls M M' st') : mWst p l e R s m args below meth c H locs cells slots Q bs b pc ls st := by
  obtain ⟨hx, hb, hown, hK, hnm, hml⟩ := C0
  cases hF : mSS[a]? with
  | none => simp only [mnat, hF] at h; cases h
  | some q =>
    have hq := mSS_ok hF
    obtain ⟨o, idx, host, k, yy, nn⟩ := q
    simp only [mraw, hF] at hd
    simp only [mown, hF, Bool.and_eq_true, beq_iff_eq] at ho
    obtain ⟨ho1, ho2⟩ := ho
    subst ho1; subst ho2
    simp only [mnat, hF] at h
    obtain ⟨-, w1, w2, w3, w4⟩ := hq
    split at h
    · next n dp kd sp ks r q9 he9 =>
      split at h
      · next n0 f n1 gg hM0 hM1 =>
        split at h
        · cases h
        · next hcond =>
          have h1 : ¬ sp < 0 := fun q => hcond (Or.inl q)
          have h2 : ¬ dp < 0 := fun q => hcond (Or.inr (Or.inl q))
          have h3 : ¬ n < 0 := fun q => hcond (Or.inr (Or.inr (Or.inl q)))
          have h4 : sp.toNatClampNeg + n.toNatClampNeg ≤ n0 := Classical.not_not.mp fun q => hcond (Or.inr (Or.inr (Or.inr (Or.inl q))))
          have h5 : dp.toNatClampNeg + n.toNatClampNeg ≤ n1 := Classical.not_not.mp fun q => hcond (Or.inr (Or.inr (Or.inr (Or.inr (Or.inl q)))))
          have h6 : ¬ 8 < (r.map fun v => v.category).sum := fun q => hcond (Or.inr (Or.inr (Or.inr (Or.inr (Or.inr q)))))
          cases h
          have hts : ∀ w ∈ mTL, w.before args s = true := fun w hw => hK.2 w hw args
          show W p l e R s m args below meth c H locs cells slots Q (F0 m pc ls (.int n :: .int dp :: .ref (madd bs b kd) :: .int sp :: .ref (madd bs b ks) :: List.map (mrv bs b) _))
          rw [madd_lt (hR.lt hM0), madd_lt (hR.lt hM1)]
          have hc0 : H[bs + ks]? = some (vp_cell (g 0) (n0, .inl f)) := hR.2.2 ks _ (mws_at hM0)
          have hc1 : H[bs + kd]? = some (vp_cell (g 0) (n1, .inl gg)) := hR.2.2 kd _ (mws_at hM1)
          intro T hT X
          obtain ⟨-, k0, hk0, cm0, hkk0⟩ := (hK.1.2 0 _ (mtys_0 g)).1 n0 (fun j => .int (f j))
          obtain ⟨-, k1, hk1, cm1, hkk1⟩ := (hK.1.2 0 _ (mtys_0 g)).1 n1 (fun j => .int (gg j))
          obtain ⟨vm', X', step⟩ := X.arraycopy hx hown (hts _ w1) (hts _ w2) (hts _ w3) (hts _ w4) (src := bs + ks) (dst := bs + kd) (cs := vp_cell (g 0) (n0, .inl f)) (cd := vp_cell (g 0) (n1, .inl gg)) (srcPos := sp) (destPos := dp) (n := n) (by rw [hT]; exact hc0) (by rw [hT]; exact hc1)
            (fun _ h => by cases h) (fun _ h => by cases h) (fun h => by cases h) (fun h => by cases h) hk0 hk1 hkk0 hkk1 (by simp [refKind]) h1 h2 h3
            (by rw [mnn sp h1, mnn n h3]; show ¬ _ > ((arrV (g 0) n0 (fun j => .int (f j))).slots.size : Int); rw [arrV_size]; omega)
            (by rw [mnn dp h2, mnn n h3]; show ¬ _ > ((arrV (g 0) n1 (fun j => .int (gg j))).slots.size : Int); rw [arrV_size]; omega)
            (fun vm₁ _ i hi => by
              have e : (vp_cell (g 0) (n0, .inl f)).slots.getD (sp.toNatClampNeg + i) .null = .int (f (sp.toNatClampNeg + i)) := by
                show (arrV (g 0) n0 (fun j => .int (f j))).slots.getD _ _ = _
                rw [Array.getD_eq_getD_getElem?, arrV_read _ _ (by omega)]
                rfl
              refine ⟨?_, ?_⟩
              · rw [e]
                rfl
              · rw [e]
                exact trivial)
            (g := F0 m pc ls (.int n :: .int dp :: .ref (bs + kd) :: .int sp :: .ref (bs + ks) :: List.map (mrv bs b) st')) rfl (by rw [hml]; exact hls) (rest := List.map (mrv bs b) st') rfl (by rw [hb]; exact hd) hfr (by
              have e7 : ((List.map (mrv bs b) st').map fun v => v.category) = st'.map fun v => v.category := by rw [List.map_map]; exact List.map_congr_left fun v _ => mrv_cat bs b v
              rw [e7]
              show 2 * 0 + _ + _ ≤ _
              have e8 : nativeFrameWords "java/lang/System" "arraycopy" 5 ≤ 60 := by decide +kernel
              omega)
          have e1 : copied (vp_cell (g 0) (n0, .inl f)) (vp_cell (g 0) (n1, .inl gg)) sp dp n = vp_cell (g 0) (n1, .inl (va_cpy f gg sp.toNatClampNeg dp.toNatClampNeg n.toNatClampNeg)) := va_copied (fun z => .int z) (g 0) (g 0) f gg h4
          rw [e1] at X' step
          have hl : bs + kd < H.size := (Array.getElem?_eq_some_iff.mp hc1).1
          generalize hcc : vp_cell (g 0) (n1, .inl (va_cpy f gg sp.toNatClampNeg dp.toNatClampNeg n.toNatClampNeg)) = cc at X' step
          have hheap : ((T.setVm vm').setCell (bs + kd) cc).heap = H.setIfInBounds (bs + kd) cc := by rw [← hT]; rfl
          have z1 : (H.setIfInBounds (bs + kd) cc).size = H.size := by simp
          have z3 : ∀ q : Nat, q ≠ bs + kd → (H.setIfInBounds (bs + kd) cc)[q]? = H[q]? := fun q hq => by simp [Array.getElem?_setIfInBounds, Ne.symm hq]
          have hset : va_at D mcl (bs + kd, mre bs b g (.inl (0, n1, .inl (va_cpy f gg sp.toNatClampNeg dp.toNatClampNeg n.toNatClampNeg)))) (H.setIfInBounds (bs + kd) cc) := by
            show (H.setIfInBounds (bs + kd) cc)[bs + kd]? = some (vp_cell _ _)
            rw [hcc]
            simp [Array.getElem?_setIfInBounds, hl]
          have hsz : msz (M.set kd (.inl (0, n1, .inl (va_cpy f gg sp.toNatClampNeg dp.toNatClampNeg n.toNatClampNeg)))) = msz M := msz_set hM1 rfl
          obtain ⟨t, a1, b1⟩ := kk (H.setIfInBounds (bs + kd) cc) _ cells slots (by simp) (by rw [hsz]) (hR.set hM1 hset z1 z3) ⟨by rw [z1]; exact hS.1, fun q g1 g2 => by
              rw [z3 q (fun e => g2 (by rw [e]; show bs ≤ bs + kd; omega))]
              exact hS.2.1 q g1 g2, fun q hq => by
              rcases List.mem_append.mp hq with h | h
              · exact hS.2.2 q h
              · obtain ⟨z, -, hz⟩ := List.mem_map.mp h
                rw [← hz]
                show bs ≤ bs + kd
                omega⟩ _ hheap X'
          exact ⟨t, step t a1, b1⟩
      · cases h
    · cases h
theorem mcat_map (bs b : Nat) (r : List Value) : ((r.map (mrv bs b)).map fun v => v.category) = r.map fun v => v.category := by
  rw [List.map_map]
  exact List.map_congr_left fun v _ => mrv_cat bs b v
theorem snd_nat (C0 : mCx p s m meth c y D g) {op a : Nat} {bb : Int} {st st' : List Value} {M M' : List mE} (h : mnat op a st M = some (st', M')) (hd : decode (mB y) pc = .ok (mraw 5 op a bb, 3)) (ho : mown (mCno y) (pc, 5, op, a, bb) = true)
    (hls : ls.size = mLo y) (hfr : 1 ≤ R.frames) (hlo : 100 ≤ R.locals) (hc1 : cells ≤ R.cells) (hs1 : slots ≤ R.slots) (hR : mRel D g bs b M H) (hS : va_S (fun q => bs ≤ q) H0 H locs) (kk : mKk p l e R s m args below meth c H0 cells slots Q bs b D g (pc + 3) ls M M' st') : mWst p l e R s m args below meth c H locs cells slots Q bs b pc ls st := by
  have C1 := C0
  obtain ⟨hx, hb, hown, hK, hnm, hml⟩ := C0
  have hts : ∀ w ∈ mTL, w.before args s = true := fun w hw => hK.2 w hw args
  match op, h, hd, ho with
  | 0, h, hd, ho => exact snd_copy C1 h hd ho hls hfr hlo hR hS kk
  | 1, h, hd, ho =>
    cases hF : mIS[a]? with
    | none => simp only [mnat, hF] at h; cases h
    | some q =>
      have hq := mIS_ok hF
      obtain ⟨o, idx, host, k, yy, nn⟩ := q
      simp only [mraw, hF] at hd
      simp only [mown, hF, Bool.and_eq_true, beq_iff_eq] at ho
      obtain ⟨ho1, ho2⟩ := ho
      subst ho1; subst ho2
      simp only [mnat, hF] at h
      obtain ⟨-, w1, w2, w3⟩ := hq
      split at h
      · split at h
        · cases h
        · next hcond =>
          cases h
          exact W.objInit hx hb hown (hts _ w1) (hts _ w2) (hts _ w3) rfl (by rw [hml]; exact hls) rfl hd hfr (by rw [mcat_map]; show 2 * 0 + _ + _ ≤ _; omega) (kk H locs cells slots rfl rfl hR hS)
      · cases h
  | 2, h, hd, ho =>
    cases hF : mSS[a]? with
    | none => simp only [mnat, hF] at h; cases h
    | some q =>
      have hq := mSS_ok hF
      obtain ⟨o, idx, host, k, yy, nn⟩ := q
      simp only [mraw, hF] at hd
      simp only [mown, hF, Bool.and_eq_true, beq_iff_eq] at ho
      obtain ⟨ho1, ho2⟩ := ho
      subst ho1; subst ho2
      simp only [mnat, hF] at h
      obtain ⟨-, w1, w2, w3, w4⟩ := hq
      split at h
      · split at h
        · cases h
        · next hcond =>
          cases h
          exact va_mmax hx hb (by rw [hml, hls]) hown (hts _ w1) (hts _ w2) (hts _ w3) (hts _ w4) hfr (by rw [mcat_map]; omega) hc1 hs1 hd (kk H locs cells slots rfl rfl hR hS)
      · cases h
  | 3, h, hd, ho =>
    cases hF : mSS[a]? with
    | none => simp only [mnat, hF] at h; cases h
    | some q =>
      have hq := mSS_ok hF
      obtain ⟨o, idx, host, k, yy, nn⟩ := q
      simp only [mraw, hF] at hd
      simp only [mown, hF, Bool.and_eq_true, beq_iff_eq] at ho
      obtain ⟨ho1, ho2⟩ := ho
      subst ho1; subst ho2
      simp only [mnat, hF] at h
      obtain ⟨-, w1, w2, w3, w4⟩ := hq
      split at h
      · split at h
        · cases h
        · next hcond =>
          cases h
          exact va_mmin hx hb (by rw [hml, hls]) hown (hts _ w1) (hts _ w2) (hts _ w3) (hts _ w4) hfr (by rw [mcat_map]; omega) hc1 hs1 hd (kk H locs cells slots rfl rfl hR hS)
      · cases h
  | 4, h, hd, ho =>
    cases hF : mSS[a]? with
    | none => simp only [mnat, hF] at h; cases h
    | some q =>
      have hq := mSS_ok hF
      obtain ⟨o, idx, host, k, yy, nn⟩ := q
      simp only [mraw, hF] at hd
      simp only [mown, hF, Bool.and_eq_true, beq_iff_eq] at ho
      obtain ⟨ho1, ho2⟩ := ho
      subst ho1; subst ho2
      simp only [mnat, hF] at h
      obtain ⟨-, w1, w2, w3, w4⟩ := hq
      split at h
      · split at h
        · cases h
        · next hcond =>
          cases h
          exact va_mabs hx hb (by rw [hml, hls]) hown (hts _ w1) (hts _ w2) (hts _ w3) (hts _ w4) hfr (by rw [mcat_map]; omega) hc1 hs1 hd (kk H locs cells slots rfl rfl hR hS)
      · cases h
  | n + 5, h, hd, ho => cases h
theorem snd_con (C0 : mCx p s m meth c y D g) {op a : Nat} {bb : Int} {st st' : List Value} (h : mcon op a st = some st') (hd : decode (mB y) pc = .ok (mraw 6 op a bb, mlen 6 op bb)) (ho : mown (mCno y) (pc, 6, op, a, bb) = true)
    (kk : mWst p l e R s m args below meth c H locs cells slots Q bs b (pc + mlen 6 op bb) ls st') : mWst p l e R s m args below meth c H locs cells slots Q bs b pc ls st := by
  obtain ⟨hx, hb, hown, hK, hnm, hml⟩ := C0
  have hts : ∀ w ∈ mTL, w.before args s = true := fun w hw => hK.2 w hw args
  cases hF : mKS[a]? with
  | none => simp only [mcon, hF] at h; cases h
  | some q =>
    have hq := mKS_ok hF
    obtain ⟨o, idx, lg, v⟩ := q
    simp only [mraw, hF] at hd
    simp only [mown, hF, Bool.and_eq_true, beq_iff_eq] at ho
    obtain ⟨ho1, ho2⟩ := ho
    subst ho1
    simp only [mcon, hF] at h
    match op, h, hd, ho2, kk with
    | 0, h, hd, ho2, kk =>
      cases h
      simp only [Bool.not_eq_true'] at ho2
      subst ho2
      exact lv_ldc hx hb hown (hts _ hq) hd kk
    | 1, h, hd, ho2, kk =>
      cases h
      simp only [Bool.not_eq_true'] at ho2
      subst ho2
      exact lv_ldcw hx hb hown (hts _ hq) hd kk
    | 2, h, hd, ho2, kk =>
      cases h
      have ho2 : lg = true := ho2
      subst ho2
      exact lv_ldc2 hx hb hown (hts _ hq) hd kk
    | n + 3, h, hd, ho2, kk => cases h
end MM4
