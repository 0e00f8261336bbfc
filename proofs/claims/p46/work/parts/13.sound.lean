/-! THE MINI-MACHINE AGAINST THE MACHINE: a run of it is a contract -/
theorem mmem_mono {y op a : Nat} {S : Option (Nat × (Nat → Int32))} {st st' : List Value} {M M' : List mE} (h : mmem y op a S st M = some (st', M')) : M.length ≤ M'.length ∧ msz M ≤ msz M' := by
  have same : ∀ {k : Nat} {e e' : mE}, M[k]? = some e → mszE e' = mszE e → M.length ≤ (M.set k e').length ∧ msz M ≤ msz (M.set k e') := fun h1 h2 => ⟨by simp, by rw [msz_set h1 h2]; exact Nat.le_refl _⟩
  have grow : ∀ N : List mE, M.length ≤ (M ++ N).length ∧ msz M ≤ msz (M ++ N) := fun N => ⟨by simp, by rw [msz_app]; omega⟩
  match op, h with
  | 0, h =>
    simp only [mmem] at h
    repeat' split at h
    all_goals first | (cases h; exact ⟨Nat.le_refl _, Nat.le_refl _⟩) | cases h
  | 1, h =>
    simp only [mmem] at h
    split at h
    · split at h
      · next hM =>
        repeat' split at h
        all_goals first | (cases h; exact same hM (by simp [mszE])) | cases h
      · cases h
    · cases h
  | 2, h =>
    simp only [mmem] at h
    repeat' split at h
    all_goals first | (cases h; exact ⟨Nat.le_refl _, Nat.le_refl _⟩) | cases h
  | 3, h =>
    simp only [mmem] at h
    split at h
    · split at h
      · next hM =>
        split at h
        · cases h
        · cases h; exact same hM rfl
      · cases h
    · cases h
  | 4, h =>
    simp only [mmem] at h
    repeat' split at h
    all_goals first | (cases h; exact ⟨Nat.le_refl _, Nat.le_refl _⟩) | cases h
  | 5, h =>
    simp only [mmem] at h
    repeat' split at h
    all_goals first | (cases h; exact ⟨Nat.le_refl _, Nat.le_refl _⟩) | cases h
  | 6, h =>
    simp only [mmem] at h
    repeat' split at h
    all_goals first | (cases h; exact grow _) | cases h
  | 7, h =>
    simp only [mmem] at h
    repeat' split at h
    all_goals first | (cases h; exact grow _) | cases h
  | 8, h =>
    simp only [mmem] at h
    repeat' split at h
    all_goals first | (cases h; exact grow _) | cases h
  | 9, h =>
    simp only [mmem] at h
    repeat' split at h
    all_goals first | (cases h; rw [List.append_assoc]; exact grow _) | cases h
  | 10, h =>
    simp only [mmem] at h
    split at h
    · split at h
      · next hM hV =>
        split at h
        · cases h
        · cases h; exact same hM rfl
      · cases h
    · cases h
  | n + 11, h => cases h
theorem mnat_mono {op a : Nat} {st st' : List Value} {M M' : List mE} (h : mnat op a st M = some (st', M')) : M.length = M'.length ∧ msz M = msz M' := by
  match op, h with
  | 0, h =>
    simp only [mnat] at h
    split at h
    · split at h
      · next hM0 hM1 =>
        split at h
        · cases h
        · cases h; exact ⟨by simp, by rw [msz_set hM1]; rfl⟩
      · cases h
    · cases h
  | 1, h =>
    simp only [mnat] at h
    repeat' split at h
    all_goals first | (cases h; exact ⟨rfl, rfl⟩) | cases h
  | 2, h =>
    simp only [mnat] at h
    repeat' split at h
    all_goals first | (cases h; exact ⟨rfl, rfl⟩) | cases h
  | 3, h =>
    simp only [mnat] at h
    repeat' split at h
    all_goals first | (cases h; exact ⟨rfl, rfl⟩) | cases h
  | 4, h =>
    simp only [mnat] at h
    repeat' split at h
    all_goals first | (cases h; exact ⟨rfl, rfl⟩) | cases h
  | n + 5, h => cases h
set_option maxRecDepth 20000 in
theorem mI_lt {y pc : Nat} {q : Nat × Nat × Nat × Int} (h : mI y pc = some q) : y < 275 := by
  by_cases hy : y < 275
  · exact hy
  · have : mCd y = [] := by
      unfold mCd
      rw [List.getD_eq_getElem?_getD, List.getElem?_eq_none (by show 275 ≤ y; omega)]
      rfl
    unfold mI at h
    rw [this] at h
    cases h
theorem mI_ok {y pc g op a : Nat} {b : Int} (h : mI y pc = some (g, op, a, b)) : decode (mB y) pc = .ok (mraw g op a b, mlen g op b) ∧ mown (mCno y) (pc, g, op, a, b) = true := by
  obtain ⟨h1, h2⟩ := mcode_all y (mI_lt h)
  obtain ⟨l1, l2, hl, -⟩ := List.lookup_eq_some_iff.mp h
  have hm : ((pc, g, op, a, b) : mIt) ∈ mCd y := by rw [hl]; simp
  have e1 := List.all_eq_true.mp h1 _ hm
  exact ⟨of_decide_eq_true e1, List.all_eq_true.mp h2 _ hm⟩
theorem exA_mono : ∀ (n d : Nat) (S : Option (Nat × (Nat → Int32))) (y pc : Nat) (L : List (Option Value)) (st : List Value) (M : List mE) (r : Option Value) (M' : List mE), exA n d S y pc L st M = some (r, M') → M.length ≤ M'.length ∧ msz M ≤ msz M'
  | 0, _, _, _, _, _, _, _, _, _, h => by cases h
  | n + 1, d, S, y, pc, L, st, M, r, M', h => by
    simp only [exA] at h
    split at h
    · cases h
    · split at h
      · split at h
        · cases h
        · exact exA_mono n _ _ _ _ _ _ _ _ _ h
      · split at h
        · cases h
        · exact exA_mono n _ _ _ _ _ _ _ _ _ h
      · split at h
        · cases h
        · next q hq =>
          obtain ⟨a1, a2⟩ := mmem_mono hq
          obtain ⟨b1, b2⟩ := exA_mono n _ _ _ _ _ _ _ _ _ h
          exact ⟨Nat.le_trans a1 b1, Nat.le_trans a2 b2⟩
      · split at h
        · cases h
        · cases h; exact ⟨Nat.le_refl _, Nat.le_refl _⟩
      · split at h
        · cases h
        · split at h
          · cases h
          · split at h
            · cases h
            · next z hz =>
              obtain ⟨a1, a2⟩ := exA_mono n _ _ _ _ _ _ _ z.1 z.2 hz
              obtain ⟨b1, b2⟩ := exA_mono n _ _ _ _ _ _ _ _ _ h
              exact ⟨Nat.le_trans a1 b1, Nat.le_trans a2 b2⟩
      · split at h
        · cases h
        · split at h
          · cases h
          · next q hq =>
            obtain ⟨a1, a2⟩ := mnat_mono hq
            obtain ⟨b1, b2⟩ := exA_mono n _ _ _ _ _ _ _ _ _ h
            exact ⟨by omega, by omega⟩
      · split at h
        · cases h
        · exact exA_mono n _ _ _ _ _ _ _ _ _ h
      · cases h
theorem mslots_at (bs b : Nat) : ∀ (vs : List Value) (k m i : Nat) (v : Value), mget (mslots vs ++ List.replicate m none) i = some v → (k + i, mrv bs b v) ∈ lv_args k (vs.map (mrv bs b))
  | [], k, m, i, v, h => by
    rw [mget_iff] at h
    simp [mslots, List.getElem?_replicate] at h
  | w :: vs, k, m, i, v, h => by
    by_cases hc : w.category = 2
    · have hm : mslots (w :: vs) = some w :: none :: mslots vs := by simp [mslots, hc]
      rw [hm] at h
      show (k + i, mrv bs b v) ∈ (k, mrv bs b w) :: lv_args (if (mrv bs b w).category = 2 then k + 2 else k + 1) (vs.map (mrv bs b))
      rw [mrv_cat, if_pos hc]
      match i, h with
      | 0, h => cases h; exact List.mem_cons_self
      | 1, h => cases h
      | i + 2, h =>
        refine List.mem_cons_of_mem _ ?_
        have := mslots_at bs b vs (k + 2) m i v h
        rw [show k + 2 + i = k + (i + 2) by omega] at this
        exact this
    · have hm : mslots (w :: vs) = some w :: mslots vs := by simp [mslots, hc]
      rw [hm] at h
      show (k + i, mrv bs b v) ∈ (k, mrv bs b w) :: lv_args (if (mrv bs b w).category = 2 then k + 2 else k + 1) (vs.map (mrv bs b))
      rw [mrv_cat, if_neg hc]
      match i, h with
      | 0, h => cases h; exact List.mem_cons_self
      | i + 1, h =>
        refine List.mem_cons_of_mem _ ?_
        have := mslots_at bs b vs (k + 1) m i v h
        rw [show k + 1 + i = k + (i + 1) by omega] at this
        exact this
theorem mslots_len (bs b : Nat) : ∀ vs : List Value, (lg_sl (vs.map (mrv bs b))).length = (mslots vs).length
  | [] => rfl
  | v :: vs => by
    have ih := mslots_len bs b vs
    unfold lg_sl mslots at ih ⊢
    simp only [List.map_cons, List.flatMap_cons, List.length_append, ih, mrv_cat]
    by_cases hc : v.category = 2 <;> simp [hc]
section MS
variable {l : Launch} {D : va_G} {g : Nat → ClassId}
theorem snd_mem {p : Program} {e : Env} {R : Room} {s : State} {m : MethodId} {args : Array Value} {below : List Frame} {meth : Method} {c : Code} {H H0 : Heap} {locs : List Loc} {cells slots : Nat} {Q : State → Prop} {pc bs b y : Nat} {ls : Array Slot} (C0 : mCx p s m meth c y D g) {op a : Nat} {bb : Int} {S : Option (Nat × (Nat → Int32))} {st st' : List Value} {M M' : List mE} (h : mmem y op a S st M = some (st', M')) (hd : decode (mB y) pc = .ok (mraw2 op a bb, mlen 2 op bb)) (ho : mown (mCno y) (pc, 2, op, a, bb) = true)
    (hR : mRel D g bs b M H) (hS : va_S (fun q => bs ≤ q) H0 H locs) (hX : mSx bs b S s H0) (hcl : cells + M'.length ≤ R.cells + M.length) (hsl : slots + msz M' ≤ R.slots + msz M) (kk : mKk p l e R s m args below meth c H0 cells slots Q bs b D g (pc + mlen 2 op bb) ls M M' st') : mWst p l e R s m args below meth c H locs cells slots Q bs b pc ls st := by
  match op, h, hd, ho, kk with
  | 0, h, hd, ho, kk => exact snd_getf C0 h hd ho hR hS kk
  | 1, h, hd, ho, kk => exact snd_putf C0 h hd ho hR hS kk
  | 2, h, hd, ho, kk => exact snd_iald C0 h hd hR hS hX kk
  | 3, h, hd, ho, kk => exact snd_iast C0 h hd hR hS kk
  | 4, h, hd, ho, kk => exact snd_aald C0 h hd hR hS kk
  | 5, h, hd, ho, kk => exact snd_alen C0 h hd hR hS hX kk
  | 6, h, hd, ho, kk => exact snd_new C0 h hd ho hR hS hcl hsl kk
  | 7, h, hd, ho, kk => exact snd_newa C0 h hd hR hS hcl hsl kk
  | 8, h, hd, ho, kk => exact snd_anew C0 h hd ho hR hS hcl hsl kk
  | 9, h, hd, ho, kk => exact snd_multi C0 h hd ho hR hS hcl hsl kk
  | 10, h, hd, ho, kk => exact snd_aast C0 h hd hR hS kk
  | n + 11, h, hd, ho, kk => cases h
/-- a run of the mini-machine, from any place of a method, over a heap that holds its cells -/
def mWt (l : Launch) (D : va_G) (g : Nat → ClassId) (n : Nat) : Prop := ∀ (d : Nat) (S : Option (Nat × (Nat → Int32))) (y pc : Nat) (L : List (Option Value)) (st : List Value) (M : List mE) (r : Option Value) (M' : List mE), exA n d S y pc L st M = some (r, M') →
  ∀ (p : Program) (e : Env) (R : Room) (s : State) (m : MethodId) (args : Array Value) (below : List Frame) (meth : Method) (c : Code) (H H0 : Heap) (locs : List Loc) (cells slots : Nat) (Q : State → Prop) (bs b : Nat) (ls : Array Slot), mCx p s m meth c y D g → L.length = mLo y → lv_has ls (mLo y) (mkl bs b L) → d ≤ R.frames → 100 * d + 100 ≤ R.locals →
  cells + M'.length ≤ R.cells + M.length → slots + msz M' ≤ R.slots + msz M → mRel D g bs b M H → va_S (fun q => bs ≤ q) H0 H locs → mSx bs b S s H0 →
  (∀ (pc' op a : Nat) (bb : Int) (ls' : Array Slot) (st' : List Value) (H1 : Heap) (locs1 : List Loc) (cells1 slots1 : Nat), mret op y st' = some r → decode (mB y) pc' = .ok (mraw 3 op a bb, 1) → cells1 + M.length = cells + M'.length → slots1 + msz M = slots + msz M' → mRel D g bs b M' H1 → va_S (fun q => bs ≤ q) H0 H1 locs1 → mWst p l e R s m args below meth c H1 locs1 cells1 slots1 Q bs b pc' ls' st') →
  mWst p l e R s m args below meth c H locs cells slots Q bs b pc ls st
set_option maxHeartbeats 2000000 in
theorem snd_met {n : Nat} (hW : mWt l D g n) {d y : Nat} {args : List Value} {M M' : List mE} {r : Option Value} (h : exA n d none y 0 (ment y args) [] M = some (r, M')) (hpl : plainFor (mN y) = true) (hsl : (mslots args).length ≤ mLo y) (bs b : Nat) : mMet l D g bs b d y args M r M' := by
  have hy : y < 275 := by
    cases n with
    | zero => cases h
    | succ n =>
      simp only [exA] at h
      cases hI : mI y 0 with
      | none => simp [hI] at h
      | some q => exact mI_lt hI
  obtain ⟨hm1, hm2⟩ := exA_mono _ _ _ _ _ _ _ _ _ _ h
  unfold mMet Met
  refine MetFree.of_bodySF (code := mB y) (maxLocals := mLo y) (ret := mR y) hpl ?_ ?_
  · intro args s m h hn
    obtain ⟨meth, c, h1, h2, h3, h4, h5, h6, -, -⟩ := Cond.code_spec hn (atoms_spec (ws := mWs y) h _ List.mem_cons_self)
    exact ⟨meth, c, h1, h2, h3, h4, h5, h6⟩
  · intro p e s m argsA below meth c s₁ B hml hP _
    obtain ⟨rfl, hRel, hK⟩ := hP
    have hh0 : s₁.heap = s.heap := by rw [B.state]; rfl
    have hown : s.vm.findClass (mcn (mCno y)) = some m.cls := by rw [← mcls_all y hy]; exact findClass_of_methodNamed B.named
    have hlocks := B.notSynchronized
    have hl0 := lv_entry (args.map (mrv bs b)) (n := mLo y) (by rw [mslots_len]; exact hsl)
    have K : W p l e (headSpec (mWs y) (mRm d (M'.length - M.length) (msz M' - msz M))).room s m (args.map (mrv bs b)).toArray below meth c s.heap [] 0 0 (MQ below (mPost D g bs b M' r) (args.map (mrv bs b)).toArray s (M'.length - M.length) (msz M' - msz M) (fun q => bs ≤ q)) (entryFrame m (args.map (mrv bs b)).toArray (mLo y)) := by
      rw [lg_entry_eq]
      generalize hls : (lg_sl (args.map (mrv bs b)) ++ List.replicate (mLo y - (lg_sl (args.map (mrv bs b))).length) Slot.unset).toArray = ls at hl0 ⊢
      have hlm : (ment y args).length = mLo y := by unfold ment; simp; omega
      have hl : lv_has ls (mLo y) (mkl bs b (ment y args)) := lv_less hl0 (fun q hq => by
        obtain ⟨i, w⟩ := q
        obtain ⟨v, h1, rfl⟩ := mkl_mem.mp hq
        have := mslots_at bs b args 0 _ i v h1
        rwa [Nat.zero_add] at this)
      refine hW d none y 0 (ment y args) [] M r M' h p e _ s m _ below meth c s.heap s.heap [] 0 0 _ bs b ls ⟨B.exec, B.bytes, hown, hK, fun h => (name_of_methodNamed B.named B.method).1.trans h, hml⟩ hlm hl (Nat.le_refl _) (Nat.le_refl _) (by show 0 + M'.length ≤ (M'.length - M.length) + M.length; omega) (by show 0 + msz M' ≤ (msz M' - msz M) + msz M; omega) hRel va_S.rf trivial ?_
      intro pc' op a bb ls' st' H1 locs1 cells1 slots1 hr hd hc1 hs1 hR1 hS1
      have e1 : cells1 = M'.length - M.length := by omega
      have e2 : slots1 = msz M' - msz M := by omega
      subst e1; subst e2
      have hpost : ∀ t : State, t.heap = H1 → s.WarmedH t.vm → mPost D g bs b M' r (args.map (mrv bs b)).toArray s (.returned (r.map (mrv bs b))) t := fun t ht _ => ⟨rfl, by rw [ht]; exact hR1, fun q hq => by rw [ht]; exact hS1.2.1 q (by rw [hRel.1]; omega) (Nat.not_le.mpr hq)⟩
      match op, hr, hd with
      | 0, hr, hd =>
        simp only [mret] at hr
        split at hr
        · next x =>
          split at hr
          · next hty => cases hr; exact W.zret B.exec B.bytes (B.returns.trans hty) rfl hpost hS1.2.2 hd hlocks
          · next hty =>
            split at hr
            · next h01 =>
              cases hr
              exact W.zret B.exec B.bytes (B.returns.trans hty) (by rcases h01 with rfl | rfl <;> rfl) hpost hS1.2.2 hd hlocks
            · cases hr
          · cases hr
        · cases hr
      | 1, hr, hd =>
        simp only [mret] at hr
        split at hr
        · split at hr
          · next hty => cases hr; exact W.aret B.exec B.bytes (B.returns.trans hty) (Or.inl ⟨_, rfl⟩) (Or.inr ⟨_, rfl⟩) hpost hS1.2.2 hd hlocks
          · next hty => cases hr; exact W.aret B.exec B.bytes (B.returns.trans hty) (Or.inr ⟨_, rfl⟩) (Or.inr ⟨_, rfl⟩) hpost hS1.2.2 hd hlocks
          · cases hr
        · cases hr
      | 2, hr, hd =>
        simp only [mret] at hr
        split at hr
        · split at hr
          · next hty => cases hr; exact W.vret B.exec B.bytes (B.returns.trans hty) hpost hS1.2.2 hd hlocks
          · cases hr
        · cases hr
      | op + 3, hr, hd => cases hr
    obtain ⟨t, a1, o, b1, b2, b3⟩ := K s₁ hh0 (Stand.of_body B)
    exact ⟨t, o, a1, b1, b2, ⟨b3.1, b3.2⟩⟩
theorem mcall_ok {op a y' y pc : Nat} {bb : Int} {st As rest : List Value} {M : List mE} (h : mcall op a st M = some (y', As, rest)) (ho : mown (mCno y) (pc, 4, op, a, bb) = true) : plainFor (mN y') = true ∧ (mslots As).length ≤ mLo y' := by
  match op, h, ho with
  | 0, h, ho =>
    cases hF : mVS[a]? with
    | none => simp only [mcall, hF] at h; cases h
    | some q =>
      have hq := mVS_ok hF
      obtain ⟨o, idx, x, host, ow, n, al⟩ := q
      simp only [mcall, hF] at h
      split at h
      · next k r' hdr =>
        cases hMk : M[k]? with
        | none => simp [hMk] at h
        | some en =>
          cases en with
          | inl z => simp only [hMk] at h; cases h
          | inr z =>
            obtain ⟨ci, fs⟩ := z
            simp only [hMk] at h
            cases hal : al.lookup ci with
            | none => simp [hal] at h
            | some z =>
              obtain ⟨yy, kd⟩ := z
              simp only [hal] at h
              split at h
              · next hcond =>
                cases h
                have hmem : (ci, y', kd) ∈ al := by
                  obtain ⟨l1, l2, hl, -⟩ := List.lookup_eq_some_iff.mp hal
                  rw [hl]; simp
                obtain ⟨C, T, N, hc, ⟨-, -, -, hpl, -, -⟩, -⟩ := hq _ hmem
                exact ⟨hpl, hcond.2.2⟩
              · cases h
      · cases h
  | 1, h, ho =>
    cases hF : mSS[a]? with
    | none => simp only [mcall, hF] at h; cases h
    | some q =>
      have hq := mSS_ok hF
      obtain ⟨o, idx, host, k, yy, n⟩ := q
      simp only [mown, hF, Bool.and_eq_true, decide_eq_true_eq] at ho
      simp only [mcall, hF] at h
      split at h
      · next hcond =>
        cases h
        refine ⟨?_, hcond.2.2⟩
        match k, ho.2, hq with
        | 0, _, hq => exact hq.2.1.2.2.2.1
        | 1, _, hq => obtain ⟨hh, -, hco, -⟩ := hq; exact hco.2.2.2.1
        | k + 2, hk2, _ => exact absurd hk2 (by omega)
      · cases h
  | 2, h, ho =>
    cases hF : mIS[a]? with
    | none => simp only [mcall, hF] at h; cases h
    | some q =>
      have hq := mIS_ok hF
      obtain ⟨o, idx, host, k, yy, n⟩ := q
      simp only [mown, hF, Bool.and_eq_true, decide_eq_true_eq] at ho
      simp only [mcall, hF] at h
      split at h
      · split at h
        · next hcond =>
          cases h
          refine ⟨?_, hcond.2.2⟩
          match k, ho.2, hq with
          | 0, _, hq => exact hq.2.1.2.2.2.1
          | 1, _, hq => obtain ⟨hh, -, hco, -⟩ := hq; exact hco.2.2.2.1
          | k + 2, hk2, _ => exact absurd hk2 (by omega)
        · cases h
      · cases h
  | n + 3, h, ho => cases h
set_option maxHeartbeats 4000000 in
theorem snd_W (l : Launch) (D : va_G) (g : Nat → ClassId) : ∀ n, mWt l D g n
  | 0 => fun d S y pc L st M r M' h => by cases h
  | n + 1 => by
    intro d S y pc L st M r M' h p e R s m args below meth c H H0 locs cells slots Q bs b ls C0 hL hl hf hlo hcl hsl hR hS hX hret
    have ih := snd_W l D g n
    simp only [exA] at h
    cases hI : mI y pc with
    | none => simp [hI] at h
    | some q =>
      obtain ⟨gg, op, a, bb⟩ := q
      obtain ⟨hd, ho⟩ := mI_ok hI
      simp only [hI] at h
      have C1 := C0
      obtain ⟨hx, hb, hown, hK, hnm, hml⟩ := C0
      match gg, h, hd, ho with
      | 0, h, hd, ho =>
        cases hp : mpure op a bb L st with
        | none => simp [hp] at h
        | some q =>
          obtain ⟨L', st'⟩ := q
          simp only [hp] at h
          exact snd_pure hx hb hp hd hl hL (fun ls' hL' hl' => ih d S y _ L' st' M r M' h p e R s m args below meth c H H0 locs cells slots Q bs b ls' C1 hL' hl' hf hlo hcl hsl hR hS hX hret)
      | 1, h, hd, ho =>
        cases hp : mjump op a bb pc st with
        | none => simp [hp] at h
        | some q =>
          obtain ⟨pc', st'⟩ := q
          simp only [hp] at h
          exact snd_jump hx hb hp hd (ih d S y pc' L st' M r M' h p e R s m args below meth c H H0 locs cells slots Q bs b ls C1 hL hl hf hlo hcl hsl hR hS hX hret)
      | 2, h, hd, ho =>
        cases hp : mmem y op a S st M with
        | none => simp [hp] at h
        | some q =>
          obtain ⟨st', M1⟩ := q
          simp only [hp] at h
          obtain ⟨a1, a2⟩ := mmem_mono hp
          obtain ⟨b1, b2⟩ := exA_mono _ _ _ _ _ _ _ _ _ _ h
          refine snd_mem C1 hp hd ho hR hS hX (by omega) (by omega) (fun H1 locs1 cells1 slots1 z1 z2 z3 z4 => ?_)
          exact ih d S y _ L st' M1 r M' h p e R s m args below meth c H1 H0 locs1 cells1 slots1 Q bs b ls C1 hL hl hf hlo (by omega) (by omega) z3 z4 hX (fun pc' op' a' bb' ls' st9 H9 locs9 cells9 slots9 x1 x2 x3 x4 x5 x6 => hret pc' op' a' bb' ls' st9 H9 locs9 cells9 slots9 x1 x2 (by omega) (by omega) x5 x6)
      | 3, h, hd, ho =>
        cases hp : mret op y st with
        | none => simp [hp] at h
        | some r0 =>
          simp only [hp] at h
          cases h
          exact hret pc op a bb ls st H locs cells slots hp hd rfl rfl hR hS
      | 4, h, hd, ho =>
        cases d with
        | zero => cases h
        | succ d' =>
          cases hp : mcall op a st M with
          | none => simp [hp] at h
          | some q =>
            obtain ⟨y', As, rest⟩ := q
            simp only [hp] at h
            cases hz : exA n d' none y' 0 (ment y' As) [] M with
            | none => simp [hz] at h
            | some z =>
              obtain ⟨r1, M1⟩ := z
              simp only [hz] at h
              obtain ⟨hpl, hms⟩ := mcall_ok hp ho
              have hMet := snd_met ih hz hpl hms bs b
              obtain ⟨a1, a2⟩ := exA_mono _ _ _ _ _ _ _ _ _ _ hz
              obtain ⟨b1, b2⟩ := exA_mono _ _ _ _ _ _ _ _ _ _ h
              obtain ⟨a9, hrun⟩ := snd_call C1 hp hd ho hMet hl.1 hf hlo (cells := cells) (slots := slots) (locs := locs) (by omega) (by omega) hR
              refine snd_after hrun hS (by rw [hR.1]; omega) (fun H1 locs1 z3 z4 => ?_)
              exact ih (d' + 1) S y _ L (r1.toList ++ rest) M1 r M' h p e R s m args below meth c H1 H0 locs1 _ _ Q bs b ls C1 hL hl hf hlo (by omega) (by omega) z3 z4 hX (fun pc' op' a' bb' ls' st9 H9 locs9 cells9 slots9 x1 x2 x3 x4 x5 x6 => hret pc' op' a' bb' ls' st9 H9 locs9 cells9 slots9 x1 x2 (by omega) (by omega) x5 x6)
      | 5, h, hd, ho =>
        cases d with
        | zero => cases h
        | succ d' =>
          cases hp : mnat op a st M with
          | none => simp [hp] at h
          | some q =>
            obtain ⟨st', M1⟩ := q
            simp only [hp] at h
            obtain ⟨a1, a2⟩ := mnat_mono hp
            obtain ⟨b1, b2⟩ := exA_mono _ _ _ _ _ _ _ _ _ _ h
            refine snd_nat C1 hp hd ho hl.1 (by omega) (by omega) (by omega) (by omega) hR hS (fun H1 locs1 cells1 slots1 z1 z2 z3 z4 => ?_)
            exact ih (d' + 1) S y _ L st' M1 r M' h p e R s m args below meth c H1 H0 locs1 cells1 slots1 Q bs b ls C1 hL hl hf hlo (by omega) (by omega) z3 z4 hX (fun pc' op' a' bb' ls' st9 H9 locs9 cells9 slots9 x1 x2 x3 x4 x5 x6 => hret pc' op' a' bb' ls' st9 H9 locs9 cells9 slots9 x1 x2 (by omega) (by omega) x5 x6)
      | 6, h, hd, ho =>
        cases hp : mcon op a st with
        | none => simp [hp] at h
        | some st' =>
          simp only [hp] at h
          exact snd_con C1 hp hd ho (ih d S y _ L st' M r M' h p e R s m args below meth c H H0 locs cells slots Q bs b ls C1 hL hl hf hlo hcl hsl hR hS hX hret)
      | gg + 7, h, hd, ho => cases h
end MS
