/-! THE MINI-MACHINE AGAINST THE MACHINE: what touches cells -/
def mSx (bs b : Nat) (S : Option (Nat × (Nat → Int32))) (s : State) (H0 : Heap) : Prop := match S with
  | none => True
  | some (n, xs) => va_X b n xs s H0 ∧ b < H0.size ∧ b < bs
def mCx (p : Program) (s : State) (m : MethodId) (meth : Method) (c : Code) (y : Nat) (D : va_G) (g : Nat → ClassId) : Prop :=
  p.tables.exec = Jvm.exec ∧ c.code = mB y ∧ s.vm.findClass (mcn (mCno y)) = some m.cls ∧ mKK D g s ∧ ((mN y).name = "<init>" → meth.name = "<init>") ∧ c.maxLocals = mLo y
theorem mRel.push {D : va_G} {g : Nat → ClassId} {bs b : Nat} {M : List mE} {H H1 : Heap} {e : mE} (h : mRel D g bs b M H) (hl : M.length + 1 < mSCR) (he : va_at D mcl (bs + M.length, mre bs b g e) H1) (hz : H1.size = H.size + 1) (ho : ∀ q : Nat, q < H.size → H1[q]? = H[q]?) : mRel D g bs b (M ++ [e]) H1 := by
  refine ⟨by rw [hz, h.1, List.length_append]; rfl, by rw [List.length_append]; exact hl, ?_⟩
  rw [mws_app]
  refine (h.2.2.kept (fun k x hx => ho x.1 ((h.2.2 k x hx).lt))).app (fun k x hx => ?_)
  have hk : k < 1 := (List.getElem?_eq_some_iff.mp hx).1
  rw [show k = 0 by omega] at hx
  cases hx
  exact he
theorem mS_put {bs : Nat} {H0 H H1 : Heap} {locs : List Loc} {a i : Nat} (h : va_S (fun q => bs ≤ q) H0 H locs) (hz : H1.size = H.size) (ho : ∀ q : Nat, q ≠ a → H1[q]? = H[q]?) (ha : bs ≤ a) : va_S (fun q => bs ≤ q) H0 H1 (locs ++ [⟨a, i⟩]) := h.put hz ho ha
theorem mS_push {bs : Nat} {H0 H H1 : Heap} {locs : List Loc} (h : va_S (fun q => bs ≤ q) H0 H locs) (hz : H.size ≤ H1.size) (ho : ∀ q : Nat, q < H.size → H1[q]? = H[q]?) : va_S (fun q => bs ≤ q) H0 H1 locs :=
  ⟨Nat.le_trans h.1 hz, fun q h1 h2 => (ho q (Nat.lt_of_lt_of_le h1 h.1)).trans (h.2.1 q h1 h2), h.2.2⟩
theorem mtys_0 (g : Nat → ClassId) : (mtys g)[0]? = some (g 0, .int) := rfl
theorem msz_app (M N : List mE) : msz (M ++ N) = msz M + msz N := by simp [msz]
theorem mfield_same {args : Array Value} {s : State} {ref nm ds dc : String} (hT : mTW s) (h : dc = ref ∨ (Cond.sameField ref dc nm ds : Cond) ∈ mTL) : ∀ x, s.fieldFound? dc nm ds = some x → s.fieldFound? ref nm ds = some x := by
  intro x hx
  rcases h with rfl | h
  · exact hx
  · exact u_same (hT _ h args) x hx
section MM2
variable {p : Program} {l : Launch} {e : Env} {R : Room} {s : State} {m : MethodId} {args : Array Value} {below : List Frame} {meth : Method} {c : Code} {H H0 : Heap} {locs : List Loc} {cells slots : Nat} {Q : State → Prop} {pc bs b : Nat} {ls : Array Slot} {nL y : Nat} {D : va_G} {g : Nat → ClassId}
/-- behind an op that touches cells -/
abbrev mKk (p : Program) (l : Launch) (e : Env) (R : Room) (s : State) (m : MethodId) (args : Array Value) (below : List Frame) (meth : Method) (c : Code) (H0 : Heap) (cells slots : Nat) (Q : State → Prop) (bs b : Nat) (D : va_G) (g : Nat → ClassId) (pc' : Nat) (ls : Array Slot) (M M' : List mE) (st' : List Value) : Prop :=
  ∀ (H1 : Heap) (locs1 : List Loc) (cells1 slots1 : Nat), cells1 + M.length = cells + M'.length → slots1 + msz M = slots + msz M' → mRel D g bs b M' H1 → va_S (fun q => bs ≤ q) H0 H1 locs1 → mWst p l e R s m args below meth c H1 locs1 cells1 slots1 Q bs b pc' ls st'
theorem snd_getf (C0 : mCx p s m meth c y D g) {a : Nat} {bb : Int} {S : Option (Nat × (Nat → Int32))} {st st' : List Value} {M M' : List mE} (h : mmem y 0 a S st M = some (st', M')) (hd : decode (mB y) pc = .ok (mraw2 0 a bb, 3)) (ho : mown (mCno y) (pc, 2, 0, a, bb) = true)
    (hR : mRel D g bs b M H) (hS : va_S (fun q => bs ≤ q) H0 H locs) (kk : mKk p l e R s m args below meth c H0 cells slots Q bs b D g (pc + 3) ls M M' st') : mWst p l e R s m args below meth c H locs cells slots Q bs b pc ls st := by
  obtain ⟨hx, hb, hown, hK, -, -⟩ := C0
  cases hF : mFS[a]? with
  | none => simp only [mmem, hF] at h; cases h
  | some q =>
    have hq := mFS_ok hF
    obtain ⟨o, idx, ref, nm, ds, host, j, al⟩ := q
    simp only [mraw2, hF] at hd
    simp only [mown, hF, beq_iff_eq] at ho
    subst ho
    simp only [mmem, hF] at h
    cases st with
    | nil => cases h
    | cons v r =>
      cases v with
      | ref k =>
        simp only at h
        cases hM : M[k]? with
        | none => simp [hM] at h
        | some en =>
          cases en with
          | inl x => simp only [hM] at h; cases h
          | inr x =>
            obtain ⟨ci, fs⟩ := x
            simp only [hM] at h
            split at h
            · next hal =>
              split at h
              · next v hv =>
                cases h
                obtain ⟨hlk, hcl⟩ := hq
                obtain ⟨C, T, N, hc, hj, hn, hds, hdc⟩ := hcl ci (List.contains_iff_mem.mp hal)
                subst hn; subst hds
                have hk : k < mSCR := hR.lt hM
                show W p l e R s m args below meth c H locs cells slots Q (F0 m pc ls (.ref (madd bs b k) :: List.map (mrv bs b) _))
                rw [madd_lt hk]
                have he : (mws bs b g 0 M)[k]? = some (bs + k, .inr (ci, fs.map (mrv bs b))) := mws_at hM
                have hts : ∀ w ∈ mTL, w.before args s = true := fun w hw => hK.2 w hw args
                have k2 := kk H locs cells slots rfl rfl hR hS
                cases host with
                | none => exact va_get hx hb hts (mlay_all ci _ hc) hown hK.1 hR.2.2 k he hc j hj (hts _ hlk) (mfield_same (args := args) hK.2 hdc) (by rw [List.getElem?_map, hv]; rfl) hd k2
                | some hh => exact va_getN hx hb hts (mlay_all ci _ hc) hown hK.1 hR.2.2 k he hc j hj (hts _ hlk) (mfield_same (args := args) hK.2 hdc) (by rw [List.getElem?_map, hv]; rfl) hd k2
              · cases h
            · cases h
      | _ => cases h
theorem snd_putf (C0 : mCx p s m meth c y D g) {a : Nat} {bb : Int} {S : Option (Nat × (Nat → Int32))} {st st' : List Value} {M M' : List mE} (h : mmem y 1 a S st M = some (st', M')) (hd : decode (mB y) pc = .ok (mraw2 1 a bb, 3)) (ho : mown (mCno y) (pc, 2, 1, a, bb) = true)
    (hR : mRel D g bs b M H) (hS : va_S (fun q => bs ≤ q) H0 H locs) (kk : mKk p l e R s m args below meth c H0 cells slots Q bs b D g (pc + 3) ls M M' st') : mWst p l e R s m args below meth c H locs cells slots Q bs b pc ls st := by
  obtain ⟨hx, hb, hown, hK, hnm, -⟩ := C0
  cases hF : mFS[a]? with
  | none => simp only [mmem, hF] at h; cases h
  | some q =>
    have hq := mFS_ok hF
    obtain ⟨o, idx, ref, nm, ds, host, j, al⟩ := q
    simp only [mraw2, hF] at hd
    simp only [mown, hF, beq_iff_eq] at ho
    subst ho
    simp only [mmem, hF] at h
    split at h
    · next v k r q9 he9 =>
      cases he9
      cases hM : M[k]? with
      | none => simp [hM] at h
      | some en =>
        cases en with
        | inl x => simp only [hM] at h; cases h
        | inr x =>
          obtain ⟨ci, fs⟩ := x
          simp only [hM] at h
          cases hc : mcl[ci]? with
          | none => simp only [hc] at h; cases h
          | some cq =>
            obtain ⟨C, T, N⟩ := cq
            cases hty : mty[ci]? with
            | none => simp only [hc, hty] at h; cases h
            | some ty0 =>
              simp only [hc, hty] at h
              split at h
              · next hcond =>
                cases h
                obtain ⟨hal, hjl, hnf, hfin⟩ := hcond
                obtain ⟨hlk, hcl⟩ := hq
                obtain ⟨C', T', N', hc', hj, hn, hds, hdc⟩ := hcl ci (List.contains_iff_mem.mp hal)
                have e1 := hc.symm.trans hc'
                cases e1
                subst hn; subst hds
                have hk : k < mSCR := hR.lt hM
                show W p l e R s m args below meth c H locs cells slots Q (F0 m pc ls (mrv bs b v :: .ref (madd bs b k) :: List.map (mrv bs b) _))
                rw [madd_lt hk]
                have he : (mws bs b g 0 M)[k]? = some (bs + k, .inr (ci, fs.map (mrv bs b))) := mws_at hM
                obtain ⟨hn1, hn2⟩ := mrv_narrow (bs := bs) (b := b) hnf
                have hts : ∀ w ∈ mTL, w.before args s = true := fun w hw => hK.2 w hw args
                refine snd_put hx hb hK hown hc hty hR.2.2 he hj (by rw [List.length_map]; exact hjl) (mfield_same (args := args) hK.2 hdc) hn1 hn2 ?_ hd (fun H1 i z1 z2 z3 => ?_)
                · rcases hfin with hf | ⟨hf1, hf2, hf3⟩
                  · refine Or.inl ⟨hf, ?_⟩
                    cases host with
                    | none => exact Or.inl (hts _ hlk)
                    | some hh => exact Or.inr ⟨hh, hts _ hlk⟩
                  · by_cases hfb : (T j).2.2.2 = false
                    · refine Or.inl ⟨hfb, ?_⟩
                      cases host with
                      | none => exact Or.inl (hts _ hlk)
                      | some hh => exact Or.inr ⟨hh, hts _ hlk⟩
                    · have hf3 : host = none := hf3
                      subst hf3
                      exact Or.inr ⟨by simpa using hfb, hts _ hlk, hnm hf2, hf1⟩
                · have hset : va_at D mcl (bs + k, mre bs b g (.inr (ci, fs.set j v))) H1 := by
                    show va_at D mcl (bs + k, .inr (ci, (fs.set j v).map (mrv bs b))) H1
                    rw [List.map_set]
                    exact z2
                  have hsz : msz (M.set k (.inr (ci, fs.set j v))) = msz M := msz_set hM (by simp [mszE])
                  exact kk H1 _ cells slots (by simp) (by rw [hsz]) (hR.set hM hset z1 z3) (mS_put hS z1 z3 (by omega))
              · cases h
    · cases h
theorem snd_iald (C0 : mCx p s m meth c y D g) {a : Nat} {bb : Int} {S : Option (Nat × (Nat → Int32))} {st st' : List Value} {M M' : List mE} (h : mmem y 2 a S st M = some (st', M')) (hd : decode (mB y) pc = .ok (mraw2 2 a bb, 1))
    (hR : mRel D g bs b M H) (hS : va_S (fun q => bs ≤ q) H0 H locs) (hX : mSx bs b S s H0) (kk : mKk p l e R s m args below meth c H0 cells slots Q bs b D g (pc + 1) ls M M' st') : mWst p l e R s m args below meth c H locs cells slots Q bs b pc ls st := by
  obtain ⟨hx, hb, hown, hK, hnm, -⟩ := C0
  simp only [mmem] at h
  split at h
  · next i k r =>
    split at h
    · next hk =>
      subst hk
      cases S with
      | none => cases h
      | some q =>
        obtain ⟨n, xs⟩ := q
        simp only at h
        split at h
        · cases h
        · next hin =>
          cases h
          obtain ⟨hX1, hX2, hX3⟩ := hX
          show W p l e R s m args below meth c H locs cells slots Q (F0 m pc ls (.int i :: .ref (madd bs b mSCR) :: List.map (mrv bs b) _))
          rw [show madd bs b mSCR = b from if_pos rfl]
          exact va_sld hx hb hX1 hX2 (Nat.not_le.mpr hX3) hS hin hd (kk H locs cells slots rfl rfl hR hS)
    · next hk =>
      cases hM : M[k]? with
      | none => simp [hM] at h
      | some en =>
        simp only [hM] at h
        split at h
        · next n f he0 =>
          cases he0
          split at h
          · cases h
          · next hin =>
            cases h
            show W p l e R s m args below meth c H locs cells slots Q (F0 m pc ls (.int i :: .ref (madd bs b k) :: List.map (mrv bs b) _))
            rw [madd_lt (hR.lt hM)]
            exact va_iald hx hb hK.1 hR.2.2 k 0 (mws_at hM) (mtys_0 g) hin hd (kk H locs cells slots rfl rfl hR hS)
        · cases h
  · cases h
theorem snd_iast (C0 : mCx p s m meth c y D g) {a : Nat} {bb : Int} {S : Option (Nat × (Nat → Int32))} {st st' : List Value} {M M' : List mE} (h : mmem y 3 a S st M = some (st', M')) (hd : decode (mB y) pc = .ok (mraw2 3 a bb, 1))
    (hR : mRel D g bs b M H) (hS : va_S (fun q => bs ≤ q) H0 H locs) (kk : mKk p l e R s m args below meth c H0 cells slots Q bs b D g (pc + 1) ls M M' st') : mWst p l e R s m args below meth c H locs cells slots Q bs b pc ls st := by
  obtain ⟨hx, hb, hown, hK, hnm, -⟩ := C0
  simp only [mmem] at h
  split at h
  · next x i k r =>
    cases hM : M[k]? with
    | none => simp [hM] at h
    | some en =>
      simp only [hM] at h
      split at h
      · next n f he0 =>
        cases he0
        split at h
        · cases h
        · next hin =>
          cases h
          show W p l e R s m args below meth c H locs cells slots Q (F0 m pc ls (.int x :: .int i :: .ref (madd bs b k) :: List.map (mrv bs b) _))
          rw [madd_lt (hR.lt hM)]
          have hcell : H[bs + k]? = some (vp_cell (g 0) (n, .inl f)) := hR.2.2 k _ (mws_at hM)
          refine W.iast hx hb hcell ((hK.1.2 0 _ (mtys_0 g)).1 n (fun j => .int (f j))) (fun q => by cases q) (by show ¬ (i < 0 ∨ (arrV _ _ _).slots.size ≤ _); rw [arrV_size]; exact hin) rfl rfl hd (fun H1 e1 z1 z3 => ?_)
          have hset : va_at D mcl (bs + k, mre bs b g (.inl (0, n, .inl (upd f i.toNatClampNeg x)))) H1 := by
            show H1[bs + k]? = some (vp_cell _ _)
            rw [e1, vp_cell_i, vp_cell_i, arrV_store]
            refine congrArg (fun z => some (arrV (g 0) n z)) (funext fun q => ?_)
            by_cases hq : q = i.toNatClampNeg
            · simp [updV, upd, hq]
            · simp [updV, upd, hq]
          have hsz : msz (M.set k (.inl (0, n, .inl (upd f i.toNatClampNeg x)))) = msz M := msz_set hM rfl
          exact kk H1 _ cells slots (by simp) (by rw [hsz]) (hR.set hM hset z1 z3) (mS_put hS z1 z3 (by omega))
      · cases h
  · cases h
theorem snd_aald (C0 : mCx p s m meth c y D g) {a : Nat} {bb : Int} {S : Option (Nat × (Nat → Int32))} {st st' : List Value} {M M' : List mE} (h : mmem y 4 a S st M = some (st', M')) (hd : decode (mB y) pc = .ok (mraw2 4 a bb, 1))
    (hR : mRel D g bs b M H) (hS : va_S (fun q => bs ≤ q) H0 H locs) (kk : mKk p l e R s m args below meth c H0 cells slots Q bs b D g (pc + 1) ls M M' st') : mWst p l e R s m args below meth c H locs cells slots Q bs b pc ls st := by
  obtain ⟨hx, hb, hown, hK, hnm, -⟩ := C0
  simp only [mmem] at h
  split at h
  · next i k r =>
    cases hM : M[k]? with
    | none => simp [hM] at h
    | some en =>
      simp only [hM] at h
      split at h
      · next t n f he0 =>
        cases he0
        split at h
        · cases h
        · next hin =>
          split at h
          · next z hz =>
            cases h
            have hin1 : ¬ (i < 0 ∨ n ≤ i.toNatClampNeg) := fun q => hin (Or.inl q)
            have ht1 : ¬ 2 < t := fun q => hin (Or.inr (Or.inl q))
            have ht0 : ¬ t = 0 := fun q => hin (Or.inr (Or.inr q))
            show W p l e R s m args below meth c H locs cells slots Q (F0 m pc ls (.int i :: .ref (madd bs b k) :: List.map (mrv bs b) r))
            rw [madd_lt (hR.lt hM)]
            have hlt : i.toNatClampNeg < n := Nat.not_le.mp fun q => hin1 (Or.inr q)
            have hcell : H[bs + k]? = some (vp_cell (g t) (n, .inr (.inr (.inr (.inr (fun i => (f i).map (madd bs b))))))) := hR.2.2 k _ (mws_at hM)
            have k2 := kk H locs cells slots rfl rfl hR hS
            have hv : (fun i => (f i).map (madd bs b)) i.toNatClampNeg = some (madd bs b z) := by simp [hz]
            have key : ∀ ty, (mtys g)[t]? = some (g t, ty) → ty.isReference = true → W p l e R s m args below meth c H locs cells slots Q (F0 m pc ls (.int i :: .ref (bs + k) :: List.map (mrv bs b) r)) := by
              intro ty hty hor
              exact W.aald (v := .ref (madd bs b z)) (ty := ty) hx hb hcell ((hK.1.2 t _ hty).1 n _) hor (fun q => by cases q) (by show ¬ (i < 0 ∨ (arrV _ _ _).slots.size ≤ _); rw [arrV_size]; exact hin1) (by show (arrV _ _ _).slots[_]? = _; rw [arrV_read _ _ hlt, hv]; rfl) rfl rfl hd k2
            have ht : t = 1 ∨ t = 2 := by omega
            rcases ht with rfl | rfl
            · exact key _ rfl rfl
            · exact key _ rfl rfl
          · cases h
      · cases h
  · cases h
theorem snd_alen (C0 : mCx p s m meth c y D g) {a : Nat} {bb : Int} {S : Option (Nat × (Nat → Int32))} {st st' : List Value} {M M' : List mE} (h : mmem y 5 a S st M = some (st', M')) (hd : decode (mB y) pc = .ok (mraw2 5 a bb, 1))
    (hR : mRel D g bs b M H) (hS : va_S (fun q => bs ≤ q) H0 H locs) (hX : mSx bs b S s H0) (kk : mKk p l e R s m args below meth c H0 cells slots Q bs b D g (pc + 1) ls M M' st') : mWst p l e R s m args below meth c H locs cells slots Q bs b pc ls st := by
  obtain ⟨hx, hb, hown, hK, hnm, -⟩ := C0
  simp only [mmem] at h
  split at h
  · next k r =>
    split at h
    · next hk =>
      subst hk
      cases S with
      | none => cases h
      | some q =>
        obtain ⟨n, xs⟩ := q
        cases h
        obtain ⟨hX1, hX2, hX3⟩ := hX
        show W p l e R s m args below meth c H locs cells slots Q (F0 m pc ls (.ref (madd bs b mSCR) :: List.map (mrv bs b) _))
        rw [show madd bs b mSCR = b from if_pos rfl]
        exact va_slen hx hb hX1 hX2 (Nat.not_le.mpr hX3) hS hd (kk H locs cells slots rfl rfl hR hS)
    · next hk =>
      cases hM : M[k]? with
      | none => simp [hM] at h
      | some en =>
        simp only [hM] at h
        split at h
        · next t n f he0 =>
          cases he0
          split at h
          · next ht =>
            cases h
            show W p l e R s m args below meth c H locs cells slots Q (F0 m pc ls (.ref (madd bs b k) :: List.map (mrv bs b) _))
            rw [madd_lt (hR.lt hM)]
            have k2 := kk H locs cells slots rfl rfl hR hS
            have ht' : t = 0 ∨ t = 1 ∨ t = 2 := by omega
            cases f with
            | inl f =>
              rcases ht' with rfl | rfl | rfl
              · exact va_alen (x := (n, .inl f)) hx hb hK.1 hR.2.2 k 0 (mws_at hM) (ty := .int) rfl rfl hd k2
              · exact va_alen (x := (n, .inl f)) hx hb hK.1 hR.2.2 k 1 (mws_at hM) (ty := .object RX2) rfl rfl hd k2
              · exact va_alen (x := (n, .inl f)) hx hb hK.1 hR.2.2 k 2 (mws_at hM) (ty := .array .int) rfl rfl hd k2
            | inr f =>
              rcases ht' with rfl | rfl | rfl
              · exact va_alen (x := (n, .inr (.inr (.inr (.inr (fun i => (f i).map (madd bs b))))))) hx hb hK.1 hR.2.2 k 0 (mws_at hM) (ty := .int) rfl rfl hd k2
              · exact va_alen (x := (n, .inr (.inr (.inr (.inr (fun i => (f i).map (madd bs b))))))) hx hb hK.1 hR.2.2 k 1 (mws_at hM) (ty := .object RX2) rfl rfl hd k2
              · exact va_alen (x := (n, .inr (.inr (.inr (.inr (fun i => (f i).map (madd bs b))))))) hx hb hK.1 hR.2.2 k 2 (mws_at hM) (ty := .array .int) rfl rfl hd k2
          · cases h
        · cases h
  · cases h
end MM2
