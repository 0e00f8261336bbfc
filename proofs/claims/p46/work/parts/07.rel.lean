/-! THE MINI-MACHINE AGAINST THE MACHINE: worlds, locals, what touches them alone, jumps -/
theorem mws_get (bs b : Nat) (g : Nat → ClassId) : ∀ (M : List mE) (k0 k : Nat), (mws bs b g k0 M)[k]? = (M[k]?).map (fun e => (bs + (k0 + k), mre bs b g e))
  | [], k0, k => by simp [mws]
  | e :: r, k0, 0 => by simp [mws]
  | e :: r, k0, k + 1 => by
    show (mws bs b g (k0 + 1) r)[k]? = _
    rw [mws_get bs b g r (k0 + 1) k, show k0 + 1 + k = k0 + (k + 1) by omega]
    rfl
theorem mws_at {bs b : Nat} {g : Nat → ClassId} {M : List mE} {k : Nat} {e : mE} (h : M[k]? = some e) : (mws bs b g 0 M)[k]? = some (bs + k, mre bs b g e) := by
  rw [mws_get, h, Nat.zero_add]; rfl
theorem mws_len (bs b : Nat) (g : Nat → ClassId) : ∀ (M : List mE) (k0 : Nat), (mws bs b g k0 M).length = M.length
  | [], _ => rfl
  | _ :: r, k0 => congrArg (· + 1) (mws_len bs b g r (k0 + 1))
theorem mws_set (bs b : Nat) (g : Nat → ClassId) (M : List mE) (k : Nat) (e : mE) : (mws bs b g 0 M).set k (bs + k, mre bs b g e) = mws bs b g 0 (M.set k e) := by
  apply List.ext_getElem?
  intro i
  rw [mws_get, List.getElem?_set, List.getElem?_set, mws_len, mws_get]
  by_cases h : k = i
  · subst h
    by_cases h2 : k < M.length
    · simp [h2]
    · simp [h2]
  · simp [h]
theorem mws_app (bs b : Nat) (g : Nat → ClassId) (M N : List mE) : mws bs b g 0 (M ++ N) = mws bs b g 0 M ++ mws bs b g M.length N := by
  apply List.ext_getElem?
  intro i
  rw [mws_get]
  by_cases h : i < M.length
  · rw [List.getElem?_append_left h, List.getElem?_append_left (by rw [mws_len]; exact h), mws_get]
  · rw [List.getElem?_append_right (by omega), List.getElem?_append_right (by rw [mws_len]; omega), mws_get, mws_len, show M.length + (i - M.length) = 0 + i by omega]
theorem mws_D (bs b : Nat) (g : Nat → ClassId) (M : List mE) : va_D (fun q => bs ≤ q) (mws bs b g 0 M) := by
  have key : ∀ (k : Nat) (q : Nat × va_E), (mws bs b g 0 M)[k]? = some q → q.1 = bs + k := by
    intro k q h
    rw [mws_get] at h
    cases hk : M[k]? with
    | none => rw [hk] at h; cases h
    | some e => rw [hk] at h; cases h; show bs + (0 + k) = bs + k; omega
  refine ⟨fun i j p q hi hj e => ?_, fun k q h => ?_⟩
  · have := key i p hi
    have := key j q hj
    omega
  · rw [key k q h]
    omega
theorem madd_lt {bs b k : Nat} (h : k < mSCR) : madd bs b k = bs + k := if_neg (by omega)
def mtys (g : Nat → ClassId) : List (ClassId × FieldType) := [(g 0, .int), (g 1, .object RX2), (g 2, .array .int)]
def mTW (U : State) : Prop := ∀ w ∈ mTL, ∀ a : Array Value, w.before a U = true
def mKK (D : va_G) (g : Nat → ClassId) (U : State) : Prop := va_K D mcl (mtys g) U ∧ mTW U
def mRel (D : va_G) (g : Nat → ClassId) (bs b : Nat) (M : List mE) (H : Heap) : Prop := H.size = bs + M.length ∧ M.length < mSCR ∧ va_P D mcl (mws bs b g 0 M) H
theorem mRel.lt {D : va_G} {g : Nat → ClassId} {bs b k : Nat} {M : List mE} {H : Heap} (h : mRel D g bs b M H) {e : mE} (hk : M[k]? = some e) : k < mSCR := by
  have := (List.getElem?_eq_some_iff.mp hk).1
  have := h.2.1
  omega
theorem mAOa {ty : FieldType} {u U : State} (hvm : u.vm.Alike U.vm) (h : (Cond.arrayOver (.array ty)).before #[] u = true) : (Cond.arrayOver (.array ty)).before #[] U = true := by
  unfold Cond.before Cond.holds at h ⊢
  simp only [Cond.value, beq_iff_eq] at h ⊢
  simp only [hvm.findClass]
  cases hc : u.vm.findClass (FieldType.array ty).toString with
  | none => simp [hc] at h
  | some comp =>
    simp only [hc, Option.bind_some, Option.bind_eq_some_iff, Option.map_eq_some_iff] at h ⊢
    obtain ⟨c, hi, k, hk, hb⟩ := h
    obtain ⟨k', hk', he⟩ := hvm.2.2 _ _ hk
    refine ⟨c, ?_, k', hk', by rw [he]; exact hb⟩
    have hb2 : u.vm.bare = U.vm.bare := by first | exact hvm.bare_eq | exact hvm.bare_eq.symm
    have key := (va_idx_bare U.vm comp).symm.trans ((congrArg (fun v : Vm => v.classes.findIdx? fun (x : Class) => match x.kind with | .array component _ => component == comp | _ => false) hb2.symm).trans (va_idx_bare u.vm comp))
    exact Eq.trans key hi
theorem mTW.moved {s U : State} (hW : s.WarmedH U.vm) (h : mTW s) : mTW U := by
  intro w hw a
  have hm := (List.mem_filter.mp hw).2
  cases w with
  | fieldLinkNest a1 a2 a3 a4 a5 a6 => exact va_Nw.use rfl (va_Nw.warmF hW (h _ hw #[]))
  | methodLinkNest a1 a2 a3 a4 => exact va_Nw.use rfl (va_Nw.warmM hW (h _ hw #[]))
  | declares a1 => exact va_Nw.use rfl (va_Nw.warmD hW (h _ hw #[]))
  | arrayOver a1 =>
    have h0 := h _ hw #[]
    cases a1 with
    | object C => exact va_AO.moved hW.alike h0
    | array t => exact mAOa hW.alike h0
    | _ => simp [Cond.before, Cond.holds, Cond.value] at h0
  | _ => exact word_at hW (good_of_word (by simpa [mmv] using hm)) (h _ hw #[])
theorem mKK.moved {D : va_G} {g : Nat → ClassId} {s U : State} (hW : s.WarmedH U.vm) (h : mKK D g s) : mKK D g U := ⟨va_K.moved hW.alike h.1, h.2.moved hW⟩
theorem mKK.calling {D : va_G} {g : Nat → ClassId} {U : State} (f : JFrame) (mk : MethodId) (a : Array Value) (h : mKK D g U) : mKK D g (U.calling f mk a) := mKK.moved (s := U) (U := U.calling f mk a) (State.WarmedH.refl U) h
-- locals
def mkl (bs b : Nat) (L : List (Option Value)) : List (Nat × Value) := L.zipIdx.filterMap (fun q => q.1.map (fun v => (q.2, mrv bs b v)))
theorem mrv_cat (bs b : Nat) (v : Value) : (mrv bs b v).category = v.category := by cases v <;> rfl
theorem mget_iff {L : List (Option Value)} {i : Nat} {v : Value} : mget L i = some v ↔ L[i]? = some (some v) := by
  unfold mget
  cases h : L[i]? with
  | none => simp
  | some o => simp
theorem mkl_mem {bs b : Nat} {L : List (Option Value)} {i : Nat} {w : Value} : (i, w) ∈ mkl bs b L ↔ ∃ v, mget L i = some v ∧ mrv bs b v = w := by
  unfold mkl
  rw [List.mem_filterMap]
  constructor
  · rintro ⟨⟨o, j⟩, h1, h2⟩
    have h3 := List.mem_zipIdx_iff_getElem?.mp h1
    cases o with
    | none => cases h2
    | some v =>
      cases h2
      exact ⟨v, mget_iff.mpr h3, rfl⟩
  · rintro ⟨v, h1, rfl⟩
    exact ⟨(some v, i), List.mem_zipIdx_iff_getElem?.mpr (mget_iff.mp h1), rfl⟩
theorem lv_less {ls : Array Slot} {n : Nat} {l l' : List (Nat × Value)} (h : lv_has ls n l) (hs : ∀ q ∈ l', q ∈ l) : lv_has ls n l' := ⟨h.1, h.2.1, fun q hq => h.2.2 q (hs q hq)⟩
theorem mkl_get {ls : Array Slot} {n bs b i : Nat} {L : List (Option Value)} {v : Value} (hl : lv_has ls n (mkl bs b L)) (h : mget L i = some v) : ls[i]? = some (.val (mrv bs b v)) := hl.2.2 (i, mrv bs b v) (mkl_mem.mpr ⟨v, h, rfl⟩)
theorem mget_set {L : List (Option Value)} {i j : Nat} {o : Option Value} (hi : i < L.length) : mget (L.set i o) j = if i = j then o else mget L j := by
  unfold mget
  rw [List.getElem?_set]
  by_cases h : i = j
  · subst h; simp [hi]
  · simp [h]
theorem mput_len {L L' : List (Option Value)} {i : Nat} {v : Value} (h : mput L i v = some L') : L'.length = L.length ∧ i < L.length ∧ v.category = 1 := by
  unfold mput at h
  split at h
  · next hc => cases h; exact ⟨by simp, hc.1, hc.2.2⟩
  · cases h
theorem mput_mem {bs b : Nat} {L L' : List (Option Value)} {i : Nat} {v : Value} (h : mput L i v = some L') : ∀ q ∈ mkl bs b L', q ∈ (i, mrv bs b v) :: (mkl bs b L).filter (fun q => !(q.1 == i) && !(q.1 + 1 == i && q.2.category == 2)) := by
  unfold mput at h
  split at h
  · next hc =>
    obtain ⟨hi, hf, hv⟩ := hc
    cases h
    rintro ⟨j, w⟩ hq
    obtain ⟨v', h1, rfl⟩ := mkl_mem.mp hq
    rw [mget_set hi] at h1
    by_cases hj : i = j
    · subst hj
      rw [if_pos rfl] at h1
      cases h1
      exact List.mem_cons_self
    · rw [if_neg hj] at h1
      refine List.mem_cons_of_mem _ (List.mem_filter.mpr ⟨mkl_mem.mpr ⟨v', h1, rfl⟩, ?_⟩)
      have hne : (j == i) = false := by simpa using fun e => hj e.symm
      simp only [hne, Bool.not_false, Bool.true_and, Bool.not_eq_true', Bool.and_eq_false_iff, mrv_cat]
      by_cases hk : j + 1 = i
      · subst hk
        right
        have hf : (match mget L j with | some v => v.category != 2 | none => true) = true := hf
        rw [h1] at hf
        simpa using hf
      · left
        simpa using hk
  · cases h
theorem mput2_len {L L' : List (Option Value)} {i : Nat} {v : Value} (h : mput2 L i v = some L') : L'.length = L.length ∧ i + 1 < L.length ∧ v.category = 2 := by
  unfold mput2 at h
  split at h
  · next hc => cases h; exact ⟨by simp, hc.1, hc.2.2⟩
  · cases h
theorem mput2_mem {bs b : Nat} {L L' : List (Option Value)} {i : Nat} {v : Value} (h : mput2 L i v = some L') : ∀ q ∈ mkl bs b L', q ∈ (i, mrv bs b v) :: (mkl bs b L).filter (fun q => !(q.1 == i) && (!(q.1 == i + 1) && !(q.1 + 1 == i && q.2.category == 2))) := by
  unfold mput2 at h
  split at h
  · next hc =>
    obtain ⟨hi, hf, hv⟩ := hc
    cases h
    rintro ⟨j, w⟩ hq
    obtain ⟨v', h1, rfl⟩ := mkl_mem.mp hq
    rw [mget_set (by rw [List.length_set]; omega), mget_set (by omega)] at h1
    by_cases hj1 : i + 1 = j
    · rw [if_pos hj1] at h1; cases h1
    rw [if_neg hj1] at h1
    by_cases hj : i = j
    · subst hj
      rw [if_pos rfl] at h1
      cases h1
      exact List.mem_cons_self
    · rw [if_neg hj] at h1
      refine List.mem_cons_of_mem _ (List.mem_filter.mpr ⟨mkl_mem.mpr ⟨v', h1, rfl⟩, ?_⟩)
      have hne : (j == i) = false := by simpa using fun e => hj e.symm
      have hne1 : (j == i + 1) = false := by simpa using fun e => hj1 e.symm
      simp only [hne, hne1, Bool.not_false, Bool.true_and, Bool.not_eq_true', Bool.and_eq_false_iff, mrv_cat]
      by_cases hk : j + 1 = i
      · subst hk
        right
        have hf : (match mget L j with | some v => v.category != 2 | none => true) = true := hf
        rw [h1] at hf
        simpa using hf
      · left
        simpa using hk
  · cases h
section MP
variable {p : Program} {l : Launch} {e : Env} {R : Room} {s : State} {m : MethodId} {args : Array Value} {below : List Frame} {meth : Method} {c : Code} {H : Heap} {locs : List Loc} {cells slots : Nat} {Q : State → Prop} {cc : ByteArray} {pc bs b : Nat} {ls : Array Slot} {nL : Nat}
abbrev mWst (p : Program) (l : Launch) (e : Env) (R : Room) (s : State) (m : MethodId) (args : Array Value) (below : List Frame) (meth : Method) (c : Code) (H : Heap) (locs : List Loc) (cells slots : Nat) (Q : State → Prop) (bs b pc : Nat) (ls : Array Slot) (st : List Value) : Prop :=
  W p l e R s m args below meth c H locs cells slots Q (F0 m pc ls (st.map (mrv bs b)))
theorem snd_bin (hx : p.tables.exec = Jvm.exec) (hb : c.code = cc) {a : Nat} {x y z : Int32} {rest : List Value} (hz : mbin a x y = some z) (hd : decode cc pc = .ok (mrbin a, 1))
    (k : W p l e R s m args below meth c H locs cells slots Q (F0 m (pc + 1) ls (.int z :: rest))) : W p l e R s m args below meth c H locs cells slots Q (F0 m pc ls (.int y :: .int x :: rest)) := by
  match a, hz, hd with
  | 0, hz, hd => cases hz; exact lv_iadd hx hb hd k
  | 1, hz, hd => cases hz; exact lv_isub hx hb hd k
  | 2, hz, hd => cases hz; exact lv_imul hx hb hd k
  | 3, hz, hd => cases hz; exact lv_iand hx hb hd k
  | 4, hz, hd => cases hz; exact lv_ior hx hb hd k
  | 5, hz, hd => cases hz; exact lv_ixor hx hb hd k
  | 6, hz, hd => cases hz; exact lv_ishl hx hb hd k
  | 7, hz, hd => cases hz; exact lv_ishr hx hb hd k
  | 8, hz, hd => cases hz; exact lv_iushr hx hb hd rfl k
  | 9, hz, hd =>
    simp only [mbin] at hz
    split at hz
    · cases hz
    · next h0 => cases hz; exact lv_idiv hx hb hd h0 k
  | n + 10, hz, hd =>
    simp only [mbin] at hz
    split at hz
    · cases hz
    · next h0 => cases hz; exact lv_irem hx hb hd h0 k
theorem snd_lbin (hx : p.tables.exec = Jvm.exec) (hb : c.code = cc) {a : Nat} {x y : Int64} {rest : List Value} (hd : decode cc pc = .ok (mrlb a, 1))
    (k : W p l e R s m args below meth c H locs cells slots Q (F0 m (pc + 1) ls (.long (mlbin a x y) :: rest))) : W p l e R s m args below meth c H locs cells slots Q (F0 m pc ls (.long y :: .long x :: rest)) := by
  match a, hd, k with
  | 0, hd, k => exact lv_lor hx hb hd k
  | 1, hd, k => exact lv_land hx hb hd k
  | 2, hd, k => exact lv_ladd hx hb hd k
  | n + 3, hd, k => exact lv_lsub hx hb hd k
set_option maxHeartbeats 4000000 in
theorem snd_pure (hx : p.tables.exec = Jvm.exec) (hb : c.code = cc) {op a : Nat} {bb : Int} {L L' : List (Option Value)} {st st' : List Value} (h : mpure op a bb L st = some (L', st')) (hd : decode cc pc = .ok (mraw0 op a bb, mlen 0 op bb))
    (hl : lv_has ls nL (mkl bs b L)) (hn : L.length = nL)
    (kk : ∀ ls', L'.length = nL → lv_has ls' nL (mkl bs b L') → mWst p l e R s m args below meth c H locs cells slots Q bs b (pc + mlen 0 op bb) ls' st') : mWst p l e R s m args below meth c H locs cells slots Q bs b pc ls st := by
  match op, h, hd, kk with
  | 0, h, hd, kk => cases h; exact lv_iconst hx hb hd rfl (kk ls hn hl)
  | 1, h, hd, kk => cases h; exact lv_bipush hx hb hd rfl (kk ls hn hl)
  | 2, h, hd, kk => cases h; exact lv_sipush hx hb hd rfl (kk ls hn hl)
  | 3, h, hd, kk =>
    simp only [mpure] at h
    split at h
    · next x hg => cases h; exact lv_iload_n hx hb hd rfl (mkl_get hl hg) (kk ls hn hl)
    · cases h
  | 4, h, hd, kk =>
    simp only [mpure] at h
    split at h
    · next x hg => cases h; exact lv_iload hx hb hd (mkl_get hl hg) (kk ls hn hl)
    · cases h
  | 5, h, hd, kk =>
    simp only [mpure] at h
    split at h
    · next x hg => cases h; exact lv_aload_n hx hb hd rfl (mkl_get hl hg) (kk ls hn hl)
    · cases h
  | 6, h, hd, kk =>
    simp only [mpure] at h
    split at h
    · next x hg => cases h; exact lv_aload hx hb hd (mkl_get hl hg) (kk ls hn hl)
    · cases h
  | 7, h, hd, kk =>
    simp only [mpure] at h
    split at h
    · next x r =>
      obtain ⟨L1, h1, h2⟩ := Option.map_eq_some_iff.mp h
      cases h2
      obtain ⟨e1, e2, -⟩ := mput_len h1
      exact lv_istore_n hx hb hd rfl hl (by rw [← hn]; exact e2) rfl (fun ls' h' => kk ls' (e1.trans hn) (lv_less h' (mput_mem h1)))
    · cases h
  | 8, h, hd, kk =>
    simp only [mpure] at h
    split at h
    · next x r =>
      obtain ⟨L1, h1, h2⟩ := Option.map_eq_some_iff.mp h
      cases h2
      obtain ⟨e1, e2, -⟩ := mput_len h1
      exact lv_istore hx hb hd hl (by rw [← hn]; exact e2) rfl (fun ls' h' => kk ls' (e1.trans hn) (lv_less h' (mput_mem h1)))
    · cases h
  | 9, h, hd, kk =>
    simp only [mpure] at h
    split at h
    · next x r =>
      obtain ⟨L1, h1, h2⟩ := Option.map_eq_some_iff.mp h
      cases h2
      obtain ⟨e1, e2, -⟩ := mput_len h1
      exact lv_astore_n hx hb hd rfl hl (by rw [← hn]; exact e2) rfl (fun ls' h' => kk ls' (e1.trans hn) (lv_less h' (mput_mem h1)))
    · cases h
  | 10, h, hd, kk =>
    simp only [mpure] at h
    split at h
    · next x r =>
      obtain ⟨L1, h1, h2⟩ := Option.map_eq_some_iff.mp h
      cases h2
      obtain ⟨e1, e2, -⟩ := mput_len h1
      exact lv_astore hx hb hd hl (by rw [← hn]; exact e2) rfl (fun ls' h' => kk ls' (e1.trans hn) (lv_less h' (mput_mem h1)))
    · cases h
  | 11, h, hd, kk =>
    simp only [mpure] at h
    split at h
    · next x hg =>
      obtain ⟨L1, h1, h2⟩ := Option.map_eq_some_iff.mp h
      cases h2
      obtain ⟨e1, e2, -⟩ := mput_len h1
      obtain ⟨k0, hk0⟩ := List.getElem?_of_mem (mkl_mem.mpr ⟨_, hg, rfl⟩ : (a, mrv bs b (.int x)) ∈ mkl bs b L)
      exact lv_iinc hx hb hd hl hk0 rfl (by rw [← hn]; exact e2) rfl (fun ls' h' => kk ls' (e1.trans hn) (lv_less h' (mput_mem h1)))
    · cases h
  | 12, h, hd, kk =>
    simp only [mpure] at h
    split at h
    · next y x r =>
      obtain ⟨z, h1, h2⟩ := Option.map_eq_some_iff.mp h
      cases h2
      exact snd_bin hx hb h1 hd (kk ls hn hl)
    · cases h
  | 13, h, hd, kk =>
    simp only [mpure] at h
    split at h
    · cases h; exact lv_ineg hx hb hd (kk ls hn hl)
    · cases h
  | 14, h, hd, kk =>
    simp only [mpure] at h
    split at h
    · split at h
      · next hc => cases h; exact lv_pop hx hb hd (by rw [mrv_cat]; exact hc) (kk ls hn hl)
      · cases h
    · cases h
  | 15, h, hd, kk =>
    simp only [mpure] at h
    split at h
    · split at h
      · next hc => cases h; exact lv_dup hx hb hd (by rw [mrv_cat]; exact hc) (kk ls hn hl)
      · cases h
    · cases h
  | 16, h, hd, kk =>
    simp only [mpure] at h
    split at h
    · split at h
      · next hc => cases h; exact lv_dup2_11 hx hb hd (by rw [mrv_cat]; exact hc.1) (by rw [mrv_cat]; exact hc.2) (kk ls hn hl)
      · cases h
    · cases h
  | 17, h, hd, kk => cases h; exact lv_lconst hx hb hd rfl (kk ls hn hl)
  | 18, h, hd, kk =>
    simp only [mpure] at h
    split at h
    · next x hg => cases h; exact lv_lload_n hx hb hd rfl (mkl_get hl hg) (kk ls hn hl)
    · cases h
  | 19, h, hd, kk =>
    simp only [mpure] at h
    split at h
    · next x r =>
      obtain ⟨L1, h1, h2⟩ := Option.map_eq_some_iff.mp h
      cases h2
      obtain ⟨e1, e2, -⟩ := mput2_len h1
      exact lv_lstore_n hx hb hd rfl hl (by rw [← hn]; exact e2) rfl (fun ls' h' => kk ls' (e1.trans hn) (lv_less h' (mput2_mem h1)))
    · cases h
  | 20, h, hd, kk =>
    simp only [mpure] at h
    split at h
    · cases h; exact snd_lbin hx hb hd (kk ls hn hl)
    · cases h
  | 21, h, hd, kk =>
    simp only [mpure] at h
    split at h
    · next y x r =>
      cases h
      by_cases ha : a = 0
      · subst ha
        exact lv_lshl hx hb hd rfl (kk ls hn hl)
      · simp only [mraw0, if_neg ha] at hd
        simp only [if_neg ha] at kk
        exact lv_lushr hx hb hd rfl (kk ls hn hl)
    · cases h
  | 22, h, hd, kk =>
    simp only [mpure] at h
    split at h
    · cases h; exact lv_l2i hx hb hd rfl (kk ls hn hl)
    · cases h
  | n + 23, h, hd, kk => cases h
theorem mto_some {pc t : Nat} {o : Int} (h : mto pc o = some t) : (pc : Int) + o = (t : Int) := by
  unfold mto at h
  split at h
  · next hc => cases h; omega
  · cases h
theorem snd_if0 (hx : p.tables.exec = Jvm.exec) (hb : c.code = cc) {a t : Nat} {o : Int} {x : Int32} {rest : List Value} (ht : (pc : Int) + o = (t : Int)) (hd : decode cc pc = .ok (.ifCond (mrc a) o, 3))
    (k1 : mcmp a x 0 = true → W p l e R s m args below meth c H locs cells slots Q (F0 m t ls rest)) (k2 : mcmp a x 0 = false → W p l e R s m args below meth c H locs cells slots Q (F0 m (pc + 3) ls rest)) : W p l e R s m args below meth c H locs cells slots Q (F0 m pc ls (.int x :: rest)) := by
  match a, hd, k1, k2 with
  | 0, hd, k1, k2 => exact lv_if_eq hx hb hd ht (fun h => k1 (by simp [mcmp, h])) (fun h => k2 (by simp [mcmp, h]))
  | 1, hd, k1, k2 => exact lv_if_ne hx hb hd ht (fun h => k1 (by simp [mcmp, h])) (fun h => k2 (by simp [mcmp, h]))
  | 2, hd, k1, k2 => exact lv_if_lt hx hb hd ht (fun h => k1 (by simpa [mcmp] using h)) (fun h => k2 (by simpa [mcmp] using h))
  | 3, hd, k1, k2 => exact lv_if_ge hx hb hd ht (fun h => k1 (by simpa [mcmp] using h)) (fun h => k2 (by simpa [mcmp] using h))
  | 4, hd, k1, k2 => exact lv_if_gt hx hb hd ht (fun h => k1 (by simpa [mcmp] using h)) (fun h => k2 (by simpa [mcmp] using h))
  | n + 5, hd, k1, k2 => exact lv_if_le hx hb hd ht (fun h => k1 (by simpa [mcmp] using h)) (fun h => k2 (by simpa [mcmp] using h))
theorem snd_if2 (hx : p.tables.exec = Jvm.exec) (hb : c.code = cc) {a t : Nat} {o : Int} {x y : Int32} {rest : List Value} (ht : (pc : Int) + o = (t : Int)) (hd : decode cc pc = .ok (.if_icmp (mrc a) o, 3))
    (k1 : mcmp a x y = true → W p l e R s m args below meth c H locs cells slots Q (F0 m t ls rest)) (k2 : mcmp a x y = false → W p l e R s m args below meth c H locs cells slots Q (F0 m (pc + 3) ls rest)) : W p l e R s m args below meth c H locs cells slots Q (F0 m pc ls (.int y :: .int x :: rest)) := by
  match a, hd, k1, k2 with
  | 0, hd, k1, k2 => exact lv_icmp_eq hx hb hd ht (fun h => k1 (by simp [mcmp, h])) (fun h => k2 (by simp [mcmp, h]))
  | 1, hd, k1, k2 => exact lv_icmp_ne hx hb hd ht (fun h => k1 (by simp [mcmp, h])) (fun h => k2 (by simp [mcmp, h]))
  | 2, hd, k1, k2 => exact lv_icmp_lt hx hb hd ht (fun h => k1 (by simpa [mcmp] using h)) (fun h => k2 (by simpa [mcmp] using h))
  | 3, hd, k1, k2 => exact lv_icmp_ge hx hb hd ht (fun h => k1 (by simpa [mcmp] using h)) (fun h => k2 (by simpa [mcmp] using h))
  | 4, hd, k1, k2 => exact lv_icmp_gt hx hb hd ht (fun h => k1 (by simpa [mcmp] using h)) (fun h => k2 (by simpa [mcmp] using h))
  | n + 5, hd, k1, k2 => exact lv_icmp_le hx hb hd ht (fun h => k1 (by simpa [mcmp] using h)) (fun h => k2 (by simpa [mcmp] using h))
end MP
