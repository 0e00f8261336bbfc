/-! THE MINI-MACHINE AGAINST THE MACHINE: jumps, constants, cells -/
theorem msum_set : ∀ (l : List Nat) (k x : Nat), l[k]? = some x → (l.set k x).sum = l.sum
  | [], _, _, h => by simp at h
  | a :: l, 0, x, h => by cases h; rfl
  | a :: l, k + 1, x, h => by
    show a + (l.set k x).sum = a + l.sum
    rw [msum_set l k x h]
theorem msz_set {M : List mE} {k : Nat} {e e' : mE} (h : M[k]? = some e) (hs : mszE e' = mszE e) : msz (M.set k e') = msz M := by
  unfold msz
  rw [List.map_set, hs]
  exact msum_set _ _ _ (by rw [List.getElem?_map, h]; rfl)
theorem mRel.set {D : va_G} {g : Nat → ClassId} {bs b k : Nat} {M : List mE} {H H1 : Heap} {e e' : mE} (h : mRel D g bs b M H) (hk : M[k]? = some e) (he : va_at D mcl (bs + k, mre bs b g e') H1) (hz : H1.size = H.size) (ho : ∀ q : Nat, q ≠ bs + k → H1[q]? = H[q]?) : mRel D g bs b (M.set k e') H1 := by
  refine ⟨by rw [hz, List.length_set]; exact h.1, by rw [List.length_set]; exact h.2.1, ?_⟩
  rw [← mws_set]
  exact h.2.2.set (mws_D bs b g M) (mws_at hk) he ho
theorem mFS_ok {a : Nat} {q : mFSt} (h : mFS[a]? = some q) : mFSok q := by
  have hl := (List.getElem?_eq_some_iff.mp h).1
  have := mFS_all a hl
  rwa [List.getD_eq_getElem?_getD, h] at this
set_option maxRecDepth 20000 in
theorem mVS_ok {a : Nat} {q : mVSt} (h : mVS[a]? = some q) : mVSok q := by
  have hl := (List.getElem?_eq_some_iff.mp h).1
  have := mVS_all a hl
  rwa [List.getD_eq_getElem?_getD, h] at this
theorem mSS_ok {a : Nat} {q : mSSt} (h : mSS[a]? = some q) : mSSok q := by
  have hl := (List.getElem?_eq_some_iff.mp h).1
  have := mSS_all a hl
  rwa [List.getD_eq_getElem?_getD, h] at this
theorem mIS_ok {a : Nat} {q : mSSt} (h : mIS[a]? = some q) : mISok q := by
  have hl := (List.getElem?_eq_some_iff.mp h).1
  have := mIS_all a hl
  rwa [List.getD_eq_getElem?_getD, h] at this
theorem mKS_ok {a : Nat} {q : Nat × Nat × Bool × Int} (h : mKS[a]? = some q) : mKSok q := by
  have hl := (List.getElem?_eq_some_iff.mp h).1
  have := mKS_all a hl
  rwa [List.getD_eq_getElem?_getD, h] at this
theorem mNS_ok {a : Nat} {q : Nat × Nat × Nat × String × Nat × Nat} (h : mNS[a]? = some q) : mNSok q := by
  have hl := (List.getElem?_eq_some_iff.mp h).1
  have := mNS_all a hl
  rwa [List.getD_eq_getElem?_getD, h] at this
theorem mrv_narrow {bs b : Nat} {ty : FieldType} {v : Value} (h : mnf ty v = true) : narrow ty (mrv bs b v) = mrv bs b v ∧ fits ty (mrv bs b v) = true := by
  unfold mnf at h
  simp only [Bool.and_eq_true, decide_eq_true_eq] at h
  cases v with
  | ref k =>
    refine ⟨by cases ty <;> rfl, ?_⟩
    have := h.2
    cases ty <;> first | rfl | (simp [fits] at this)
  | _ => exact h
section MM
variable {p : Program} {l : Launch} {e : Env} {R : Room} {s : State} {m : MethodId} {args : Array Value} {below : List Frame} {meth : Method} {c : Code} {H : Heap} {locs : List Loc} {cells slots : Nat} {Q : State → Prop} {cc : ByteArray} {pc bs b : Nat} {ls : Array Slot} {nL : Nat}
set_option maxHeartbeats 2000000 in
theorem snd_jump (hx : p.tables.exec = Jvm.exec) (hb : c.code = cc) {op a pc' : Nat} {bb : Int} {st st' : List Value} (h : mjump op a bb pc st = some (pc', st')) (hd : decode cc pc = .ok (mraw1 op a bb, mlen 1 op bb))
    (kk : mWst p l e R s m args below meth c H locs cells slots Q bs b pc' ls st') : mWst p l e R s m args below meth c H locs cells slots Q bs b pc ls st := by
  match op, h, hd with
  | 0, h, hd =>
    simp only [mjump] at h
    split at h
    · obtain ⟨t, h1, h2⟩ := Option.map_eq_some_iff.mp h
      cases h2
      refine snd_if0 hx hb (mto_some h1) hd (fun hc => ?_) (fun hc => ?_)
      · rw [if_pos hc] at kk; exact kk
      · rw [if_neg (by rw [hc]; decide)] at kk; exact kk
    · cases h
  | 1, h, hd =>
    simp only [mjump] at h
    split at h
    · obtain ⟨t, h1, h2⟩ := Option.map_eq_some_iff.mp h
      cases h2
      refine snd_if2 hx hb (mto_some h1) hd (fun hc => ?_) (fun hc => ?_)
      · rw [if_pos hc] at kk; exact kk
      · rw [if_neg (by rw [hc]; decide)] at kk; exact kk
    · cases h
  | 2, h, hd =>
    obtain ⟨t, h1, h2⟩ := Option.map_eq_some_iff.mp h
    cases h2
    exact lv_goto hx hb hd (mto_some h1) kk
  | 3, h, hd =>
    cases hT : mTS[a]? with
    | none =>
      simp only [mjump, hT] at h
      cases h
    | some q =>
      obtain ⟨d, lo, hi, offs, ps⟩ := q
      simp only [mraw1, hT] at hd
      simp only [mjump, hT] at h
      cases st with
      | nil => cases h
      | cons v r =>
        cases v with
        | int x =>
          simp only at h
          by_cases hc : x.toInt < lo ∨ hi < x.toInt
          · rw [if_pos hc] at h
            obtain ⟨t, h1, h2⟩ := Option.map_eq_some_iff.mp h
            cases h2
            exact lv_tableOut hx hb hd hc (mto_some h1) kk
          · rw [if_neg hc] at h
            cases ho : offs[(x.toInt - lo).toNat]? with
            | none => simp [ho] at h
            | some o =>
              simp only [ho] at h
              obtain ⟨t, h1, h2⟩ := Option.map_eq_some_iff.mp h
              cases h2
              exact lv_tableIn hx hb hd (fun q => hc (Or.inl q)) (fun q => hc (Or.inr q)) (by rw [List.getElem?_toArray]; exact ho) (mto_some h1) kk
        | _ => cases h
  | 4, h, hd =>
    cases hT : mTS[a]? with
    | none =>
      simp only [mjump, hT] at h
      cases h
    | some q =>
      obtain ⟨d, lo, hi, offs, ps⟩ := q
      simp only [mraw1, hT] at hd
      simp only [mjump, hT] at h
      cases st with
      | nil => cases h
      | cons v r =>
        cases v with
        | int x =>
          simp only at h
          split at h
          · next hc =>
            obtain ⟨t, h1, h2⟩ := Option.map_eq_some_iff.mp h
            cases h2
            exact lv_lookup hx hb hd (by simpa using hc) rfl (mto_some h1) kk
          · cases h
        | _ => cases h
  | n + 5, h, hd => cases h
/-- putfield, with what it does to the heap -/
theorem snd_put {D : va_G} {g : Nat → ClassId} (hx : p.tables.exec = Jvm.exec) (hb : c.code = cc) (hK : mKK D g s) {own ref : String} {index : Nat} (hown : s.vm.findClass own = some m.cls) {ci : Nat} {C : String} {T : u_T} {N : Nat} (hc : mcl[ci]? = some (C, T, N)) {ty0 : Nat → FieldType} (hty : mty[ci]? = some ty0)
    {ws : va_W} (hP : va_P D mcl ws H) {q0 a : Nat} {fs : List Value} (he : ws[q0]? = some (a, .inr (ci, fs))) {k : Nat} (hk : k < N) (hl : k < fs.length) (hsame : ∀ x, s.fieldFound? (T k).1 (T k).2.1 (T k).2.2.1 = some x → s.fieldFound? ref (T k).2.1 (T k).2.2.1 = some x) {v : Value} (hn : narrow (ty0 k) v = v) (hfit : fits (ty0 k) v = true)
    (hcase : ((T k).2.2.2 = false ∧ ((Cond.fieldLink own index ref (T k).2.1 (T k).2.2.1).before args s = true ∨ ∃ host, (Cond.fieldLinkNest own index ref (T k).2.1 (T k).2.2.1 host).before args s = true)) ∨ ((T k).2.2.2 = true ∧ (Cond.fieldLink own index ref (T k).2.1 (T k).2.2.1).before args s = true ∧ meth.name = "<init>" ∧ (T k).1 = own))
    (hdg : decode cc pc = .ok (.putfield index, 3)) {rest : List Value}
    (kk : ∀ (H1 : Heap) (i : Nat), H1.size = H.size → va_at D mcl (a, .inr (ci, fs.set k v)) H1 → (∀ q : Nat, q ≠ a → H1[q]? = H[q]?) → W p l e R s m args below meth c H1 (locs ++ [⟨a, i⟩]) cells slots Q (F0 m (pc + 3) ls rest)) :
    W p l e R s m args below meth c H locs cells slots Q (F0 m pc ls (v :: .ref a :: rest)) := by
  have hts : ∀ w ∈ mTL, w.before args s = true := fun w hw => hK.2 w hw args
  have hin : ∀ w ∈ u_ws C T N, w ∈ mTL := mlay_all ci _ hc
  have hap := va_apart (own := own) hts hin ty0 (mty_all ci _ _ hc hty) (mnm_all ci _ hc) hK.1 hc
  obtain ⟨r, h1, cell, q1, q2, q3, q4⟩ := hP q0 _ he
  have hr : r = (C, T, N) := Option.some.inj (h1.symm.trans hc)
  subst hr
  obtain ⟨hS, hfc, kC, hkC, hkind⟩ := hK.1.1 ci _ hc
  obtain ⟨cf, kf, fi, f, hi, hsl⟩ := hS k hk
  have hst := (u_facts hfc hkC (u_lays hts hin hk) hi).1
  have hd := mty_all ci _ _ hc hty k hk
  have fin : ∀ H' : Heap, H'[a]? = some (cell.setSlot f.slot v) → va_at D mcl (a, .inr (ci, fs.set k v)) H' := fun H' e1 => by
    rw [hsl] at e1
    exact ⟨_, hc, t_OB.to (V := updV (vp_V fs) k v) ⟨_, e1, q2, q3, t_set q4 hap hk v⟩ (fun j _ => vp_updV_set hl v j)⟩
  rcases hcase with ⟨hf, hlk⟩ | ⟨hf, hlk, hin2, hdecl⟩
  · have hlay := hts _ (hin _ (u_in_lay hk))
    unfold u_lay at hlay
    rw [if_neg (by rw [hf]; decide)] at hlay
    have h6 := u_store hfc hkC hkind hlay hi hd hn hfit
    rcases hlk with hlk | ⟨host, hlk⟩
    · exact W.putK hx hb (f := f) ⟨hown, hlk, ⟨_, _, _, hsame _ hi⟩, hst⟩ (by rw [q2]; exact h6) q1 q3 (by rw [hsl]; exact k2_hasslot (q4 k hk)) rfl rfl hdg (fun H' e1 e2 e3 => kk H' _ e2 (fin H' e1) e3)
    · exact va_WputK hx hb (f := f) hown hlk (hsame _ hi) hst (by rw [q2]; exact h6) q1 q3 (by rw [hsl]; exact k2_hasslot (q4 k hk)) rfl rfl hdg (fun H' e1 e2 e3 => kk H' _ e2 (fin H' e1) e3)
  · have hlay := hts _ (hin _ (u_in_lay hk))
    unfold u_lay at hlay
    rw [if_pos hf] at hlay
    have hcf : m.cls = cf := by
      obtain ⟨_, _, c', _, _, _, -, -, hf', -, -, -, hown2, -⟩ := Cond.laysFinal_spec hlay
      have e1 : c' = cf := by
        have := hi.symm.trans hf'
        simp at this
        exact this.1.symm
      rw [hdecl] at hown2
      rw [← e1]
      exact Option.some.inj (hown.symm.trans hown2)
    have h6 := u_fits hfc hkC hkind (Or.inr hlay) hi hd hn hfit
    exact W.putFinK hx hb hown hlk (hsame _ hi) hst hcf hin2 (by rw [q2]; exact h6) q1 q3 (by rw [hsl]; exact k2_hasslot (q4 k hk)) rfl rfl hdg (fun H' e1 e2 e3 => kk H' _ e2 (fin H' e1) e3)
end MM
