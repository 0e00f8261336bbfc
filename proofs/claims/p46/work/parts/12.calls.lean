/-! THE MINI-MACHINE AGAINST THE MACHINE: calls -/
def mRm (d mc ms : Nat) : Room := { frames := d, cells := mc, slots := ms, locals := 100 * d + 100 }
def mWs (y : Nat) : List Cond := [.code (mN y) (mB y) (mLo y) (mR y)]
def mBp (D : va_G) (g : Nat → ClassId) (bs b : Nat) (M : List mE) (U : State) : Prop := mRel D g bs b M U.heap ∧ mKK D g U
def mPre (D : va_G) (g : Nat → ClassId) (bs b : Nat) (M : List mE) (args : List Value) : Array Value → State → Prop := va_Pc (args.map (mrv bs b)) (mBp D g bs b M)
def mPost (D : va_G) (g : Nat → ClassId) (bs b : Nat) (M' : List mE) (r : Option Value) : Array Value → State → Outcome → State → Prop := fun _ st oc t => oc = .returned (r.map (mrv bs b)) ∧ mRel D g bs b M' t.heap ∧ ∀ q : Nat, q < bs → t.heap[q]? = st.heap[q]?
def mMet (l : Launch) (D : va_G) (g : Nat → ClassId) (bs b d y : Nat) (args : List Value) (M : List mE) (r : Option Value) (M' : List mE) : Prop :=
  Met l (mN y) (mWs y) (mRm d (M'.length - M.length) (msz M' - msz M)) (mPre D g bs b M args) (mPost D g bs b M' r) (M'.length - M.length) (msz M' - msz M) (fun q => bs ≤ q)
theorem mPre_blind (D : va_G) (g : Nat → ClassId) (bs b : Nat) (M : List mE) (args : List Value) : FrameBlind (mPre D g bs b M args) := fun a U f mk h => ⟨h.1, h.2.1, mKK.calling f mk a h.2.2⟩
theorem mgood {w : Cond} (h : w ∈ mTL) (hg : goodWord w = true) : w ∈ mTL ∧ ((w.onTables && w.keeps) = true ∨ ∃ ty, w = .arrayClass ty) := ⟨h, good_of_word hg⟩
theorem mgoodL {ws : List Cond} (h : ∀ w ∈ ws, w ∈ mTL ∧ goodWord w = true) : GoodIn mTL ws := fun w hw => mgood (h w hw).1 (h w hw).2
section MC
variable {p : Program} {l : Launch} {e : Env} {R : Room} {s : State} {m : MethodId} {args : Array Value} {below : List Frame} {meth : Method} {c : Code} {H H0 : Heap} {locs : List Loc} {cells slots : Nat} {Q : State → Prop} {pc bs b : Nat} {ls : Array Slot} {nL y : Nat} {D : va_G} {g : Nat → ClassId}
/-- what a call comes to -/
abbrev mRun (p : Program) (l : Launch) (e : Env) (R : Room) (s : State) (m : MethodId) (args : Array Value) (below : List Frame) (meth : Method) (c : Code) (H : Heap) (locs : List Loc) (cells slots mc ms : Nat) (D : va_G) (g : Nat → ClassId) (bs b pc : Nat) (ls : Array Slot) (st rest : List Value) (M' : List mE) (r : Option Value) (a : Array Value) : Prop :=
  va_Run p l e R s m args below meth c H locs cells slots mc ms (F0 m pc ls (st.map (mrv bs b))) (rest.map (mrv bs b)) (mPost D g bs b M' r a) (fun q => bs ≤ q)
theorem snd_after {mc ms : Nat} {st rest : List Value} {M' : List mE} {r : Option Value} {a : Array Value} (hr : mRun p l e R s m args below meth c H locs cells slots mc ms D g bs b pc ls st rest M' r a) (hS : va_S (fun q => bs ≤ q) H0 H locs) (hle : H.size ≤ bs + M'.length)
    (kk : ∀ (H1 : Heap) (locs1 : List Loc), mRel D g bs b M' H1 → va_S (fun q => bs ≤ q) H0 H1 locs1 → mWst p l e R s m args below meth c H1 locs1 (cells + mc) (slots + ms) Q bs b (pc + 3) ls (r.toList ++ rest)) : mWst p l e R s m args below meth c H locs cells slots Q bs b pc ls st := by
  intro T hT X
  obtain ⟨v, st₀, t, T', L, h0, X', hL, e1, e2, ⟨hv, hrel, hk⟩, stp⟩ := hr T hT X
  have hv2 : v = r.map (mrv bs b) := by injection hv
  subst hv2
  rw [h0] at hk
  obtain ⟨t2, a1, b1⟩ := kk T'.heap (locs ++ L) (by rw [e1]; exact hrel) ⟨by rw [e1, hrel.1]; exact Nat.le_trans hS.1 hle, fun q h1 h2 => by
      rw [e1, hk q (Nat.not_le.mp h2)]
      exact hS.2.1 q h1 h2, fun q hq => by
      rcases List.mem_append.mp hq with h | h
      · exact hS.2.2 q h
      · exact hL q h⟩ T' rfl X'
  refine ⟨t2, stp t2 ?_, b1⟩
  have e9 : (r.map (mrv bs b)).toList ++ rest.map (mrv bs b) = (r.toList ++ rest).map (mrv bs b) := by cases r <;> simp
  rw [e9]
  exact a1
set_option maxHeartbeats 2000000 in
theorem snd_call {d : Nat} (C0 : mCx p s m meth c y D g) {op a y' : Nat} {bb : Int} {st As rest : List Value} {M M' : List mE} {r : Option Value} (h : mcall op a st M = some (y', As, rest)) (hd : decode (mB y) pc = .ok (mraw 4 op a bb, 3)) (ho : mown (mCno y) (pc, 4, op, a, bb) = true)
    (hM : mMet l D g bs b d y' As M r M') (hls : ls.size = mLo y) (hfr : d + 1 ≤ R.frames) (hlo : 100 * (d + 1) + 100 ≤ R.locals) (hcl : cells + (M'.length - M.length) ≤ R.cells) (hsl : slots + (msz M' - msz M) ≤ R.slots) (hR : mRel D g bs b M H) :
    ∃ a9, mRun p l e R s m args below meth c H locs cells slots (M'.length - M.length) (msz M' - msz M) D g bs b pc ls st rest M' r a9 := by
  obtain ⟨hx, hb, hown, hK, hnm, hml⟩ := C0
  have hts : ∀ w ∈ mTL, w.before args s = true := fun w hw => hK.2 w hw args
  have hpre : ∀ U : State, U.heap = H → s.WarmedH U.vm → mPre D g bs b M As (As.map (mrv bs b)).toArray U := fun U hU hW => ⟨rfl, by rw [hU]; exact hR, mKK.moved hW hK⟩
  have hcS : CallFix p m c (mB y) (mLo y) s args mTL (mcn (mCno y)) := ⟨hx, hb, hml, hown, hts⟩
  have hroom : ∀ y', mLo y' ≤ 40 → (mRm d (M'.length - M.length) (msz M' - msz M)).frames + 1 ≤ R.frames ∧ 8 + (mLo y' + 11) + (mRm d (M'.length - M.length) (msz M' - msz M)).locals ≤ R.locals := fun y' h => ⟨hfr, by show 8 + (mLo y' + 11) + (100 * d + 100) ≤ R.locals; omega⟩
  have hpark : ∀ (r : List Value), (r.map fun v => v.category).sum ≤ 8 → 2 * (F0 m pc ls (st.map (mrv bs b))).monitorRoom + ((r.map (mrv bs b)).map fun v => v.category).sum ≤ 8 := fun r h => by rw [mcat_map]; show 2 * 0 + _ ≤ 8; omega
  have hstk : ∀ (n : Nat) (k : Nat) (r : List Value), st.drop n = .ref k :: r → st.map (mrv bs b) = (((st.take n).reverse).map (mrv bs b)).reverse ++ .ref (madd bs b k) :: r.map (mrv bs b) := fun n k r h => by
    conv => lhs; rw [← List.take_append_drop n st, h]
    simp [mrv]
  match op, h, hd, ho with
  | 0, h, hd, ho =>
    cases hF : mVS[a]? with
    | none => simp only [mcall, hF] at h; cases h
    | some q =>
      have hq := mVS_ok hF
      obtain ⟨o, idx, x, host, ow, n, al⟩ := q
      simp only [mraw, hF] at hd
      simp only [mown, hF, beq_iff_eq] at ho
      subst ho
      simp only [mcall, hF] at h
      split at h
      · next k r' hdr =>
        cases hMk : M[k]? with
        | none => simp [hMk] at h
        | some en =>
          cases en with
          | inl z => simp only [hMk] at h; cases h
          | inr z =>
            obtain ⟨ci, fs⟩ := z
            simp only [hMk] at h
            cases hal : al.lookup ci with
            | none => simp [hal] at h
            | some z =>
              obtain ⟨yy, kd⟩ := z
              simp only [hal] at h
              split at h
              · next hcond =>
                cases h
                obtain ⟨hlen, hcat, hms⟩ := hcond
                have hmem : (ci, y', kd) ∈ al := by
                  obtain ⟨l1, l2, hl, -⟩ := List.lookup_eq_some_iff.mp hal
                  rw [hl]; simp
                obtain ⟨C, T, N, hc, ⟨hcode, hc1, hc2, hpl, hpar, hlo40⟩, hpx, hkd⟩ := hq _ hmem
                have hn : ((st.take n).reverse.map (mrv bs b)).length = n := by simp; omega
                have he : (mws bs b g 0 M)[k]? = some (bs + k, .inr (ci, fs.map (mrv bs b))) := mws_at hMk
                have hPV : PreV s H C (bs + k) (mPre D g bs b M (.ref k :: (st.take n).reverse)) ((st.take n).reverse.map (mrv bs b)) := by
                  refine ⟨mPre_blind _ _ _ _ _ _, va_recv hK.1 hR.2.2 hc he, fun U hU hW => ?_⟩
                  have := hpre U hU hW
                  simp only [List.map_cons] at this
                  rw [show mrv bs b (.ref k) = .ref (bs + k) from congrArg Value.ref (madd_lt (hR.lt hMk))] at this
                  exact this
                have hst : (F0 m pc ls (st.map (mrv bs b))).stack = ((st.take n).reverse.map (mrv bs b)).reverse ++ .ref (bs + k) :: rest.map (mrv bs b) := by
                  rw [← madd_lt (bs := bs) (b := b) (hR.lt hMk)]
                  exact hstk n k rest hdr
                match kd, hkd with
                | 0, hkd =>
                  obtain ⟨e1, e2, e3, w1, w2, w3, w4⟩ := hkd
                  subst e2
                  exact ⟨_, va_runV (own := mcn (mCno y)) (C := C) (index := idx) hcS hM (cwV n hts (mgoodL (by
                    intro w hw
                    simp only [wsV, mWs, List.cons_append, List.nil_append, List.mem_cons, List.not_mem_nil, or_false] at hw
                    rcases hw with rfl | rfl | rfl | rfl | rfl
                    · exact ⟨w1, rfl⟩
                    · exact ⟨w2, rfl⟩
                    · exact ⟨w3, rfl⟩
                    · exact ⟨w4, rfl⟩
                    · exact ⟨hcode, rfl⟩)) rfl rfl rfl ⟨e3.symm, hc1, hc2, hpar⟩ (hroom _ hlo40)) hPV rfl hn hls hst (hpark _ hcat) hd ⟨hcl, hsl⟩⟩
                | 1, hkd =>
                  obtain ⟨hh, e1, e2, e3, w1, w2, w3, w4⟩ := hkd
                  subst e2
                  exact ⟨_, va_runVN (own := mcn (mCno y)) (C := C) (index := idx) (host := hh) hcS hM ⟨va_cnB n hts (mgoodL (by
                    intro w hw
                    simp only [mWs, List.mem_cons, List.not_mem_nil, or_false] at hw
                    rcases hw with rfl
                    exact ⟨hcode, rfl⟩)) rfl rfl rfl (hK.2 _ w1 #[]) (hts _ w4) ⟨hc1, hc2, hpar⟩ (hroom _ hlo40), hts _ w2, hts _ w3⟩ hPV rfl hn hls hst (hpark _ hcat) hd ⟨hcl, hsl⟩⟩
                | 2, hkd =>
                  obtain ⟨e1, e2, w1, w2, w3, w4, w5⟩ := hkd
                  exact ⟨_, va_runU (own := mcn (mCno y)) (C := C) (owner := ow) (index := idx) (x := x) hcS hM (va_cwU n hts (mgoodL (by
                    intro w hw
                    simp only [va_wsU, mWs, List.cons_append, List.nil_append, List.mem_cons, List.not_mem_nil, or_false] at hw
                    rcases hw with rfl | rfl | rfl | rfl | rfl | rfl
                    · exact ⟨w1, rfl⟩
                    · exact ⟨w2, rfl⟩
                    · exact ⟨w3, rfl⟩
                    · exact ⟨w4, rfl⟩
                    · exact ⟨w5, rfl⟩
                    · exact ⟨hcode, rfl⟩)) rfl rfl rfl e1 ⟨by rw [e1] at hc1; exact hc1, by rw [e1] at hc2; exact hc2, hpx.trans hpar⟩ (hroom _ hlo40)) hPV rfl hn hls hst (hpark _ hcat) hd ⟨hcl, hsl⟩⟩
                | kd + 3, hkd =>
                  obtain ⟨e2, w1, w2, w3, w4, w5, w6, n1, n2, n3⟩ := hkd
                  exact ⟨_, va_runU (own := mcn (mCno y)) (C := C) (owner := ow) (index := idx) (x := x) hcS hM (va_cwA n hts (mgoodL (by
                    intro w hw
                    simp only [va_wsU, mWs, List.cons_append, List.nil_append, List.mem_cons, List.not_mem_nil, or_false] at hw
                    rcases hw with rfl | rfl | rfl | rfl | rfl | rfl
                    · exact ⟨w1, rfl⟩
                    · exact ⟨w2, rfl⟩
                    · exact ⟨w3, rfl⟩
                    · exact ⟨w4, rfl⟩
                    · exact ⟨w5, rfl⟩
                    · exact ⟨hcode, rfl⟩)) rfl rfl rfl (hK.2 _ w6 #[]) ⟨n1, n2, n3⟩ (hroom _ hlo40)) hPV rfl hn hls hst (hpark _ hcat) hd ⟨hcl, hsl⟩⟩
              · cases h
      · cases h
  | 1, h, hd, ho =>
    cases hF : mSS[a]? with
    | none => simp only [mcall, hF] at h; cases h
    | some q =>
      have hq := mSS_ok hF
      obtain ⟨o, idx, host, k, yy, n⟩ := q
      simp only [mraw, hF] at hd
      simp only [mown, hF, Bool.and_eq_true, beq_iff_eq, decide_eq_true_eq] at ho
      obtain ⟨ho1, ho2⟩ := ho
      subst ho1
      simp only [mcall, hF] at h
      split at h
      · next hcond =>
        cases h
        obtain ⟨hlen, hcat, hms⟩ := hcond
        have hn : ((st.take n).reverse.map (mrv bs b)).length = n := by simp; omega
        have hPS : PreS s H (mPre D g bs b M (st.take n).reverse) ((st.take n).reverse.map (mrv bs b)) := ⟨mPre_blind _ _ _ _ _ _, hpre⟩
        have hst : (F0 m pc ls (st.map (mrv bs b))).stack = ((st.take n).reverse.map (mrv bs b)).reverse ++ (st.drop n).map (mrv bs b) := by
          show st.map (mrv bs b) = _
          conv => lhs; rw [← List.take_append_drop n st]
          simp
        match k, ho2, hq with
        | 0, _, hq =>
          obtain ⟨-, ⟨hcode, hc1, hc2, hpl, hpar, hlo40⟩, -, w1, w2, w3⟩ := hq
          exact ⟨_, va_runS (own := mcn (mCno y)) (index := idx) hcS hM (va_cwS n hts (mgoodL (by
            intro w hw
            simp only [va_wsS, mWs, List.cons_append, List.nil_append, List.mem_cons, List.not_mem_nil, or_false] at hw
            rcases hw with rfl | rfl | rfl | rfl
            · exact ⟨w1, rfl⟩
            · exact ⟨w2, rfl⟩
            · exact ⟨w3, rfl⟩
            · exact ⟨hcode, rfl⟩)) rfl rfl rfl ⟨hc1, hc2, hpar⟩ (hroom _ hlo40)) hPS rfl hn hls hst (hpark _ hcat) hd ⟨hcl, hsl⟩⟩
        | 1, _, hq =>
          obtain ⟨hh, -, ⟨hcode, hc1, hc2, hpl, hpar, hlo40⟩, -, w1, w2, w3⟩ := hq
          exact ⟨_, va_runSN (own := mcn (mCno y)) (index := idx) (host := hh) hcS hM ⟨va_cnB n hts (mgoodL (by
            intro w hw
            simp only [mWs, List.mem_cons, List.not_mem_nil, or_false] at hw
            rcases hw with rfl
            exact ⟨hcode, rfl⟩)) rfl rfl rfl (hK.2 _ w1 #[]) (hts _ w3) ⟨hc1, hc2, hpar⟩ (hroom _ hlo40), hts _ w2, trivial⟩ hPS rfl hn hls hst (hpark _ hcat) hd ⟨hcl, hsl⟩⟩
        | k + 2, hk2, _ => exact absurd hk2 (by omega)
      · cases h
  | 2, h, hd, ho =>
    cases hF : mIS[a]? with
    | none => simp only [mcall, hF] at h; cases h
    | some q =>
      have hq := mIS_ok hF
      obtain ⟨o, idx, host, k, yy, n⟩ := q
      simp only [mraw, hF] at hd
      simp only [mown, hF, Bool.and_eq_true, beq_iff_eq, decide_eq_true_eq] at ho
      obtain ⟨ho1, ho2⟩ := ho
      subst ho1
      simp only [mcall, hF] at h
      split at h
      · next k0 r' hdr =>
        split at h
        · next hcond =>
          cases h
          obtain ⟨hlen, hcat, hms⟩ := hcond
          have hn : ((st.take n).reverse.map (mrv bs b)).length = n := by simp; omega
          have hPS : PreS s H (mPre D g bs b M (.ref k0 :: (st.take n).reverse)) (.ref (madd bs b k0) :: (st.take n).reverse.map (mrv bs b)) := ⟨mPre_blind _ _ _ _ _ _, fun U hU hW => hpre U hU hW⟩
          have hst : (F0 m pc ls (st.map (mrv bs b))).stack = ((st.take n).reverse.map (mrv bs b)).reverse ++ .ref (madd bs b k0) :: rest.map (mrv bs b) := hstk n k0 rest hdr
          match k, ho2, hq with
          | 0, _, hq =>
            obtain ⟨-, ⟨hcode, hc1, hc2, hpl, hpar, hlo40⟩, -, w1, w2, w3, e1, e2⟩ := hq
            have hcode' : (.code (mN y') (mB y') (mLo y') none : Cond) ∈ mTL := by rw [← e2]; exact hcode
            exact ⟨_, va_runI (own := mcn (mCno y)) (index := idx) hcS hM (cwI n hts (mgoodL (by
              intro w hw
              simp only [mWs, List.mem_cons, List.not_mem_nil, or_false] at hw
              rcases hw with rfl
              exact ⟨hcode, rfl⟩)) (by unfold mWs; rw [e2]) rfl rfl (hts _ w3) (hts _ w1) (hts _ w2) e1 ⟨hc1, hc2, hpar⟩ (hroom _ hlo40)) hPS rfl hn hls hst (hpark _ hcat) hd ⟨hcl, hsl⟩⟩
          | 1, _, hq =>
            obtain ⟨hh, -, ⟨hcode, hc1, hc2, hpl, hpar, hlo40⟩, -, w1, w2, w3, e1, e2⟩ := hq
            exact ⟨_, va_runIN (own := mcn (mCno y)) (index := idx) (host := hh) hcS hM ⟨va_cnB n hts (mgoodL (by
              intro w hw
              simp only [mWs, List.mem_cons, List.not_mem_nil, or_false] at hw
              rcases hw with rfl
              exact ⟨hcode, rfl⟩)) (by unfold mWs; rw [e2]) rfl rfl (hK.2 _ w1 #[]) (hts _ w3) ⟨hc1, hc2, hpar⟩ (hroom _ hlo40), e1, hts _ w2⟩ hPS rfl hn hls hst (hpark _ hcat) hd ⟨hcl, hsl⟩⟩
          | k + 2, hk2, _ => exact absurd hk2 (by omega)
        · cases h
      · cases h
  | n + 3, h, hd, ho => cases h
end MC
