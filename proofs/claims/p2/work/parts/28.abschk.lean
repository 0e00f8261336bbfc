/-! THE CHECKER OF SAFETY: a method, cut by cut, against its contract -/
/-- a cut: place, locals, flag, measure -/
abbrev aHd : Type := Nat × List (Option aAr) × Nat × List aMc
def aInto (i : Nat) (a : aAr) : aV := match a with | .inl k => .inl k | .inr iv => .inr (iv, none, some (i, 0, 0))
def aHSt (ls : List (Option aAr)) (fl : Nat) : aSt := (ls.mapIdx (fun i a => a.map (aInto i)), [], [], fl)
def aLOk (ls : List (Option aAr)) (L : List (Option Value)) : Prop := ∀ j a, ls[j]? = some (some a) → ∃ v, mget L j = some v ∧ aArOk a v
def aC1 (a : aAr) (b : aV) : Bool := match a, b with | .inl k, .inl k' => k == k' | .inr iv, .inr (v, _, _) => aSub v iv | _, _ => false
def aLSub (ls : List (Option aAr)) (A : List (Option aV)) : Bool := (List.range ls.length).all (fun i => match ls[i]? with
  | some (some a) => (match A[i]? with | some (some b) => aC1 a b | _ => false)
  | _ => true)
def aArr (A : aSt) (h : aHd) : Bool := A.2.1.isEmpty && A.2.2.2 == h.2.2.1 && aLSub h.2.1 A.1
def aRoSub (ro o : Option aAr) : Bool := match ro, o with | none, none => true | some (.inl k), some (.inl k') => k == k' | some (.inr a), some (.inr b) => aSub a b | _, _ => false
def aTagIs (A : List (Option aV)) (i : Nat) (iv : aIv) : Bool := (List.range A.length).any (fun j => match A[j]? with | some (some (.inr (v, _, some (k, c, d)))) => k == i && c == 0 && d == 0 && aSub v iv | _ => false)
def aRtE (C : aCt) (A : aSt) (ro : Option aAr) : Bool := A.2.2.2 == C.2.2.2.2.2.1 && C.2.2.1.any (fun o => aRoSub ro o.1 && (List.range o.2.length).all (fun i => match o.2[i]? with
  | some (some iv) => (match C.2.1[i]? with | some (.inr _) => aTagIs A.1 i iv | _ => false)
  | _ => true))
def aRtH (C : aCt) (A : aSt) (ro : Option aAr) : Bool := A.2.2.2 == C.2.2.2.2.2.1 && C.2.2.1.any (fun o => aRoSub ro o.1 && o.2.all (·.isNone))
def aChk (T : aTyL) (wok : Nat → Nat → Nat → Bool) (CS : List aCt) (N : Nat) (C : aCt) (H : List aHd) : Bool :=
  decide (C.2.1.length ≤ mLo C.1)
  && aGo T wok CS C.2.2.2.2.2.2 C.1 (fun pc A => (H.find? (fun h => h.1 == pc)).map (fun h => aArr A h)) (aRtE C) N 0 (aHSt (C.2.1.map some ++ List.replicate (mLo C.1 - C.2.1.length) none) C.2.2.2.2.1)
  && H.all (fun h => aGo T wok CS C.2.2.2.2.2.2 C.1 (fun pc A => (H.find? (fun h' => h'.1 == pc)).map (fun h' => aArr A h' && aLess A.1 h.2.2.2 h'.2.2.2)) (aRtH C) N h.1 (aHSt h.2.1 h.2.2.1))
theorem aC1_ok {a : aAr} {b : aV} {v : Value} {s0 : Nat → Int} {L : List (Option Value)} {M : mMem} (h : aC1 a b = true) (hv : gV s0 L M b v) : aArOk a v := by
  cases a with
  | inl k => cases b with
    | inl k' => have h : k = k' := beq_iff_eq.mp h; subst h; exact hv
    | inr q => cases h
  | inr iv => cases b with
    | inl k' => cases h
    | inr q => obtain ⟨x, e, hx, _, _⟩ := hv; exact ⟨x, e, aSub_ok h hx⟩
theorem aLSub_ok {ls : List (Option aAr)} {A : List (Option aV)} {s0 : Nat → Int} {L : List (Option Value)} {M : mMem} (h : aLSub ls A = true) (hg : gL s0 L M A) : aLOk ls L := by
  intro j a hj
  have := List.all_eq_true.mp h j (List.mem_range.mpr (List.getElem?_eq_some_iff.mp hj).1)
  simp only [hj] at this
  split at this
  · next b hb =>
    obtain ⟨v, h1, h2⟩ := hg j b hb
    exact ⟨v, h1, aC1_ok this h2⟩
  · cases this
theorem aHSt_ok {y fl : Nat} {ls : List (Option aAr)} {L : List (Option Value)} {M : mMem} (h : aLOk ls L) (hl : L.length = mLo y) (h1 : gOne L) : gA y (aVal L) (aHSt ls fl) L [] M := by
  refine ⟨fun j a hj => ?_, trivial, fun f hf => (by cases hf), hl, h1⟩
  rw [show (aHSt ls fl).1 = ls.mapIdx (fun i a => a.map (aInto i)) from rfl, List.getElem?_mapIdx] at hj
  obtain ⟨o, e1, e2⟩ := Option.map_eq_some_iff.mp hj
  obtain ⟨r, e3, e4⟩ := Option.map_eq_some_iff.mp e2
  subst e3; subst e4
  obtain ⟨v, hv, ha⟩ := h j r e1
  refine ⟨v, hv, ?_⟩
  cases r with
  | inl k => exact ha
  | inr iv =>
    obtain ⟨x, e, hx⟩ := ha
    subst e
    have ev : aVal L j = x.toInt := by unfold aVal; rw [hv]
    exact ⟨x, rfl, hx, trivial, by show aVal L j + 0 ≤ x.toInt ∧ x.toInt ≤ aVal L j + 0; omega⟩
theorem aVal_in (L : List (Option Value)) (j : Nat) : -2147483648 ≤ aVal L j ∧ aVal L j ≤ 2147483647 := by
  unfold aVal
  split
  · next x _ => have := x.le_toInt; have := x.toInt_lt; omega
  · omega
theorem aRoSub_ok {ro o : Option aAr} {r : Option Value} (h : aRoSub ro o = true) (hr : aRo ro r) : aRo o r := by
  match ro, o, r, h, hr with
  | none, none, _, _, hr => exact hr
  | some (.inl k), some (.inl k'), some v, h, hr => have h : k = k' := beq_iff_eq.mp h; subst h; exact hr
  | some (.inr a), some (.inr b), some v, h, hr => obtain ⟨x, e, hx⟩ := hr; exact ⟨x, e, aSub_ok h hx⟩
theorem aArs_get : ∀ {as : List aAr} {vs : List Value}, aArs as vs → ∀ {i : Nat} {a : aAr}, as[i]? = some a → ∃ v, vs[i]? = some v ∧ aArOk a v
  | [], _, _, i, a, h => by simp at h
  | _ :: _, [], h, _, _, _ => h.elim
  | a :: as, v :: vs, h, 0, b, hb => by cases hb; exact ⟨v, rfl, h.1⟩
  | a :: as, v :: vs, h, i + 1, b, hb => aArs_get h.2 (i := i) hb
theorem aArs_len : ∀ {as : List aAr} {vs : List Value}, aArs as vs → vs.length = as.length
  | [], [], _ => rfl
  | [], _ :: _, h => h.elim
  | _ :: _, [], h => h.elim
  | a :: as, v :: vs, h => by simp [aArs_len h.2]
theorem aArs_slots : ∀ {as : List aAr} {vs : List Value}, aArs as vs → mslots vs = vs.map some ∧ ∀ v ∈ vs, v.category = 1
  | [], [], _ => ⟨rfl, fun _ h => by cases h⟩
  | [], _ :: _, h => h.elim
  | _ :: _, [], h => h.elim
  | a :: as, v :: vs, h => by
    obtain ⟨h1, h2⟩ := aArs_slots h.2
    have hc : v.category = 1 := by
      cases a with
      | inl k => have e : v = .ref k := h.1; subst e; rfl
      | inr iv => obtain ⟨x, e, _⟩ := h.1; subst e; rfl
    refine ⟨?_, fun w hw => ?_⟩
    · unfold mslots at h1 ⊢
      rw [List.flatMap_cons, h1, if_neg (by rw [hc]; decide)]
      rfl
    · rcases List.mem_cons.mp hw with e | e
      · subst e; exact hc
      · exact h2 w e
theorem ment_ok {y : Nat} {as : List aAr} {vs : List Value} (h : aArs as vs) (hl : as.length ≤ mLo y) : (ment y vs).length = mLo y ∧ gOne (ment y vs) ∧ aLOk (as.map some) (ment y vs) ∧ ∀ i v, vs[i]? = some v → mget (ment y vs) i = some v := by
  obtain ⟨h1, h2⟩ := aArs_slots h
  have hn := aArs_len h
  have e : ment y vs = vs.map some ++ List.replicate (mLo y - vs.length) none := by unfold ment; rw [h1, List.length_map]
  have hget : ∀ i v, vs[i]? = some v → mget (ment y vs) i = some v := by
    intro i v hi
    rw [mget_iff, e, List.getElem?_append_left (by rw [List.length_map]; exact (List.getElem?_eq_some_iff.mp hi).1), List.getElem?_map, hi]
    rfl
  refine ⟨by rw [e, List.length_append, List.length_map, List.length_replicate]; omega, fun j v hj => ?_, fun j a hj => ?_, hget⟩
  · rw [mget_iff, e] at hj
    have hm := List.mem_of_getElem? hj
    rcases List.mem_append.mp hm with hm | hm
    · obtain ⟨w, hw, ew⟩ := List.mem_map.mp hm
      cases ew
      exact h2 _ hw
    · have := (List.mem_replicate.mp hm).2
      cases this
  · rw [List.getElem?_map] at hj
    obtain ⟨b, e1, e2⟩ := Option.map_eq_some_iff.mp hj
    cases e2
    obtain ⟨v, h3, h4⟩ := aArs_get h e1
    exact ⟨v, hget _ _ h3, h4⟩
theorem aLOk_pad {ls : List (Option aAr)} {L : List (Option Value)} {n : Nat} (h : aLOk ls L) : aLOk (ls ++ List.replicate n none) L := by
  intro j a hj
  rw [List.getElem?_append] at hj
  split at hj
  · exact h j a hj
  · have := (List.mem_replicate.mp (List.mem_of_getElem? hj)).2
    cases this
section
variable {T : aTyL} {wok : Nat → Nat → Nat → Bool} {G : Nat → mMem → Prop} {CS : List aCt}
theorem aHeads (hG : ∀ (fl k j : Nat) (x : Int32) (M : mMem), (wok fl k j = true ∨ wok fl k 999 = true) → G fl M → G fl (mup M k j x)) (hN : ∀ (fl ks kd sp dp n : Nat) (M : mMem), wok fl kd 999 = true → G fl M → G fl (mcpy M ks kd sp dp n)) (hCS : ∀ C ∈ CS, aCon T G C) {N d : Nat} {C : aCt} {H : List aHd} (hD : C.2.2.2.2.2.2 ≤ d)
    (hH : H.all (fun h => aGo T wok CS C.2.2.2.2.2.2 C.1 (fun pc A => (H.find? (fun h' => h'.1 == pc)).map (fun h' => aArr A h' && aLess A.1 h.2.2.2 h'.2.2.2)) (aRtH C) N h.1 (aHSt h.2.1 h.2.2.1)) = true) :
    ∀ (mu : Nat) (h : aHd), h ∈ H → ∀ (L : List (Option Value)) (M : mMem), aMu (aVal L) h.2.2.2 = mu → aLOk h.2.1 L → L.length = mLo C.1 → gOne L → aInv T M → G h.2.2.1 M →
    ∃ r M' o, o ∈ C.2.2.1 ∧ o.2.all (·.isNone) = true ∧ aRo o.1 r ∧ aInv T M' ∧ G C.2.2.2.2.2.1 M' ∧ EvS d none C.1 h.1 L [] M (r, M') := by
  intro mu
  induction mu using Nat.strongRecOn with
  | ind mu ih =>
    intro h hh L M hmu hL hl h1 hI hGh
    have hc := List.all_eq_true.mp hH h hh
    have hg : gA C.1 (aVal L) (aHSt h.2.1 h.2.2.1) L [] M := aHSt_ok hL hl h1
    rcases aGo_ok hG hN hCS hD N h.1 _ L [] M hc hg hI hGh with ⟨q, hq, L', st', M', g', i', G', hx⟩ | ⟨A', ro, L', st', M', hr, g', r, M2, a1, a2, a3, a4⟩
    · obtain ⟨h', e1, e2⟩ := Option.map_eq_some_iff.mp hq
      simp only [Bool.and_eq_true] at e2
      obtain ⟨e2, e3⟩ := e2
      unfold aArr at e2
      simp only [Bool.and_eq_true, beq_iff_eq, List.isEmpty_iff] at e2
      obtain ⟨⟨e4, e5⟩, e6⟩ := e2
      have hm := List.mem_of_find?_eq_some e1
      have hp : h'.1 = q.1 := beq_iff_eq.mp (List.find?_some (p := fun h' : aHd => h'.1 == q.1) e1)
      obtain ⟨k1, k2, k3, k4, k5⟩ := g'
      rw [e4] at k2
      have est : st' = [] := by cases st' with | nil => rfl | cons => exact k2.elim
      subst est
      obtain ⟨r, M2, o, b1, b2, b3, b4, b5, b6⟩ := ih _ (by rw [← hmu]; exact aLess_ok (aVal_in L) k1 _ _ e3) h' hm L' M' rfl (aLSub_ok e6 k1) k4 k5 i' (by rw [← e5]; exact G')
      exact ⟨r, M2, o, b1, b2, b3, b4, b5, hx _ (by rw [← hp]; exact b6)⟩
    · unfold aRtH at hr
      simp only [Bool.and_eq_true, beq_iff_eq, List.any_eq_true] at hr
      obtain ⟨f1, o, f2, f3, f4⟩ := hr
      exact ⟨r, M2, o, f2, f4, aRoSub_ok f3 a1, a2, by rw [← f1]; exact a3, a4⟩
theorem aTagIs_ok {A : List (Option aV)} {i : Nat} {iv : aIv} {s0 : Nat → Int} {L : List (Option Value)} {M : mMem} (h : aTagIs A i iv = true) (hg : gL s0 L M A) : iv.1 ≤ s0 i ∧ s0 i ≤ iv.2 := by
  obtain ⟨j, _, hj⟩ := List.any_eq_true.mp h
  split at hj
  · next v o k c d hA =>
    simp only [Bool.and_eq_true, beq_iff_eq] at hj
    obtain ⟨⟨⟨e1, e2⟩, e3⟩, e4⟩ := hj
    subst e1; subst e2; subst e3
    obtain ⟨w, _, x, _, hx, _, ht⟩ := hg _ _ hA
    have h1 := aSub_ok e4 hx
    have ht1 : s0 k + 0 ≤ x.toInt := ht.1
    have ht2 : x.toInt ≤ s0 k + 0 := ht.2
    have := h1.1
    have := h1.2
    omega
  · cases hj
theorem aChk_ok (hG : ∀ (fl k j : Nat) (x : Int32) (M : mMem), (wok fl k j = true ∨ wok fl k 999 = true) → G fl M → G fl (mup M k j x)) (hN : ∀ (fl ks kd sp dp n : Nat) (M : mMem), wok fl kd 999 = true → G fl M → G fl (mcpy M ks kd sp dp n)) (hCS : ∀ C ∈ CS, aCon T G C) {N : Nat} {C : aCt} {H : List aHd} (h : aChk T wok CS N C H = true) : aCon T G (C.1, C.2.1, C.2.2.1, false, C.2.2.2.2) := by
  intro d hD vs M hA hI hGh
  have hD : C.2.2.2.2.2.2 ≤ d := hD
  have hA : aArs C.2.1 vs := hA
  unfold aChk at h
  simp only [Bool.and_eq_true, decide_eq_true_eq] at h
  obtain ⟨⟨c1, c2⟩, c3⟩ := h
  obtain ⟨m1, m2, m3, m4⟩ := ment_ok hA c1
  have hg : gA C.1 (aVal (ment C.1 vs)) (aHSt (C.2.1.map some ++ List.replicate (mLo C.1 - C.2.1.length) none) C.2.2.2.2.1) (ment C.1 vs) [] M := aHSt_ok (aLOk_pad m3) m1 m2
  rcases aGo_ok hG hN hCS hD N 0 _ _ [] M c2 hg hI hGh with ⟨q, hq, L', st', M', g', i', G', hx⟩ | ⟨A', ro, L', st', M', hr, g', r, M2, a1, a2, a3, a4⟩
  · obtain ⟨h', e1, e2⟩ := Option.map_eq_some_iff.mp hq
    unfold aArr at e2
    simp only [Bool.and_eq_true, beq_iff_eq, List.isEmpty_iff] at e2
    obtain ⟨⟨e4, e5⟩, e6⟩ := e2
    have hm := List.mem_of_find?_eq_some e1
    have hp : h'.1 = q.1 := beq_iff_eq.mp (List.find?_some (p := fun h' : aHd => h'.1 == q.1) e1)
    obtain ⟨k1, k2, k3, k4, k5⟩ := g'
    rw [e4] at k2
    have est : st' = [] := by cases st' with | nil => rfl | cons => exact k2.elim
    subst est
    obtain ⟨r, M2, o, b1, b2, b3, b4, b5, b6⟩ := aHeads hG hN hCS hD c3 _ h' hm L' M' rfl (aLSub_ok e6 k1) k4 k5 i' (by rw [← e5]; exact G')
    refine ⟨r, M2, hx _ (by rw [← hp]; exact b6), b4, b5, fun h => (by cases h), o, b1, b3, fun i iv hi => ?_⟩
    have := List.all_eq_true.mp b2 _ (List.mem_of_getElem? hi)
    cases this
  · unfold aRtE at hr
    simp only [Bool.and_eq_true, beq_iff_eq, List.any_eq_true] at hr
    obtain ⟨f1, o, f2, f3, f4⟩ := hr
    refine ⟨r, M2, a4, a2, by rw [← f1]; exact a3, fun h => (by cases h), o, f2, aRoSub_ok f3 a1, fun i iv hi => ?_⟩
    have f5 := List.all_eq_true.mp f4 i (List.mem_range.mpr (List.getElem?_eq_some_iff.mp hi).1)
    simp only [hi] at f5
    split at f5
    · next jv hj =>
      obtain ⟨v, v1, x, ex, hx⟩ := aArs_get hA hj
      subst ex
      have hb := aTagIs_ok f5 g'.1
      have ev : aVal (ment C.1 vs) i = x.toInt := by unfold aVal; rw [m4 _ _ v1]
      rw [ev] at hb
      exact ⟨x, v1, hb⟩
    · cases f5
end
