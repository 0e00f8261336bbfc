/-! THE CHECKER OF SAFETY: jumps, cells -/
def aRefA (A : aSt) (o : aO) (iv : aIv) (t : aT) : aSt := match o with
  | none => A
  | some (.inl j) => (A.1.set j (some (.inr (iv, none, t))), A.2)
  | some (.inr q) => (A.1, A.2.1, (q, iv) :: A.2.2.1, A.2.2.2)
theorem aRefA_fl (A : aSt) (o : aO) (iv : aIv) (t : aT) : (aRefA A o iv t).2.2.2 = A.2.2.2 := by
  cases o with
  | none => rfl
  | some o => cases o <;> rfl
theorem aRefA_st (A : aSt) (o : aO) (iv : aIv) (t : aT) : (aRefA A o iv t).2.1 = A.2.1 := by
  cases o with
  | none => rfl
  | some o => cases o <;> rfl
theorem aRefA_ok {y : Nat} {s0 : Nat → Int} {A : aSt} {L : List (Option Value)} {st : List Value} {M : mMem} {o : aO} {iv : aIv} {t : aT} {x : Int32} (hg : gA y s0 A L st M) (ho : aOl o L M x) (hx : aIn x iv) (ht : aTl s0 t x) : gA y s0 (aRefA A o iv t) L st M := by
  obtain ⟨h1, h2, h3, h4, h5⟩ := hg
  cases o with
  | none => exact ⟨h1, h2, h3, h4, h5⟩
  | some o =>
    cases o with
    | inl j =>
      refine ⟨fun i a ha => ?_, h2, h3, h4, h5⟩
      have ha : (A.1.set j (some (.inr (iv, none, t))))[i]? = some (some a) := ha
      rw [List.getElem?_set] at ha
      by_cases hi : j = i
      · subst hi
        rw [if_pos rfl] at ha
        split at ha
        · cases ha; exact ⟨.int x, ho, x, rfl, hx, trivial, ht⟩
        · cases ha
      · rw [if_neg hi] at ha
        exact h1 i a ha
    | inr q =>
      refine ⟨h1, h2, fun f hf => ?_, h4, h5⟩
      rcases List.mem_cons.mp hf with rfl | hf
      · have ho : M q.1 q.2 = x := ho
        show aIn (M q.1 q.2) iv
        rw [ho]
        exact hx
      · exact h3 f hf
/-- one way of a branch: what is known then; none if it can't be gone -/
def aBr (c pc : Nat) (x y : aI) (A : aSt) : List (Nat × aSt) :=
  let q := aRef c x.1 y.1
  if q.1.1 ≤ q.1.2 ∧ q.2.1 ≤ q.2.2 then [(pc, aRefA (aRefA A x.2.1 q.1 x.2.2) y.2.1 q.2 y.2.2)] else []
theorem aBr_ok {yy : Nat} {s0 : Nat → Int} {A : aSt} {L : List (Option Value)} {st : List Value} {M : mMem} {c pc : Nat} {X Y : aI} {x y : Int32} (hg : gA yy s0 A L st M) (hc : mcmp c x y = true) (hx : gV s0 L M (.inr X) (.int x)) (hy : gV s0 L M (.inr Y) (.int y)) : ∃ q ∈ aBr c pc X Y A, q.1 = pc ∧ gA yy s0 q.2 L st M ∧ q.2.2.2.2 = A.2.2.2 := by
  obtain ⟨ix, ox, tx⟩ := X
  obtain ⟨iy, oy, ty⟩ := Y
  obtain ⟨x', e1, x1, x2, x3⟩ := hx
  obtain ⟨y', e2, y1, y2, y3⟩ := hy
  cases e1; cases e2
  obtain ⟨r1, r2⟩ := aRef_ok hc x1 y1
  have hne : (aRef c ix iy).1.1 ≤ (aRef c ix iy).1.2 ∧ (aRef c ix iy).2.1 ≤ (aRef c ix iy).2.2 := ⟨by obtain ⟨a, b⟩ := r1; omega, by obtain ⟨a, b⟩ := r2; omega⟩
  refine ⟨(pc, aRefA (aRefA A ox (aRef c ix iy).1 tx) oy (aRef c ix iy).2 ty), ?_, rfl, aRefA_ok (aRefA_ok hg x2 r1 x3) y2 r2 y3, by rw [aRefA_fl, aRefA_fl]⟩
  unfold aBr
  simp only
  rw [if_pos hne]
  exact List.mem_singleton.mpr rfl
def aJump (op a : Nat) (b : Int) (pc : Nat) (A : aSt) : Option (List (Nat × aSt)) := match op with
  | 0 => match A.2.1, mto pc b with
    | .inr x :: r, some t => let A' : aSt := (A.1, r, A.2.2); some (aBr a t x ((0, 0), none, none) A' ++ aBr (aNot a) (pc + 3) x ((0, 0), none, none) A')
    | _, _ => none
  | 1 => match A.2.1, mto pc b with
    | .inr y :: .inr x :: r, some t => let A' : aSt := (A.1, r, A.2.2); some (aBr a t x y A' ++ aBr (aNot a) (pc + 3) x y A')
    | _, _ => none
  | 2 => (mto pc b).map (fun t => [(t, A)])
  | 3 => match A.2.1, mTS[a]? with
    | .inr _ :: r, some (d, lo, hi, offs, _) => if decide ((offs.length : Int) = hi - lo + 1) && (mto pc d).isSome && offs.all (fun o => (mto pc o).isSome) then some ((d :: offs).map (fun o => ((mto pc o).getD 0, (A.1, r, A.2.2)))) else none
    | _, _ => none
  | 4 => match A.2.1, mTS[a]? with
    | .inr _ :: r, some (d, _, _, _, ps) => if (ps.zip (ps.drop 1)).all (fun (a, next) => decide (a.1 < next.1)) = true ∧ ((mto pc d).isSome && ps.all (fun o => (mto pc o.2).isSome)) = true then some ((d :: ps.map (·.2)).map (fun o => ((mto pc o).getD 0, (A.1, r, A.2.2)))) else none
    | _, _ => none
  | _ => none
theorem alook : ∀ (ps : List (Int × Int)) (d x : Int), Op.lookupswitch.offset ps d x ∈ d :: ps.map (·.2)
  | [], d, x => List.mem_cons_self
  | (a, o) :: r, d, x => by
    rw [Op.lookupswitch.offset_cons]
    split
    · simp
    · rcases List.mem_cons.mp (alook r d x) with e | e
      · rw [e]; exact List.mem_cons_self
      · exact List.mem_cons_of_mem _ (List.mem_cons_of_mem _ e)
theorem amto {pc : Nat} {o : Int} (h : (mto pc o).isSome = true) : mto pc o = some ((mto pc o).getD 0) := by
  cases hm : mto pc o with
  | none => rw [hm] at h; cases h
  | some t => rfl
set_option maxHeartbeats 1000000 in
theorem aJump_ok {y op a pc : Nat} {b : Int} {s0 : Nat → Int} {A : aSt} {l : List (Nat × aSt)} {L : List (Option Value)} {st : List Value} {M : mMem} (h : aJump op a b pc A = some l) (hg : gA y s0 A L st M) : ∃ q ∈ l, ∃ st', mjump op a b pc st = some (q.1, st') ∧ gA y s0 q.2 L st' M ∧ q.2.2.2.2 = A.2.2.2 := by
  obtain ⟨AL, AS, AF, fl⟩ := A
  match op, h with
  | 0, h =>
    cases hm : mto pc b with
    | none => simp only [aJump, hm] at h; cases h
    | some t =>
      match AS, h, hg with
      | [], h, hg => cases h
      | .inl k :: r, h, hg => cases h
      | .inr X :: r, h, hg =>
        simp only [aJump, hm] at h
        cases h
        obtain ⟨h1, h2, h3, h4, h5⟩ := hg
        match st, h2 with
        | v :: st, ⟨g1, g2⟩ =>
          obtain ⟨x, e1, -⟩ := id g1
          subst e1
          have hg' : gA y s0 (AL, r, AF, fl) L st M := ⟨h1, g2, h3, h4, h5⟩
          have h0 : gV s0 L M (.inr ((0, 0), none, none)) (.int 0) := ⟨0, rfl, ⟨by decide, by decide⟩, trivial, trivial⟩
          cases hc : mcmp a x 0 with
          | true =>
            obtain ⟨q, q1, q2, q3, q4⟩ := aBr_ok (pc := t) hg' hc g1 h0
            exact ⟨q, List.mem_append_left _ q1, st, by simp [mjump, hm, hc, q2], q3, q4⟩
          | false =>
            obtain ⟨q, q1, q2, q3, q4⟩ := aBr_ok (pc := pc + 3) hg' (aNot_ok hc) g1 h0
            exact ⟨q, List.mem_append_right _ q1, st, by simp [mjump, hm, hc, q2], q3, q4⟩
  | 1, h =>
    cases hm : mto pc b with
    | none => simp only [aJump, hm] at h; cases h
    | some t =>
      match AS, h, hg with
      | [], h, hg => cases h
      | .inl k :: r, h, hg => cases h
      | .inr Y :: [], h, hg => cases h
      | .inr Y :: .inl k :: r, h, hg => cases h
      | .inr Y :: .inr X :: r, h, hg =>
        simp only [aJump, hm] at h
        cases h
        obtain ⟨h1, h2, h3, h4, h5⟩ := hg
        match st, h2 with
        | v :: w :: st, ⟨g0, g1, g2⟩ =>
          obtain ⟨yv, e0, -⟩ := id g0
          obtain ⟨x, e1, -⟩ := id g1
          subst e0; subst e1
          have hg' : gA y s0 (AL, r, AF, fl) L st M := ⟨h1, g2, h3, h4, h5⟩
          cases hc : mcmp a x yv with
          | true =>
            obtain ⟨q, q1, q2, q3, q4⟩ := aBr_ok (pc := t) hg' hc g1 g0
            exact ⟨q, List.mem_append_left _ q1, st, by simp [mjump, hm, hc, q2], q3, q4⟩
          | false =>
            obtain ⟨q, q1, q2, q3, q4⟩ := aBr_ok (pc := pc + 3) hg' (aNot_ok hc) g1 g0
            exact ⟨q, List.mem_append_right _ q1, st, by simp [mjump, hm, hc, q2], q3, q4⟩
  | 2, h =>
    obtain ⟨t, h1, h2⟩ := Option.map_eq_some_iff.mp h
    cases h2
    exact ⟨_, List.mem_singleton.mpr rfl, st, by simp only [mjump, h1, Option.map_some], hg, rfl⟩
  | 3, h =>
    cases hT : mTS[a]? with
    | none => simp only [aJump, hT] at h; cases h
    | some q =>
      obtain ⟨d, lo, hi, offs, ps⟩ := q
      match AS, h, hg with
      | [], h, hg => cases h
      | .inl k :: r, h, hg => cases h
      | .inr X :: r, h, hg =>
        simp only [aJump, hT] at h
        split at h
        · next hc =>
          cases h
          simp only [Bool.and_eq_true, decide_eq_true_eq, List.all_eq_true] at hc
          obtain ⟨⟨hc1, hc2⟩, hc3⟩ := hc
          obtain ⟨h1, h2, h3, h4, h5⟩ := hg
          match st, h2 with
          | v :: st, ⟨g1, g2⟩ =>
            obtain ⟨x, e1, -⟩ := id g1
            subst e1
            have hg' : gA y s0 (AL, r, AF, fl) L st M := ⟨h1, g2, h3, h4, h5⟩
            by_cases hx : x.toInt < lo ∨ hi < x.toInt
            · exact ⟨_, List.mem_map.mpr ⟨d, List.mem_cons_self, rfl⟩, st, by simp only [mjump, hT, if_pos hx]; rw [amto hc2]; rfl, hg', rfl⟩
            · have hlt : (x.toInt - lo).toNat < offs.length := by omega
              have e2 : offs[(x.toInt - lo).toNat]? = some offs[(x.toInt - lo).toNat] := List.getElem?_eq_getElem hlt
              have hmem : offs[(x.toInt - lo).toNat] ∈ offs := List.getElem_mem hlt
              exact ⟨_, List.mem_map.mpr ⟨_, List.mem_cons_of_mem _ hmem, rfl⟩, st, by simp only [mjump, hT, if_neg hx, e2]; rw [amto (hc3 _ hmem)]; rfl, hg', rfl⟩
        · cases h
  | 4, h =>
    cases hT : mTS[a]? with
    | none => simp only [aJump, hT] at h; cases h
    | some q =>
      obtain ⟨d, lo, hi, offs, ps⟩ := q
      match AS, h, hg with
      | [], h, hg => cases h
      | .inl k :: r, h, hg => cases h
      | .inr X :: r, h, hg =>
        simp only [aJump, hT] at h
        split at h
        · next hc =>
          cases h
          obtain ⟨hz, hc⟩ := hc
          simp only [Bool.and_eq_true, List.all_eq_true] at hc
          obtain ⟨hc2, hc3⟩ := hc
          obtain ⟨h1, h2, h3, h4, h5⟩ := hg
          match st, h2 with
          | v :: st, ⟨g1, g2⟩ =>
            obtain ⟨x, e1, -⟩ := id g1
            subst e1
            have hg' : gA y s0 (AL, r, AF, fl) L st M := ⟨h1, g2, h3, h4, h5⟩
            have hmem := alook ps d x.toInt
            have hsome : (mto pc (Op.lookupswitch.offset ps d x.toInt)).isSome = true := by
              rcases List.mem_cons.mp hmem with e | e
              · rw [e]; exact hc2
              · obtain ⟨q, hq1, hq2⟩ := List.mem_map.mp e
                rw [← hq2]
                exact hc3 q hq1
            exact ⟨_, List.mem_map.mpr ⟨_, hmem, rfl⟩, st, by simp only [mjump, hT]; rw [if_pos hz, amto hsome]; rfl, hg', rfl⟩
        · cases h
  | n + 5, h => cases h
