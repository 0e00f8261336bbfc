/-! THE CHECKER OF SAFETY: what an abstract state says of a static machine's state -/
abbrev aO : Type := Option (Nat ⊕ (Nat × Nat))
abbrev aT : Type := Option (Nat × Int × Int)
abbrev aI : Type := aIv × aO × aT
abbrev aV : Type := Nat ⊕ aI
/-- locals, stack, fields known better than by their type, flag -/
abbrev aSt : Type := List (Option aV) × List aV × List ((Nat × Nat) × aIv) × Nat
def aOl (o : aO) (L : List (Option Value)) (M : mMem) (x : Int32) : Prop := match o with
  | none => True
  | some (.inl j) => mget L j = some (.int x)
  | some (.inr q) => M q.1 q.2 = x
def aTl (s0 : Nat → Int) (t : aT) (x : Int32) : Prop := match t with
  | none => True
  | some (j, a, b) => s0 j + a ≤ x.toInt ∧ x.toInt ≤ s0 j + b
def gV (s0 : Nat → Int) (L : List (Option Value)) (M : mMem) (a : aV) (v : Value) : Prop := match a with
  | .inl k => v = .ref k
  | .inr (iv, o, t) => ∃ x, v = .int x ∧ aIn x iv ∧ aOl o L M x ∧ aTl s0 t x
def gL (s0 : Nat → Int) (L : List (Option Value)) (M : mMem) (A : List (Option aV)) : Prop := ∀ (j : Nat) (a : aV), A[j]? = some (some a) → ∃ v, mget L j = some v ∧ gV s0 L M a v
def gSt (s0 : Nat → Int) (L : List (Option Value)) (M : mMem) : List aV → List Value → Prop
  | [], [] => True
  | a :: A, v :: st => gV s0 L M a v ∧ gSt s0 L M A st
  | _, _ => False
def gF (M : mMem) (F : List ((Nat × Nat) × aIv)) : Prop := ∀ f ∈ F, aIn (M f.1.1 f.1.2) f.2
def gOne (L : List (Option Value)) : Prop := ∀ (j : Nat) (v : Value), mget L j = some v → v.category = 1
def aDropL (j : Nat) (a : aV) : aV := match a with
  | .inr (iv, some (.inl i), t) => if i = j then .inr (iv, none, t) else a
  | _ => a
def aDropF (k j : Nat) (a : aV) : aV := match a with
  | .inr (iv, some (.inr q), t) => if q = (k, j) then .inr (iv, none, t) else a
  | _ => a
def aDropC (k : Nat) (a : aV) : aV := match a with
  | .inr (iv, some (.inr q), t) => if q.1 = k then .inr (iv, none, t) else a
  | _ => a
def aDropM (a : aV) : aV := match a with
  | .inr (iv, some (.inr _), t) => .inr (iv, none, t)
  | _ => a
def aStrip (a : aV) : aV := match a with
  | .inr (iv, _, t) => .inr (iv, none, t)
  | _ => a
theorem gV.strip {s0 : Nat → Int} {L L' : List (Option Value)} {M M' : mMem} {a : aV} {v : Value} (h : gV s0 L M a v) : gV s0 L' M' (aStrip a) v := by
  cases a with
  | inl k => exact h
  | inr q => obtain ⟨x, h1, h2, h3, h4⟩ := h; exact ⟨x, h1, h2, trivial, h4⟩
theorem gV.dropL {s0 : Nat → Int} {L L' : List (Option Value)} {M : mMem} {a : aV} {v : Value} {j : Nat} (h : gV s0 L M a v) (hL : ∀ i, i ≠ j → mget L' i = mget L i) : gV s0 L' M (aDropL j a) v := by
  cases a with
  | inl k => exact h
  | inr q =>
    obtain ⟨iv, o, t⟩ := q
    obtain ⟨x, h1, h2, h3, h4⟩ := h
    cases o with
    | none => exact ⟨x, h1, h2, trivial, h4⟩
    | some o =>
      cases o with
      | inl i =>
        by_cases hi : i = j
        · simp only [aDropL, if_pos hi]; exact ⟨x, h1, h2, trivial, h4⟩
        · simp only [aDropL, if_neg hi]; exact ⟨x, h1, h2, (hL i hi).trans h3, h4⟩
      | inr q => exact ⟨x, h1, h2, h3, h4⟩
theorem gV.dropF {s0 : Nat → Int} {L : List (Option Value)} {M M' : mMem} {a : aV} {v : Value} {k j : Nat} (h : gV s0 L M a v) (hM : ∀ k' j', (k', j') ≠ (k, j) → M' k' j' = M k' j') : gV s0 L M' (aDropF k j a) v := by
  cases a with
  | inl k => exact h
  | inr q =>
    obtain ⟨iv, o, t⟩ := q
    obtain ⟨x, h1, h2, h3, h4⟩ := h
    cases o with
    | none => exact ⟨x, h1, h2, trivial, h4⟩
    | some o =>
      cases o with
      | inl i => exact ⟨x, h1, h2, h3, h4⟩
      | inr q =>
        by_cases hq : q = (k, j)
        · simp only [aDropF, if_pos hq]; exact ⟨x, h1, h2, trivial, h4⟩
        · simp only [aDropF, if_neg hq]; exact ⟨x, h1, h2, (hM _ _ hq).trans h3, h4⟩
theorem gV.dropC {s0 : Nat → Int} {L : List (Option Value)} {M M' : mMem} {a : aV} {v : Value} {k : Nat} (h : gV s0 L M a v) (hM : ∀ k', k' ≠ k → M' k' = M k') : gV s0 L M' (aDropC k a) v := by
  cases a with
  | inl k => exact h
  | inr q =>
    obtain ⟨iv, o, t⟩ := q
    obtain ⟨x, h1, h2, h3, h4⟩ := h
    cases o with
    | none => exact ⟨x, h1, h2, trivial, h4⟩
    | some o =>
      cases o with
      | inl i => exact ⟨x, h1, h2, h3, h4⟩
      | inr q =>
        by_cases hq : q.1 = k
        · simp only [aDropC, if_pos hq]; exact ⟨x, h1, h2, trivial, h4⟩
        · simp only [aDropC, if_neg hq]; refine ⟨x, h1, h2, ?_, h4⟩; show M' q.1 q.2 = x; rw [hM _ hq]; exact h3
theorem gV.dropM {s0 : Nat → Int} {L : List (Option Value)} {M M' : mMem} {a : aV} {v : Value} (h : gV s0 L M a v) : gV s0 L M' (aDropM a) v := by
  cases a with
  | inl k => exact h
  | inr q =>
    obtain ⟨iv, o, t⟩ := q
    obtain ⟨x, h1, h2, h3, h4⟩ := h
    cases o with
    | none => exact ⟨x, h1, h2, trivial, h4⟩
    | some o =>
      cases o with
      | inl i => exact ⟨x, h1, h2, h3, h4⟩
      | inr q => exact ⟨x, h1, h2, trivial, h4⟩
theorem gSt.map {s0 : Nat → Int} {L L' : List (Option Value)} {M M' : mMem} {f : aV → aV} (hf : ∀ a v, gV s0 L M a v → gV s0 L' M' (f a) v) : ∀ {A : List aV} {st : List Value}, gSt s0 L M A st → gSt s0 L' M' (A.map f) st
  | [], [], _ => trivial
  | [], _ :: _, h => h.elim
  | _ :: _, [], h => h.elim
  | a :: A, v :: st, h => ⟨hf a v h.1, gSt.map hf h.2⟩
theorem gL.map {s0 : Nat → Int} {L : List (Option Value)} {M M' : mMem} {f : aV → aV} (hf : ∀ a v, gV s0 L M a v → gV s0 L M' (f a) v) {A : List (Option aV)} (h : gL s0 L M A) : gL s0 L M' (A.map (Option.map f)) := by
  intro j a ha
  rw [List.getElem?_map] at ha
  cases hA : A[j]? with
  | none => rw [hA] at ha; cases ha
  | some o =>
    rw [hA] at ha
    cases o with
    | none => cases ha
    | some a0 =>
      cases ha
      obtain ⟨v, h1, h2⟩ := h j a0 hA
      exact ⟨v, h1, hf _ _ h2⟩
/-- a local is written -/
def aSetL (A : List (Option aV)) (j : Nat) (a : aV) : List (Option aV) := (A.map (Option.map (aDropL j))).set j (some (aStrip a))
theorem mput_of {L : List (Option Value)} {j : Nat} {v : Value} (h1 : gOne L) (hj : j < L.length) (hc : v.category = 1) : mput L j v = some (L.set j (some v)) := by
  unfold mput
  rw [if_pos]
  refine ⟨hj, ?_, hc⟩
  unfold mfree
  cases j with
  | zero => rfl
  | succ i =>
    show (match mget L i with | some v => v.category != 2 | none => true) = true
    cases hg : mget L i with
    | none => rfl
    | some w => have := h1 i w hg; simp [this]
theorem gOne.set {L : List (Option Value)} {j : Nat} {v : Value} (h : gOne L) (hj : j < L.length) (hc : v.category = 1) : gOne (L.set j (some v)) := by
  intro i w hw
  rw [mget_set hj] at hw
  split at hw
  · cases hw; exact hc
  · exact h i w hw
theorem gL.set {s0 : Nat → Int} {L : List (Option Value)} {M : mMem} {A : List (Option aV)} {j : Nat} {a : aV} {v : Value} (h : gL s0 L M A) (ha : gV s0 L M a v) (hj : j < L.length) : gL s0 (L.set j (some v)) M (aSetL A j a) := by
  intro i b hb
  unfold aSetL at hb
  rw [List.getElem?_set] at hb
  by_cases hij : j = i
  · subst hij
    rw [if_pos rfl] at hb
    split at hb
    · cases hb
      exact ⟨v, by rw [mget_set hj, if_pos rfl], ha.strip⟩
    · cases hb
  · rw [if_neg hij] at hb
    have hne : ∀ q, q ≠ j → mget (L.set j (some v)) q = mget L q := fun q hq => by rw [mget_set hj, if_neg (fun e => hq e.symm)]
    rw [List.getElem?_map] at hb
    cases hA : A[i]? with
    | none => rw [hA] at hb; cases hb
    | some o =>
      rw [hA] at hb
      cases o with
      | none => cases hb
      | some a0 =>
        cases hb
        obtain ⟨w, h1, h2⟩ := h i a0 hA
        exact ⟨w, (hne i (fun e => hij e.symm)).trans h1, h2.dropL hne⟩
def aShift (t : aT) (c d : Int) (ok : Bool) : aT := match t, ok with
  | some (j, a, b), true => some (j, a + c, b + d)
  | _, _ => none
/-- ops on locals and stack -/
def aPure (y op a : Nat) (b : Int) (A : aSt) : Option aSt := match A with
  | (AL, AS, AF, fl) => match op with
    | 0 => let c := (Int32.ofInt b).toInt; some (AL, .inr ((c, c), none, none) :: AS, AF, fl)
    | 1 => let c := (Int8.ofInt b).toInt32.toInt; some (AL, .inr ((c, c), none, none) :: AS, AF, fl)
    | 2 => let c := (Int16.ofInt b).toInt32.toInt; some (AL, .inr ((c, c), none, none) :: AS, AF, fl)
    | 3 => match AL[a % 4]? with | some (some (.inr (iv, _, t))) => some (AL, .inr (iv, some (.inl (a % 4)), t) :: AS, AF, fl) | _ => none
    | 4 => match AL[a]? with | some (some (.inr (iv, _, t))) => some (AL, .inr (iv, some (.inl a), t) :: AS, AF, fl) | _ => none
    | 5 => match AL[a % 4]? with | some (some (.inl k)) => some (AL, .inl k :: AS, AF, fl) | _ => none
    | 6 => match AL[a]? with | some (some (.inl k)) => some (AL, .inl k :: AS, AF, fl) | _ => none
    | 7 => match AS with | .inr q :: r => if a % 4 < mLo y then some (aSetL AL (a % 4) (.inr q), r.map (aDropL (a % 4)), AF, fl) else none | _ => none
    | 8 => match AS with | .inr q :: r => if a < mLo y then some (aSetL AL a (.inr q), r.map (aDropL a), AF, fl) else none | _ => none
    | 9 => match AS with | .inl k :: r => if a % 4 < mLo y then some (aSetL AL (a % 4) (.inl k), r.map (aDropL (a % 4)), AF, fl) else none | _ => none
    | 10 => match AS with | .inl k :: r => if a < mLo y then some (aSetL AL a (.inl k), r.map (aDropL a), AF, fl) else none | _ => none
    | 11 => match AL[a]? with
      | some (some (.inr (iv, _, t))) => let c := (Int32.ofInt b).toInt
        if a < mLo y then some (aSetL AL a (.inr (aNorm (iv.1 + c) (iv.2 + c), none, aShift t c c (decide (-2147483648 ≤ iv.1 + c ∧ iv.2 + c ≤ 2147483647)))), AS.map (aDropL a), AF, fl) else none
      | _ => none
    | 12 => match AS with
      | .inr (iy, _, ty) :: .inr (ix, _, tx) :: r => match aBin a ix iy with
        | some z => some (AL, .inr (z, none, if a = 0 then (match tx with | some _ => aShift tx iy.1 iy.2 (decide (-2147483648 ≤ ix.1 + iy.1 ∧ ix.2 + iy.2 ≤ 2147483647)) | none => aShift ty ix.1 ix.2 (decide (-2147483648 ≤ ix.1 + iy.1 ∧ ix.2 + iy.2 ≤ 2147483647))) else none) :: r, AF, fl)
        | none => none
      | _ => none
    | 13 => match AS with | .inr (ix, _, _) :: r => some (AL, .inr (aNorm (-ix.2) (-ix.1), none, none) :: r, AF, fl) | _ => none
    | 14 => match AS with | _ :: r => some (AL, r, AF, fl) | _ => none
    | 15 => match AS with | v :: r => some (AL, v :: v :: r, AF, fl) | _ => none
    | 16 => match AS with | v :: w :: r => some (AL, v :: w :: v :: w :: r, AF, fl) | _ => none
    | _ => none
theorem gV.cat {s0 : Nat → Int} {L : List (Option Value)} {M : mMem} {a : aV} {v : Value} (h : gV s0 L M a v) : v.category = 1 := by
  cases a with
  | inl k => rw [show v = .ref k from h]; rfl
  | inr q => obtain ⟨x, h1, -⟩ := h; rw [h1]; rfl
def gA (y : Nat) (s0 : Nat → Int) (A : aSt) (L : List (Option Value)) (st : List Value) (M : mMem) : Prop := gL s0 L M A.1 ∧ gSt s0 L M A.2.1 st ∧ gF M A.2.2.1 ∧ L.length = mLo y ∧ gOne L
theorem aShift_ok {s0 : Nat → Int} {t : aT} {x z : Int32} {c d n : Int} {ok : Bool} (h : aTl s0 t x) (hz : ok = true → z.toInt = x.toInt + n) (hc : c ≤ n) (hd : n ≤ d) : aTl s0 (aShift t c d ok) z := by
  cases t with
  | none => cases ok <;> trivial
  | some q =>
    obtain ⟨j, a, b⟩ := q
    cases ok with
    | false => trivial
    | true =>
      have := hz rfl
      obtain ⟨h1, h2⟩ := h
      exact ⟨by omega, by omega⟩
set_option maxHeartbeats 2000000 in
theorem aPure_ok {y op a : Nat} {b : Int} {s0 : Nat → Int} {A A' : aSt} {L : List (Option Value)} {st : List Value} {M : mMem} (h : aPure y op a b A = some A') (hg : gA y s0 A L st M) : ∃ L' st', mpure op a b L st = some (L', st') ∧ gA y s0 A' L' st' M ∧ A'.2.2.2 = A.2.2.2 := by
  obtain ⟨AL, AS, AF, fl⟩ := A
  obtain ⟨h1, h2, h3, h4, h5⟩ := hg
  match op, h with
  | 0, h => cases h; exact ⟨_, _, rfl, ⟨h1, ⟨⟨_, rfl, ⟨Int.le_refl _, Int.le_refl _⟩, trivial, trivial⟩, h2⟩, h3, h4, h5⟩, rfl⟩
  | 1, h => cases h; exact ⟨_, _, rfl, ⟨h1, ⟨⟨_, rfl, ⟨Int.le_refl _, Int.le_refl _⟩, trivial, trivial⟩, h2⟩, h3, h4, h5⟩, rfl⟩
  | 2, h => cases h; exact ⟨_, _, rfl, ⟨h1, ⟨⟨_, rfl, ⟨Int.le_refl _, Int.le_refl _⟩, trivial, trivial⟩, h2⟩, h3, h4, h5⟩, rfl⟩
  | 3, h =>
    simp only [aPure] at h
    split at h
    · next iv o t hA =>
      cases h
      obtain ⟨v, g1, x, g2, g3, g4, g5⟩ := h1 _ _ hA
      subst g2
      exact ⟨L, .int x :: st, by simp only [mpure, g1], ⟨h1, ⟨⟨x, rfl, g3, g1, g5⟩, h2⟩, h3, h4, h5⟩, rfl⟩
    · cases h
  | 4, h =>
    simp only [aPure] at h
    split at h
    · next iv o t hA =>
      cases h
      obtain ⟨v, g1, x, g2, g3, g4, g5⟩ := h1 _ _ hA
      subst g2
      exact ⟨L, .int x :: st, by simp only [mpure, g1], ⟨h1, ⟨⟨x, rfl, g3, g1, g5⟩, h2⟩, h3, h4, h5⟩, rfl⟩
    · cases h
  | 5, h =>
    simp only [aPure] at h
    split at h
    · next k hA =>
      cases h
      obtain ⟨v, g1, g2⟩ := h1 _ _ hA
      have g2 : v = .ref k := g2
      subst g2
      exact ⟨L, .ref k :: st, by simp only [mpure, g1], ⟨h1, ⟨rfl, h2⟩, h3, h4, h5⟩, rfl⟩
    · cases h
  | 6, h =>
    simp only [aPure] at h
    split at h
    · next k hA =>
      cases h
      obtain ⟨v, g1, g2⟩ := h1 _ _ hA
      have g2 : v = .ref k := g2
      subst g2
      exact ⟨L, .ref k :: st, by simp only [mpure, g1], ⟨h1, ⟨rfl, h2⟩, h3, h4, h5⟩, rfl⟩
    · cases h
  | 7, h =>
    simp only [aPure] at h
    split at h
    · next q r =>
      split at h
      · next hj =>
        cases h
        cases st with
        | nil => exact h2.elim
        | cons v st =>
          obtain ⟨g1, g2⟩ := h2
          obtain ⟨x, g3, -⟩ := id g1
          subst g3
          have hj' : a % 4 < L.length := by rw [h4]; exact hj
          have hne : ∀ q, q ≠ a % 4 → mget (L.set (a % 4) (some (.int x))) q = mget L q := fun q hq => by rw [mget_set hj', if_neg (fun e => hq e.symm)]
          exact ⟨L.set (a % 4) (some (.int x)), st, by simp only [mpure, mput_of h5 hj' (rfl : (Value.int x).category = 1), Option.map_some], ⟨h1.set g1 hj', gSt.map (fun a v hv => hv.dropL hne) g2, h3, by rw [List.length_set]; exact h4, h5.set hj' rfl⟩, rfl⟩
      · cases h
    · cases h
  | 8, h =>
    simp only [aPure] at h
    split at h
    · next q r =>
      split at h
      · next hj =>
        cases h
        cases st with
        | nil => exact h2.elim
        | cons v st =>
          obtain ⟨g1, g2⟩ := h2
          obtain ⟨x, g3, -⟩ := id g1
          subst g3
          have hj' : a < L.length := by rw [h4]; exact hj
          have hne : ∀ q, q ≠ a → mget (L.set a (some (.int x))) q = mget L q := fun q hq => by rw [mget_set hj', if_neg (fun e => hq e.symm)]
          exact ⟨L.set a (some (.int x)), st, by simp only [mpure, mput_of h5 hj' (rfl : (Value.int x).category = 1), Option.map_some], ⟨h1.set g1 hj', gSt.map (fun a v hv => hv.dropL hne) g2, h3, by rw [List.length_set]; exact h4, h5.set hj' rfl⟩, rfl⟩
      · cases h
    · cases h
  | 9, h =>
    simp only [aPure] at h
    split at h
    · next k r _ =>
      split at h
      · next hj =>
        cases h
        cases st with
        | nil => exact h2.elim
        | cons v st =>
          obtain ⟨g1, g2⟩ := h2
          have g3 : v = .ref k := g1
          subst g3
          have hj' : a % 4 < L.length := by rw [h4]; exact hj
          have hne : ∀ q, q ≠ a % 4 → mget (L.set (a % 4) (some (.ref k))) q = mget L q := fun q hq => by rw [mget_set hj', if_neg (fun e => hq e.symm)]
          exact ⟨L.set (a % 4) (some (.ref k)), st, by simp only [mpure, mput_of h5 hj' (rfl : (Value.ref k).category = 1), Option.map_some], ⟨h1.set g1 hj', gSt.map (fun a v hv => hv.dropL hne) g2, h3, by rw [List.length_set]; exact h4, h5.set hj' rfl⟩, rfl⟩
      · cases h
    · cases h
  | 10, h =>
    simp only [aPure] at h
    split at h
    · next k r _ =>
      split at h
      · next hj =>
        cases h
        cases st with
        | nil => exact h2.elim
        | cons v st =>
          obtain ⟨g1, g2⟩ := h2
          have g3 : v = .ref k := g1
          subst g3
          have hj' : a < L.length := by rw [h4]; exact hj
          have hne : ∀ q, q ≠ a → mget (L.set a (some (.ref k))) q = mget L q := fun q hq => by rw [mget_set hj', if_neg (fun e => hq e.symm)]
          exact ⟨L.set a (some (.ref k)), st, by simp only [mpure, mput_of h5 hj' (rfl : (Value.ref k).category = 1), Option.map_some], ⟨h1.set g1 hj', gSt.map (fun a v hv => hv.dropL hne) g2, h3, by rw [List.length_set]; exact h4, h5.set hj' rfl⟩, rfl⟩
      · cases h
    · cases h
  | 11, h =>
    simp only [aPure] at h
    split at h
    · next iv o t hA =>
      split at h
      · next hj =>
        cases h
        obtain ⟨v, g1, x, g2, g3, g4, g5⟩ := h1 _ _ hA
        subst g2
        have hj' : a < L.length := by rw [h4]; exact hj
        have hne : ∀ q, q ≠ a → mget (L.set a (some (.int (x + Int32.ofInt b)))) q = mget L q := fun q hq => by rw [mget_set hj', if_neg (fun e => hq e.symm)]
        have gz := Int32.toInt_add x (Int32.ofInt b)
        obtain ⟨g31, g32⟩ := g3
        have hV : gV s0 L M (.inr (aNorm (iv.1 + (Int32.ofInt b).toInt) (iv.2 + (Int32.ofInt b).toInt), none, aShift t (Int32.ofInt b).toInt (Int32.ofInt b).toInt (decide (-2147483648 ≤ iv.1 + (Int32.ofInt b).toInt ∧ iv.2 + (Int32.ofInt b).toInt ≤ 2147483647)))) (.int (x + Int32.ofInt b)) := by
          refine ⟨_, rfl, aNorm_ok gz (by omega) (by omega), trivial, aShift_ok g5 (n := (Int32.ofInt b).toInt) (fun hok => ?_) (Int.le_refl _) (Int.le_refl _)⟩
          have hok := of_decide_eq_true hok
          rw [gz]
          exact abmod (by omega) (by omega)
        exact ⟨L.set a (some (.int (x + Int32.ofInt b))), st, by simp only [mpure, g1, mput_of h5 hj' (rfl : (Value.int (x + Int32.ofInt b)).category = 1), Option.map_some], ⟨h1.set hV hj', gSt.map (fun a v hv => hv.dropL hne) h2, h3, by rw [List.length_set]; exact h4, h5.set hj' rfl⟩, rfl⟩
      · cases h
    · cases h
  | 12, h =>
    simp only [aPure] at h
    split at h
    · next iy oy ty ix ox tx r _ =>
      split at h
      · next z hz =>
        cases h
        match st, h2 with
        | v :: w :: st, ⟨⟨yv, e1, y1, y2, y3⟩, ⟨xv, e2, x1, x2, x3⟩, g2⟩ =>
          subst e1; subst e2
          obtain ⟨zv, e3, z1⟩ := aBin_ok hz x1 y1
          refine ⟨L, .int zv :: st, by simp only [mpure, e3, Option.map_some], ⟨h1, ⟨⟨zv, rfl, z1, trivial, ?_⟩, g2⟩, h3, h4, h5⟩, rfl⟩
          by_cases ha : a = 0
          · subst ha
            rw [if_pos rfl]
            have e4 : zv = xv + yv := by cases e3; rfl
            have e5 := Int32.toInt_add xv yv
            rw [← e4] at e5
            obtain ⟨x11, x12⟩ := x1
            obtain ⟨y11, y12⟩ := y1
            cases tx with
            | some q =>
              refine aShift_ok x3 (n := yv.toInt) (fun hok => ?_) y11 y12
              have hok := of_decide_eq_true hok
              rw [e5]
              exact abmod (by omega) (by omega)
            | none =>
              refine aShift_ok y3 (n := xv.toInt) (fun hok => ?_) x11 x12
              have hok := of_decide_eq_true hok
              rw [e5, abmod (by omega) (by omega)]
              omega
          · rw [if_neg ha]; trivial
      · cases h
    · cases h
  | 13, h =>
    simp only [aPure] at h
    split at h
    · next ix ox tx r =>
      cases h
      match st, h2 with
      | v :: st, ⟨⟨xv, e1, x1, x2, x3⟩, g2⟩ =>
        subst e1
        obtain ⟨x11, x12⟩ := x1
        exact ⟨L, .int (-xv) :: st, rfl, ⟨h1, ⟨⟨_, rfl, aNorm_ok (Int32.toInt_neg xv) (by omega) (by omega), trivial, trivial⟩, g2⟩, h3, h4, h5⟩, rfl⟩
    · cases h
  | 14, h =>
    simp only [aPure] at h
    split at h
    · cases h
      match st, h2 with
      | v :: st, ⟨g1, g2⟩ => exact ⟨L, st, by simp only [mpure, g1.cat, if_true], ⟨h1, g2, h3, h4, h5⟩, rfl⟩
    · cases h
  | 15, h =>
    simp only [aPure] at h
    split at h
    · cases h
      match st, h2 with
      | v :: st, ⟨g1, g2⟩ => exact ⟨L, v :: v :: st, by simp only [mpure, g1.cat, if_true], ⟨h1, ⟨g1, g1, g2⟩, h3, h4, h5⟩, rfl⟩
    · cases h
  | 16, h =>
    simp only [aPure] at h
    split at h
    · cases h
      match st, h2 with
      | v :: w :: st, ⟨g1, g2, g3⟩ => exact ⟨L, v :: w :: v :: w :: st, by simp only [mpure, g1.cat, g2.cat, and_self, if_true], ⟨h1, ⟨g1, g2, g1, g2, g3⟩, h3, h4, h5⟩, rfl⟩
    · cases h
  | n + 17, h => cases h
