/-! THE CHECKER OF SAFETY: calls by contract, natives, constants -/
abbrev aAr : Type := Nat ⊕ aIv
abbrev aOu : Type := Option aAr × List (Option aIv)
/-- method, arguments, outcomes (answer; what it says of the arguments), writes nothing, flag ahead, flag behind, depth -/
abbrev aCt : Type := Nat × List aAr × List aOu × Bool × Nat × Nat × Nat
def aArOk (a : aAr) (v : Value) : Prop := match a with | .inl k => v = .ref k | .inr iv => ∃ x, v = .int x ∧ aIn x iv
def aArs : List aAr → List Value → Prop
  | [], [] => True
  | a :: as, v :: vs => aArOk a v ∧ aArs as vs
  | _, _ => False
def aOuOk (o : aOu) (vs : List Value) (r : Option Value) : Prop := (match o.1, r with | none, none => True | some a, some v => aArOk a v | _, _ => False) ∧ ∀ (i : Nat) (iv : aIv), o.2[i]? = some (some iv) → ∃ x, vs[i]? = some (.int x) ∧ aIn x iv
def aCon (T : aTyL) (G : Nat → mMem → Prop) (C : aCt) : Prop := ∀ d, C.2.2.2.2.2.2 ≤ d → ∀ (vs : List Value) (M : mMem), aArs C.2.1 vs → aInv T M → G C.2.2.2.2.1 M → ∃ r M', EvS d none C.1 0 (ment C.1 vs) [] M (r, M') ∧ aInv T M' ∧ G C.2.2.2.2.2.1 M' ∧ (C.2.2.2.1 = true → M' = M) ∧ ∃ o ∈ C.2.2.1, aOuOk o vs r
def aCov : List aAr → List aV → Bool
  | [], [] => true
  | .inl k :: as, .inl k' :: vs => k == k' && aCov as vs
  | .inr iv :: as, .inr (iv', _, _) :: vs => aSub iv' iv && aCov as vs
  | _, _ => false
theorem aCov_ok {s0 : Nat → Int} {L : List (Option Value)} {M : mMem} : ∀ {as : List aAr} {A : List aV} {vs : List Value}, aCov as A = true → gSt s0 L M A vs → aArs as vs
  | [], [], [], _, _ => trivial
  | [], [], _ :: _, _, h => h.elim
  | [], _ :: _, _, h, _ => by cases h
  | .inl k :: as, [], _, h, _ => by cases h
  | .inr iv :: as, [], _, h, _ => by cases h
  | .inl k :: as, .inl k' :: A, [], _, h => h.elim
  | .inl k :: as, .inl k' :: A, v :: vs, h, hg => by
    simp only [aCov, Bool.and_eq_true, beq_iff_eq] at h
    obtain ⟨h1, h2⟩ := h
    subst h1
    exact ⟨hg.1, aCov_ok h2 hg.2⟩
  | .inr iv :: as, .inr (iv', o, t) :: A, [], _, h => h.elim
  | .inr iv :: as, .inr (iv', o, t) :: A, v :: vs, h, hg => by
    simp only [aCov, Bool.and_eq_true] at h
    obtain ⟨⟨x, e1, x1, -⟩, h2⟩ := hg
    exact ⟨⟨x, e1, aSub_ok h.1 x1⟩, aCov_ok h.2 h2⟩
  | .inl k :: as, .inr q :: A, _, h, _ => by cases h
  | .inr iv :: as, .inl q :: A, _, h, _ => by cases h
def aRefs : List aV → List (Option aIv) → aSt → Option aSt
  | .inr (iv, o, t) :: as, some iv' :: os, A => if max iv.1 iv'.1 ≤ min iv.2 iv'.2 then aRefs as os (aRefA A o (max iv.1 iv'.1, min iv.2 iv'.2) t) else none
  | _ :: as, _ :: os, A => aRefs as os A
  | _, _, A => some A
theorem aRefs_ok {y : Nat} {s0 : Nat → Int} {L : List (Option Value)} {M : mMem} {st : List Value} : ∀ (as : List aV) (os : List (Option aIv)) (vs : List Value) (A : aSt), gA y s0 A L st M → gSt s0 L M as vs → (∀ (i : Nat) (iv : aIv), os[i]? = some (some iv) → ∃ x, vs[i]? = some (.int x) ∧ aIn x iv) → ∃ A', aRefs as os A = some A' ∧ gA y s0 A' L st M ∧ A'.2.2.2 = A.2.2.2
  | [], os, vs, A, hg, _, _ => ⟨A, by unfold aRefs; rfl, hg, rfl⟩
  | a :: as, [], vs, A, hg, _, _ => ⟨A, by rcases a with k | ⟨iv, o, t⟩ <;> (unfold aRefs; rfl), hg, rfl⟩
  | .inl k :: as, o :: os, [], A, hg, h, _ => h.elim
  | .inl k :: as, o :: os, v :: vs, A, hg, h, ho => by
    obtain ⟨A', h1, h2, h3⟩ := aRefs_ok as os vs A hg h.2 (fun i iv hi => ho (i + 1) iv hi)
    exact ⟨A', by unfold aRefs; exact h1, h2, h3⟩
  | .inr q :: as, o :: os, [], A, hg, h, _ => h.elim
  | .inr (iv, og, t) :: as, none :: os, v :: vs, A, hg, h, ho => by
    obtain ⟨A', h1, h2, h3⟩ := aRefs_ok as os vs A hg h.2 (fun i iv hi => ho (i + 1) iv hi)
    exact ⟨A', by unfold aRefs; exact h1, h2, h3⟩
  | .inr (iv, og, t) :: as, some iv' :: os, v :: vs, A, hg, h, ho => by
    obtain ⟨⟨x, e1, x1, x2, x3⟩, h2⟩ := h
    obtain ⟨x', e2, x4⟩ := ho 0 iv' rfl
    subst e1
    cases e2
    obtain ⟨a1, a2⟩ := x1
    obtain ⟨b1, b2⟩ := x4
    have hx : aIn x (max iv.1 iv'.1, min iv.2 iv'.2) := ⟨by show max iv.1 iv'.1 ≤ _; omega, by show _ ≤ min iv.2 iv'.2; omega⟩
    obtain ⟨A', h1, h3, h4⟩ := aRefs_ok as os vs (aRefA A og (max iv.1 iv'.1, min iv.2 iv'.2) t) (aRefA_ok hg x2 hx x3) h2 (fun i iv hi => ho (i + 1) iv hi)
    refine ⟨A', ?_, h3, h4.trans (aRefA_fl _ _ _ _)⟩
    unfold aRefs
    rw [if_pos (by omega)]
    exact h1
def aPush (r : Option aAr) (A : aSt) : aSt := match r with
  | none => A
  | some (.inl k) => (A.1, .inl k :: A.2.1, A.2.2)
  | some (.inr iv) => (A.1, .inr (iv, none, none) :: A.2.1, A.2.2)
def aAway (pure : Bool) (A : aSt) : aSt := if pure then A else (A.1.map (Option.map aDropM), A.2.1.map aDropM, [], A.2.2.2)
def aWho (op a : Nat) (AS : List aV) : Option (Nat × List aV × List aV) := match op with
  | 0 => match mVS[a]? with
    | some q => match AS.drop q.2.2.2.2.2.1 with
      | .inl k :: r => match mSH[k]? with
        | some (c + 3, _, _) => match q.2.2.2.2.2.2.lookup c with
          | some z => if q.2.2.2.2.2.1 ≤ AS.length ∧ r.length ≤ 8 ∧ q.2.2.2.2.2.1 + 1 ≤ mLo z.1 then some (z.1, .inl k :: (AS.take q.2.2.2.2.2.1).reverse, r) else none
          | none => none
        | _ => none
      | _ => none
    | none => none
  | 1 => match mSS[a]? with
    | some q => if q.2.2.2.2.2 ≤ AS.length ∧ (AS.drop q.2.2.2.2.2).length ≤ 8 ∧ q.2.2.2.2.2 ≤ mLo q.2.2.2.2.1 then some (q.2.2.2.2.1, (AS.take q.2.2.2.2.2).reverse, AS.drop q.2.2.2.2.2) else none
    | none => none
  | _ => none
def aCall (CS : List aCt) (D op a pc : Nat) (A : aSt) : Option (List (Nat × aSt)) := match aWho op a A.2.1 with
  | none => none
  | some w => match CS.find? (fun C => C.1 == w.1 && C.2.2.2.2.1 == A.2.2.2 && aCov C.2.1 w.2.1 && decide (C.2.2.2.2.2.2 + 1 ≤ D)) with
    | none => none
    | some C => some (C.2.2.1.filterMap (fun o => (aRefs w.2.1 o.2 (A.1, w.2.2, A.2.2.1, A.2.2.2)).map (fun A' => (pc + 3, aPush o.1 ((aAway C.2.2.2.1 A').1, (aAway C.2.2.2.1 A').2.1, (aAway C.2.2.2.1 A').2.2.1, C.2.2.2.2.2.1)))))
theorem gSt_len {s0 : Nat → Int} {L : List (Option Value)} {M : mMem} : ∀ {A : List aV} {st : List Value}, gSt s0 L M A st → A.length = st.length
  | [], [], _ => rfl
  | [], _ :: _, h => h.elim
  | _ :: _, [], h => h.elim
  | _ :: A, _ :: st, h => congrArg (· + 1) (gSt_len h.2)
theorem gSt_drop {s0 : Nat → Int} {L : List (Option Value)} {M : mMem} : ∀ {A : List aV} {st : List Value} (n : Nat), gSt s0 L M A st → gSt s0 L M (A.drop n) (st.drop n)
  | A, st, 0, h => h
  | [], [], n + 1, _ => trivial
  | [], _ :: _, _, h => h.elim
  | _ :: _, [], _, h => h.elim
  | _ :: A, _ :: st, n + 1, h => gSt_drop n h.2
theorem gSt_take {s0 : Nat → Int} {L : List (Option Value)} {M : mMem} : ∀ {A : List aV} {st : List Value} (n : Nat), gSt s0 L M A st → gSt s0 L M (A.take n) (st.take n)
  | [], [], 0, _ => trivial
  | _ :: _, _ :: _, 0, _ => trivial
  | [], [], n + 1, _ => trivial
  | [], _ :: _, _, h => h.elim
  | _ :: _, [], _, h => h.elim
  | _ :: A, _ :: st, n + 1, h => ⟨h.1, gSt_take n h.2⟩
theorem gSt_app {s0 : Nat → Int} {L : List (Option Value)} {M : mMem} {B : List aV} {sb : List Value} (hb : gSt s0 L M B sb) : ∀ {A : List aV} {st : List Value}, gSt s0 L M A st → gSt s0 L M (A ++ B) (st ++ sb)
  | [], [], _ => hb
  | [], _ :: _, h => h.elim
  | _ :: _, [], h => h.elim
  | _ :: A, _ :: st, h => ⟨h.1, gSt_app hb h.2⟩
theorem gSt_rev {s0 : Nat → Int} {L : List (Option Value)} {M : mMem} : ∀ {A : List aV} {st : List Value}, gSt s0 L M A st → gSt s0 L M A.reverse st.reverse
  | [], [], _ => trivial
  | [], _ :: _, h => h.elim
  | _ :: _, [], h => h.elim
  | a :: A, v :: st, h => by
    rw [List.reverse_cons, List.reverse_cons]
    exact gSt_app (B := [a]) (sb := [v]) ⟨h.1, trivial⟩ (gSt_rev h.2)
theorem gSt_sum {s0 : Nat → Int} {L : List (Option Value)} {M : mMem} : ∀ {A : List aV} {st : List Value}, gSt s0 L M A st → (st.map fun v => v.category).sum = A.length
  | [], [], _ => rfl
  | [], _ :: _, h => h.elim
  | _ :: _, [], h => h.elim
  | a :: A, v :: st, h => by
    have := gSt_sum h.2
    simp only [List.map_cons, List.sum_cons, List.length_cons, this, h.1.cat]
    omega
theorem gSt_slots {s0 : Nat → Int} {L : List (Option Value)} {M : mMem} : ∀ {A : List aV} {st : List Value}, gSt s0 L M A st → mslots st = st.map some
  | [], [], _ => rfl
  | [], _ :: _, h => h.elim
  | _ :: _, [], h => h.elim
  | a :: A, v :: st, h => by
    have ih := gSt_slots h.2
    unfold mslots at ih ⊢
    rw [List.flatMap_cons, ih, if_neg (by rw [h.1.cat]; decide)]
    rfl
theorem aWho_ok {op a y' : Nat} {AS AA AR : List aV} {s0 : Nat → Int} {L : List (Option Value)} {M : mMem} {st : List Value} (h : aWho op a AS = some (y', AA, AR)) (hg : gSt s0 L M AS st) : ∃ vs rest, mcallS op a st = some (y', vs, rest) ∧ gSt s0 L M AA vs ∧ gSt s0 L M AR rest := by
  match op, h with
  | 0, h =>
    cases hF : mVS[a]? with
    | none => simp [aWho, hF] at h
    | some q =>
      simp only [aWho, hF] at h
      split at h
      · next k r hdr =>
        have hd := gSt_drop q.2.2.2.2.2.1 hg
        rw [hdr] at hd
        cases hs : st.drop q.2.2.2.2.2.1 with
        | nil => rw [hs] at hd; exact hd.elim
        | cons v rest =>
          rw [hs] at hd
          have hv : v = .ref k := hd.1
          subst hv
          cases hS : mSH[k]? with
          | none => simp [hS] at h
          | some sh =>
            simp only [hS] at h
            split at h
            · next c n0 fl he =>
              cases he
              cases hl : q.2.2.2.2.2.2.lookup c with
              | none => simp [hl] at h
              | some z =>
                simp only [hl] at h
                split at h
                · next hc =>
                  cases h
                  obtain ⟨c1, c2, c3⟩ := hc
                  have ht := gSt_rev (gSt_take q.2.2.2.2.2.1 hg)
                  have hA : gSt s0 L M (.inl k :: (AS.take q.2.2.2.2.2.1).reverse) (.ref k :: (st.take q.2.2.2.2.2.1).reverse) := ⟨rfl, ht⟩
                  have hlen := gSt_len hg
                  refine ⟨_, _, ?_, hA, hd.2⟩
                  simp only [mcallS, hF, hs, hS, hl]
                  rw [if_pos]
                  refine ⟨by omega, by rw [gSt_sum hd.2]; exact c2, ?_⟩
                  rw [gSt_slots hA]
                  simp
                  omega
                · cases h
            · cases h
      · cases h
  | 1, h =>
    cases hF : mSS[a]? with
    | none => simp [aWho, hF] at h
    | some q =>
      simp only [aWho, hF] at h
      split at h
      · next hc =>
        cases h
        obtain ⟨c1, c2, c3⟩ := hc
        have hd := gSt_drop q.2.2.2.2.2 hg
        have ht := gSt_rev (gSt_take q.2.2.2.2.2 hg)
        have hlen := gSt_len hg
        refine ⟨_, _, ?_, ht, hd⟩
        show mcall 1 a st [] = _
        simp only [mcall, hF]
        rw [if_pos]
        refine ⟨by omega, by rw [gSt_sum hd]; exact c2, ?_⟩
        rw [gSt_slots ht]
        simp
        omega
      · cases h
  | n + 2, h => cases h
theorem aAway_ok {y : Nat} {s0 : Nat → Int} {A : aSt} {L : List (Option Value)} {st : List Value} {M M' : mMem} {pure : Bool} (hg : gA y s0 A L st M) (hp : pure = true → M' = M) : gA y s0 (aAway pure A) L st M' := by
  unfold aAway
  cases pure with
  | true => rw [if_pos rfl, hp rfl]; exact hg
  | false =>
    obtain ⟨h1, h2, h3, h4, h5⟩ := hg
    exact ⟨h1.map (fun a v hv => hv.dropM), gSt.map (fun a v hv => hv.dropM) h2, fun f hf => (by cases hf), h4, h5⟩
set_option maxHeartbeats 1000000 in
theorem aCall_ok {T : aTyL} {G : Nat → mMem → Prop} {CS : List aCt} (hCS : ∀ C ∈ CS, aCon T G C) {D d op a pc y : Nat} {s0 : Nat → Int} {A : aSt} {l : List (Nat × aSt)} {L : List (Option Value)} {st : List Value} {M : mMem} (h : aCall CS D op a pc A = some l) (hg : gA y s0 A L st M) (hI : aInv T M) (hGh : G A.2.2.2 M) (hD : D ≤ d + 1) :
    ∃ y' vs rest r M', mcallS op a st = some (y', vs, rest) ∧ EvS d none y' 0 (ment y' vs) [] M (r, M') ∧ ∃ q ∈ l, q.1 = pc + 3 ∧ gA y s0 q.2 L (r.toList ++ rest) M' ∧ aInv T M' ∧ G q.2.2.2.2 M' := by
  unfold aCall at h
  cases hw : aWho op a A.2.1 with
  | none => simp [hw] at h
  | some w =>
    obtain ⟨y', AA, AR⟩ := w
    simp only [hw] at h
    split at h
    · cases h
    · next C hC =>
      cases h
      have hmem := List.mem_of_find?_eq_some hC
      have hp := List.find?_some hC
      simp only [Bool.and_eq_true, beq_iff_eq, decide_eq_true_eq] at hp
      obtain ⟨⟨⟨p1, p2⟩, p3⟩, p4⟩ := hp
      obtain ⟨h1, h2, h3, h4, h5⟩ := hg
      obtain ⟨vs, rest, c1, c2, c3⟩ := aWho_ok hw h2
      obtain ⟨r, M', e1, e2, e3, e4, o, ho, e5, e6⟩ := hCS C hmem d (by omega) vs M (aCov_ok p3 c2) hI (by rw [p2]; exact hGh)
      rw [p1] at e1
      refine ⟨y', vs, rest, r, M', c1, e1, ?_⟩
      have hg0 : gA y s0 (A.1, AR, A.2.2.1, A.2.2.2) L rest M := ⟨h1, c3, h3, h4, h5⟩
      obtain ⟨A', a1, a2, a3⟩ := aRefs_ok AA o.2 vs _ hg0 c2 e6
      have a4 := aAway_ok (M' := M') (pure := C.2.2.2.1) a2 e4
      refine ⟨(pc + 3, aPush o.1 ((aAway C.2.2.2.1 A').1, (aAway C.2.2.2.1 A').2.1, (aAway C.2.2.2.1 A').2.2.1, C.2.2.2.2.2.1)), List.mem_filterMap.mpr ⟨o, ho, by rw [a1]; rfl⟩, rfl, ?_, e2, ?_⟩
      · obtain ⟨b1, b2, b3, b4, b5⟩ := a4
        cases hr : o.1 with
        | none =>
          rw [hr] at e5
          cases r with
          | none => exact ⟨b1, b2, b3, b4, b5⟩
          | some v => exact e5.elim
        | some ar =>
          rw [hr] at e5
          cases r with
          | none => exact e5.elim
          | some v =>
            cases ar with
            | inl k => exact ⟨b1, ⟨e5, b2⟩, b3, b4, b5⟩
            | inr iv => obtain ⟨x, z1, z2⟩ := e5; exact ⟨b1, ⟨⟨x, z1, z2, trivial, trivial⟩, b2⟩, b3, b4, b5⟩
      · cases hr : o.1 with
        | none => exact e3
        | some ar => cases ar <;> exact e3
