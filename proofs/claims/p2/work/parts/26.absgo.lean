/-! THE CHECKER OF SAFETY: one step of any kind, a stretch of steps -/
def aRo (R : Option aAr) (r : Option Value) : Prop := match R, r with | none, none => True | some a, some v => aArOk a v | _, _ => False
def aRet (op y : Nat) (A : aSt) : Option (Option aAr) := match op with
  | 0 => match A.2.1 with
    | [.inr (iv, _, _)] => match mR y with
      | some .int => some (some (.inr iv))
      | some .boolean => if 0 ≤ iv.1 ∧ iv.2 ≤ 1 then some (some (.inr iv)) else none
      | _ => none
    | _ => none
  | 1 => match A.2.1 with
    | [.inl k] => match mR y with
      | some (.object _) => some (some (.inl k))
      | some (.array _) => some (some (.inl k))
      | _ => none
    | _ => none
  | 2 => match A.2.1 with
    | [] => match mR y with | none => some none | _ => none
    | _ => none
  | _ => none
theorem a01 {x : Int32} (h0 : 0 ≤ x.toInt) (h1 : x.toInt ≤ 1) : x = 0 ∨ x = 1 := by
  have e0 : (0 : Int32).toInt = 0 := rfl
  have e1 : (1 : Int32).toInt = 1 := rfl
  rcases (show x.toInt = 0 ∨ x.toInt = 1 by omega) with h | h
  · exact Or.inl (Int32.toInt_inj.mp (by rw [h, e0]))
  · exact Or.inr (Int32.toInt_inj.mp (by rw [h, e1]))
theorem aRet_ok {op y : Nat} {A : aSt} {R : Option aAr} {s0 : Nat → Int} {L : List (Option Value)} {st : List Value} {M : mMem} (h : aRet op y A = some R) (hg : gA y s0 A L st M) : ∃ r, mret op y st = some r ∧ aRo R r := by
  obtain ⟨AL, AS, AF, fl⟩ := A
  obtain ⟨-, h2, -, -, -⟩ := hg
  match op, h with
  | 0, h =>
    match AS, st, h2 with
    | [.inr (iv, o, t)], [v], ⟨⟨x, e, hx, _, _⟩, _⟩ =>
      subst e
      simp only [aRet] at h
      cases hR : mR y with
      | none => simp [hR] at h
      | some ty =>
        simp only [hR] at h
        cases ty with
        | int => cases h; exact ⟨some (.int x), by simp only [mret, hR], x, rfl, hx⟩
        | boolean =>
          simp only [] at h
          split at h
          · next hc => cases h; exact ⟨some (.int x), by simp only [mret, hR]; rw [if_pos (a01 (by have := hx.1; omega) (by have := hx.2; omega))], x, rfl, hx⟩
          · cases h
        | _ => cases h
    | [], _, _ => cases h
    | .inl _ :: _, _, _ => cases h
    | .inr _ :: _ :: _, _, _ => cases h
  | 1, h =>
    match AS, st, h2 with
    | [.inl k], [v], ⟨e, _⟩ =>
      have e : v = .ref k := e
      subst e
      simp only [aRet] at h
      cases hR : mR y with
      | none => simp [hR] at h
      | some ty =>
        simp only [hR] at h
        cases ty with
        | object c => cases h; exact ⟨some (.ref k), by simp only [mret, hR], rfl⟩
        | array c => cases h; exact ⟨some (.ref k), by simp only [mret, hR], rfl⟩
        | _ => cases h
    | [], _, _ => cases h
    | .inr _ :: _, _, _ => cases h
    | .inl _ :: _ :: _, _, _ => cases h
  | 2, h =>
    match AS, st, h2 with
    | [], [], _ =>
      simp only [aRet] at h
      cases hR : mR y with
      | none => simp only [hR] at h; cases h; exact ⟨none, by simp only [mret, hR], trivial⟩
      | some ty => simp [hR] at h
    | _ :: _, _, _ => cases h
  | n + 3, h => cases h
abbrev aRs : Type := List (Nat × aSt) ⊕ Option aAr
def aStep (T : aTyL) (wok : Nat → Nat → Nat → Bool) (CS : List aCt) (D y pc : Nat) (A : aSt) : Option aRs := match mI y pc with
  | none => none
  | some (g, op, a, b) => match g with
    | 0 => (aPure y op a b A).map (fun A' => .inl [(pc + mlen 0 op b, A')])
    | 1 => (aJump op a b pc A).map .inl
    | 2 => (aMem T wok op a A).map (fun A' => .inl [(pc + mlen 2 op b, A')])
    | 3 => (aRet op y A).map .inr
    | 4 => if 1 ≤ D then (aCall CS D op a pc A).map .inl else none
    | 5 => if 1 ≤ D then (aNat T wok op a A).map (fun A' => .inl [(pc + 3, A')]) else none
    | 6 => (aConst op a A).map (fun A' => .inl [(pc + mlen 6 op b, A')])
    | _ => none
/-- what a step (or a stretch of steps) of the checker promises of the machine -/
def aDo (T : aTyL) (G : Nat → mMem → Prop) (d y pc : Nat) (s0 : Nat → Int) (L : List (Option Value)) (st : List Value) (M : mMem) (q : Nat × aSt) : Prop :=
  ∃ L' st' M', gA y s0 q.2 L' st' M' ∧ aInv T M' ∧ G q.2.2.2.2 M' ∧ ∀ x, EvS d none y q.1 L' st' M' x → EvS d none y pc L st M x
def aEnd (T : aTyL) (G : Nat → mMem → Prop) (d y pc : Nat) (L : List (Option Value)) (st : List Value) (M : mMem) (fl : Nat) (R : Option aAr) : Prop :=
  ∃ r M', aRo R r ∧ aInv T M' ∧ G fl M' ∧ EvS d none y pc L st M (r, M')
section
variable {T : aTyL} {wok : Nat → Nat → Nat → Bool} {G : Nat → mMem → Prop} {CS : List aCt}
theorem aStep_ok (hG : ∀ (fl k j : Nat) (x : Int32) (M : mMem), (wok fl k j = true ∨ wok fl k 999 = true) → G fl M → G fl (mup M k j x)) (hN : ∀ (fl ks kd sp dp n : Nat) (M : mMem), wok fl kd 999 = true → G fl M → G fl (mcpy M ks kd sp dp n)) (hCS : ∀ C ∈ CS, aCon T G C) {D d y pc : Nat} (hD : D ≤ d) {s0 : Nat → Int} {A : aSt} {L : List (Option Value)} {st : List Value} {M : mMem} {R : aRs} (h : aStep T wok CS D y pc A = some R) (hg : gA y s0 A L st M) (hI : aInv T M) (hGh : G A.2.2.2 M) :
    (∃ l, R = .inl l ∧ ∃ q ∈ l, aDo T G d y pc s0 L st M q) ∨ (∃ ro, R = .inr ro ∧ aEnd T G d y pc L st M A.2.2.2 ro) := by
  unfold aStep at h
  cases hi : mI y pc with
  | none => simp [hi] at h
  | some i =>
    obtain ⟨g, op, a, b⟩ := i
    simp only [hi] at h
    match g, h with
    | 0, h =>
      obtain ⟨A', h1, h2⟩ := Option.map_eq_some_iff.mp h
      subst h2
      obtain ⟨L', st', e, g', ef⟩ := aPure_ok h1 hg
      exact Or.inl ⟨_, rfl, _, List.mem_singleton.mpr rfl, L', st', M, g', hI, by show G A'.2.2.2 M; rw [show A'.2.2.2 = A.2.2.2 from ef]; exact hGh, fun x hx => EvS.pure hi e hx⟩
    | 1, h =>
      obtain ⟨l, h1, h2⟩ := Option.map_eq_some_iff.mp h
      subst h2
      obtain ⟨q, hq, st', e, g', ef⟩ := aJump_ok h1 hg
      exact Or.inl ⟨l, rfl, q, hq, L, st', M, g', hI, by rw [ef]; exact hGh, fun x hx => EvS.jump hi e hx⟩
    | 2, h =>
      obtain ⟨A', h1, h2⟩ := Option.map_eq_some_iff.mp h
      subst h2
      obtain ⟨st', M', e, g', i', G'⟩ := aMem_ok hG h1 hg hI hGh
      exact Or.inl ⟨_, rfl, _, List.mem_singleton.mpr rfl, L, st', M', g', i', G', fun x hx => EvS.mem hi e hx⟩
    | 3, h =>
      obtain ⟨ro, h1, h2⟩ := Option.map_eq_some_iff.mp h
      subst h2
      obtain ⟨r, e, hr⟩ := aRet_ok h1 hg
      exact Or.inr ⟨ro, rfl, r, M, hr, hI, hGh, EvS.ret hi e⟩
    | 4, h =>
      simp only [] at h
      split at h
      · next h1D =>
        obtain ⟨l, h1, h2⟩ := Option.map_eq_some_iff.mp h
        subst h2
        obtain ⟨d', rfl⟩ : ∃ d', d = d' + 1 := ⟨d - 1, by omega⟩
        obtain ⟨y', vs, rest, r, M', e, hc, q, hq, eq, g', i', G'⟩ := aCall_ok hCS h1 hg hI hGh hD
        exact Or.inl ⟨l, rfl, q, hq, L, _, M', g', i', G', fun x hx => EvS.call hi e hc (by rw [← eq]; exact hx)⟩
      · cases h
    | 5, h =>
      simp only [] at h
      split at h
      · next h1D =>
        obtain ⟨A', h1, h2⟩ := Option.map_eq_some_iff.mp h
        subst h2
        obtain ⟨d', rfl⟩ : ∃ d', d = d' + 1 := ⟨d - 1, by omega⟩
        obtain ⟨st', M', e, g', i', G'⟩ := aNat_ok hN h1 hg hI hGh
        exact Or.inl ⟨_, rfl, _, List.mem_singleton.mpr rfl, L, st', M', g', i', G', fun x hx => EvS.nat hi e hx⟩
      · cases h
    | 6, h =>
      obtain ⟨A', h1, h2⟩ := Option.map_eq_some_iff.mp h
      subst h2
      obtain ⟨st', e, g', ef⟩ := aConst_ok h1 hg
      exact Or.inl ⟨_, rfl, _, List.mem_singleton.mpr rfl, L, st', M, g', hI, by show G A'.2.2.2 M; rw [show A'.2.2.2 = A.2.2.2 from ef]; exact hGh, fun x hx => EvS.con hi e hx⟩
    | g + 7, h => cases h
end
