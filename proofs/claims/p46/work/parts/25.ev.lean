/-! runs of the static machine, step by step -/
theorem exS_up : ∀ (n d : Nat) (S : Option (Nat × (Nat → Int32))) (y pc : Nat) (L : List (Option Value)) (st : List Value) (M : mMem) (x : Option Value × mMem), exS n d S y pc L st M = some x → ∀ m, n ≤ m → exS m d S y pc L st M = some x
  | 0, _, _, _, _, _, _, _, _, h, _, _ => by cases h
  | n + 1, d, S, y, pc, L, st, M, x, h, 0, hm => by omega
  | n + 1, d, S, y, pc, L, st, M, x, h, m + 1, hm => by
    have hm : n ≤ m := by omega
    simp only [exS] at h ⊢
    cases hI : mI y pc with
    | none => simp [hI] at h
    | some q =>
      obtain ⟨gg, op, a, bb⟩ := q
      simp only [hI] at h ⊢
      match gg, h with
      | 0, h =>
        cases hp : mpure op a bb L st with
        | none => simp [hp] at h
        | some q => simp only [hp] at h ⊢; exact exS_up n _ _ _ _ _ _ _ _ h m hm
      | 1, h =>
        cases hp : mjump op a bb pc st with
        | none => simp [hp] at h
        | some q => simp only [hp] at h ⊢; exact exS_up n _ _ _ _ _ _ _ _ h m hm
      | 2, h =>
        cases hp : mmemS op a S st M with
        | none => simp [hp] at h
        | some q => simp only [hp] at h ⊢; exact exS_up n _ _ _ _ _ _ _ _ h m hm
      | 3, h => exact h
      | 4, h =>
        cases d with
        | zero => cases h
        | succ d' =>
          cases hp : mcallS op a st with
          | none => simp [hp] at h
          | some q =>
            simp only [hp] at h ⊢
            cases hz : exS n d' none q.1 0 (ment q.1 q.2.1) [] M with
            | none => simp [hz] at h
            | some z =>
              simp only [hz] at h
              simp only [exS_up n _ _ _ _ _ _ _ _ hz m hm]
              exact exS_up n _ _ _ _ _ _ _ _ h m hm
      | 5, h =>
        cases d with
        | zero => cases h
        | succ d' =>
          cases hp : mnatS op a st M with
          | none => simp [hp] at h
          | some q => simp only [hp] at h ⊢; exact exS_up n _ _ _ _ _ _ _ _ h m hm
      | 6, h =>
        cases hp : mcon op a st with
        | none => simp [hp] at h
        | some q => simp only [hp] at h ⊢; exact exS_up n _ _ _ _ _ _ _ _ h m hm
      | gg + 7, h => cases h
section EV
variable {d y pc op a : Nat} {bb : Int} {S : Option (Nat × (Nat → Int32))} {L : List (Option Value)} {st : List Value} {M : mMem} {x : Option Value × mMem}
theorem EvS.pure {L' : List (Option Value)} {st' : List Value} (hI : mI y pc = some (0, op, a, bb)) (hp : mpure op a bb L st = some (L', st')) (h : EvS d S y (pc + mlen 0 op bb) L' st' M x) : EvS d S y pc L st M x := by
  obtain ⟨n, h⟩ := h
  exact ⟨n + 1, by simp only [exS, hI, hp]; exact h⟩
theorem EvS.jump {pc' : Nat} {st' : List Value} (hI : mI y pc = some (1, op, a, bb)) (hp : mjump op a bb pc st = some (pc', st')) (h : EvS d S y pc' L st' M x) : EvS d S y pc L st M x := by
  obtain ⟨n, h⟩ := h
  exact ⟨n + 1, by simp only [exS, hI, hp]; exact h⟩
theorem EvS.mem {st' : List Value} {M' : mMem} (hI : mI y pc = some (2, op, a, bb)) (hp : mmemS op a S st M = some (st', M')) (h : EvS d S y (pc + mlen 2 op bb) L st' M' x) : EvS d S y pc L st M x := by
  obtain ⟨n, h⟩ := h
  exact ⟨n + 1, by simp only [exS, hI, hp]; exact h⟩
theorem EvS.ret {r : Option Value} (hI : mI y pc = some (3, op, a, bb)) (hp : mret op y st = some r) : EvS d S y pc L st M (r, M) := ⟨1, by simp only [exS, hI, hp]⟩
theorem EvS.nat {st' : List Value} {M' : mMem} (hI : mI y pc = some (5, op, a, bb)) (hp : mnatS op a st M = some (st', M')) (h : EvS (d + 1) S y (pc + 3) L st' M' x) : EvS (d + 1) S y pc L st M x := by
  obtain ⟨n, h⟩ := h
  exact ⟨n + 1, by simp only [exS, hI, hp]; exact h⟩
theorem EvS.con {st' : List Value} (hI : mI y pc = some (6, op, a, bb)) (hp : mcon op a st = some st') (h : EvS d S y (pc + mlen 6 op bb) L st' M x) : EvS d S y pc L st M x := by
  obtain ⟨n, h⟩ := h
  exact ⟨n + 1, by simp only [exS, hI, hp]; exact h⟩
theorem EvS.call {y' : Nat} {As rest : List Value} {M1 : mMem} {r : Option Value} (hI : mI y pc = some (4, op, a, bb)) (hp : mcallS op a st = some (y', As, rest)) (hc : EvS d none y' 0 (ment y' As) [] M (r, M1)) (h : EvS (d + 1) S y (pc + 3) L (r.toList ++ rest) M1 x) : EvS (d + 1) S y pc L st M x := by
  obtain ⟨n1, hc⟩ := hc
  obtain ⟨n, h⟩ := h
  refine ⟨max n1 n + 1, ?_⟩
  simp only [exS, hI, hp, exS_up n1 _ _ _ _ _ _ _ _ hc (max n1 n) (Nat.le_max_left _ _)]
  exact exS_up n _ _ _ _ _ _ _ _ h (max n1 n) (Nat.le_max_right _ _)
end EV
