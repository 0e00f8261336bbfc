/-! THE CHECKER OF SAFETY: natives, constants, one step, a stretch of steps -/
def aNat (T : aTyL) (wok : Nat → Nat → Nat → Bool) (op a : Nat) (A : aSt) : Option aSt := match A with
  | (AL, AS, AF, fl) => match mSS[a]? with
    | none => none
    | some _ => match op with
      | 0 => match AS with
        | .inr (n, _, _) :: .inr (dp, _, _) :: .inl kd :: .inr (sp, _, _) :: .inl ks :: r => match mSH[ks]?, mSH[kd]?, T[ks]?, T[kd]? with
          | some (0, n0, _), some (0, n1, _), some (.inl t0), some (.inl t1) => if n.1 = n.2 ∧ dp.1 = dp.2 ∧ sp.1 = sp.2 ∧ 0 ≤ n.1 ∧ 0 ≤ dp.1 ∧ 0 ≤ sp.1 ∧ sp.1 + n.1 ≤ n0 ∧ dp.1 + n.1 ≤ n1 ∧ n0 ≤ 400 ∧ n1 ≤ 400 ∧ ks < 123 ∧ kd < 123 ∧ aSub t0 t1 = true ∧ wok fl kd 999 = true ∧ r.length ≤ 8 then some (AL.map (Option.map (aDropC kd)), r.map (aDropC kd), AF.filter (fun f => decide (f.1.1 ≠ kd)), fl) else none
          | _, _, _, _ => none
        | _ => none
      | 2 => match AS with | .inr (y, _, _) :: .inr (x, _, _) :: r => if r.length ≤ 8 then some (AL, .inr ((max x.1 y.1, max x.2 y.2), none, none) :: r, AF, fl) else none | _ => none
      | 3 => match AS with | .inr (y, _, _) :: .inr (x, _, _) :: r => if r.length ≤ 8 then some (AL, .inr ((min x.1 y.1, min x.2 y.2), none, none) :: r, AF, fl) else none | _ => none
      | 4 => match AS with | .inr (x, _, _) :: r => if r.length ≤ 8 then some (AL, .inr (if -2147483648 < x.1 then (0, max (-x.1) x.2) else aTop, none, none) :: r, AF, fl) else none | _ => none
      | _ => none
theorem acl (z : Int32) (h : 0 ≤ z.toInt) : ¬ z < 0 ∧ (z.toNatClampNeg : Int) = z.toInt := by
  refine ⟨fun h2 => ?_, by show ((z.toInt.toNat : Nat) : Int) = z.toInt; omega⟩
  have := Int32.lt_iff_toInt_lt.mp h2
  have e : (0 : Int32).toInt = 0 := rfl
  omega
set_option maxHeartbeats 2000000 in
theorem aNat_ok {T : aTyL} {wok : Nat → Nat → Nat → Bool} {G : Nat → mMem → Prop} (hG : ∀ (fl ks kd sp dp n : Nat) (M : mMem), wok fl kd 999 = true → G fl M → G fl (mcpy M ks kd sp dp n)) {y op a : Nat} {s0 : Nat → Int} {A A' : aSt} {L : List (Option Value)} {st : List Value} {M : mMem} (h : aNat T wok op a A = some A') (hg : gA y s0 A L st M) (hI : aInv T M) (hGh : G A.2.2.2 M) :
    ∃ st' M', mnatS op a st M = some (st', M') ∧ gA y s0 A' L st' M' ∧ aInv T M' ∧ G A'.2.2.2 M' := by
  obtain ⟨AL, AS, AF, fl⟩ := A
  obtain ⟨h1, h2, h3, h4, h5⟩ := hg
  cases hF : mSS[a]? with
  | none => simp only [aNat, hF] at h; cases h
  | some q =>
    match op, h with
    | 0, h =>
      simp only [aNat, hF] at h
      split at h
      · next n o1 t1 dp o2 t2 kd sp o3 t3 ks r _ =>
        match st, h2 with
        | v1 :: v2 :: v3 :: v4 :: v5 :: st, ⟨⟨nv, e1, n1, _, _⟩, ⟨dv, e2, d1, _, _⟩, e3, ⟨sv, e4, s1, _, _⟩, e5, g2⟩ =>
          have e3 : v3 = .ref kd := e3
          have e5 : v5 = .ref ks := e5
          subst e1; subst e2; subst e3; subst e4; subst e5
          split at h
          · next n0 ts0 n1' ts1 ty0 ty1 hS0 hS1 hT0 hT1 =>
            split at h
            · next hc =>
              cases h
              obtain ⟨c1, c2, c3, c4, c5, c6, c7, c8, c9, c10, c11, c12, c13, c14, c15⟩ := hc
              obtain ⟨n11, n12⟩ := n1
              obtain ⟨d11, d12⟩ := d1
              obtain ⟨s11, s12⟩ := s1
              obtain ⟨k1, k2⟩ := acl nv (by omega)
              obtain ⟨k3, k4⟩ := acl dv (by omega)
              obtain ⟨k5, k6⟩ := acl sv (by omega)
              have hne : ∀ k', k' ≠ kd → mcpy M ks kd sv.toNatClampNeg dv.toNatClampNeg nv.toNatClampNeg k' = M k' := fun k' h => if_neg h
              have hd : ∀ a v, gV s0 L M a v → gV s0 L (mcpy M ks kd sv.toNatClampNeg dv.toNatClampNeg nv.toNatClampNeg) (aDropC kd a) v := fun a v hv => hv.dropC hne
              refine ⟨st, mcpy M ks kd sv.toNatClampNeg dv.toNatClampNeg nv.toNatClampNeg, ?_, ⟨h1.map hd, gSt.map hd g2, fun f hf => ?_, h4, h5⟩, fun k hk j hj => ?_, hG _ _ _ _ _ _ _ c14 hGh⟩
              · simp only [mnatS, hF, hS0, hS1]
                rw [if_neg]
                rintro (h | h | h | h | h | h)
                · exact k5 h
                · exact k3 h
                · exact k1 h
                · omega
                · omega
                · rw [gSt_sum g2] at h; omega
              · obtain ⟨f1, f2⟩ := List.mem_filter.mp hf
                have f2 := of_decide_eq_true f2
                rw [hne _ f2]
                exact h3 f f1
              · by_cases hkd : k = kd
                · subst hkd
                  have h0 := hI ks c11
                  have h9 := hI k hk j hj
                  have e9 : mcpy M ks k sv.toNatClampNeg dv.toNatClampNeg nv.toNatClampNeg k = va_cpy (M ks) (M k) sv.toNatClampNeg dv.toNatClampNeg nv.toNatClampNeg := if_pos rfl
                  rw [e9]
                  unfold va_cpy
                  unfold aTy at h0 h9 ⊢
                  rw [hT0] at h0
                  rw [hT1] at h9 ⊢
                  split
                  · exact aSub_ok c13 (h0 _ (by omega))
                  · exact h9
                · rw [hne k hkd]; exact hI k hk j hj
            · cases h
          · cases h
      · cases h
    | 1, h => simp only [aNat, hF] at h; cases h
    | 2, h =>
      simp only [aNat, hF] at h
      split at h
      · next iy o1 t1 ix o2 t2 r _ =>
        split at h
        · next hc =>
          cases h
          match st, h2 with
          | v1 :: v2 :: st, ⟨⟨yv, e1, y1, _, _⟩, ⟨xv, e2, x1, _, _⟩, g2⟩ =>
            subst e1; subst e2
            obtain ⟨y11, y12⟩ := y1
            obtain ⟨x11, x12⟩ := x1
            have hs : ¬ 8 < (st.map fun v => v.category).sum := by rw [gSt_sum g2]; omega
            refine ⟨.int (if xv < yv then yv else xv) :: st, M, by simp only [mnatS, mnat, hF, if_neg hs], ⟨h1, ⟨⟨_, rfl, ?_, trivial, trivial⟩, g2⟩, h3, h4, h5⟩, hI, hGh⟩
            split
            · next hlt =>
              have := Int32.lt_iff_toInt_lt.mp hlt
              exact ⟨by show max ix.1 iy.1 ≤ _; omega, by show _ ≤ max ix.2 iy.2; omega⟩
            · next hlt =>
              have hle : yv.toInt ≤ xv.toInt := Int32.le_iff_toInt_le.mp (Int32.not_lt.mp hlt)
              exact ⟨by show max ix.1 iy.1 ≤ _; omega, by show _ ≤ max ix.2 iy.2; omega⟩
        · cases h
      · cases h
    | 3, h =>
      simp only [aNat, hF] at h
      split at h
      · next iy o1 t1 ix o2 t2 r _ =>
        split at h
        · next hc =>
          cases h
          match st, h2 with
          | v1 :: v2 :: st, ⟨⟨yv, e1, y1, _, _⟩, ⟨xv, e2, x1, _, _⟩, g2⟩ =>
            subst e1; subst e2
            obtain ⟨y11, y12⟩ := y1
            obtain ⟨x11, x12⟩ := x1
            have hs : ¬ 8 < (st.map fun v => v.category).sum := by rw [gSt_sum g2]; omega
            refine ⟨.int (if yv < xv then yv else xv) :: st, M, by simp only [mnatS, mnat, hF, if_neg hs], ⟨h1, ⟨⟨_, rfl, ?_, trivial, trivial⟩, g2⟩, h3, h4, h5⟩, hI, hGh⟩
            split
            · next hlt =>
              have := Int32.lt_iff_toInt_lt.mp hlt
              exact ⟨by show min ix.1 iy.1 ≤ _; omega, by show _ ≤ min ix.2 iy.2; omega⟩
            · next hlt =>
              have hle : xv.toInt ≤ yv.toInt := Int32.le_iff_toInt_le.mp (Int32.not_lt.mp hlt)
              exact ⟨by show min ix.1 iy.1 ≤ _; omega, by show _ ≤ min ix.2 iy.2; omega⟩
        · cases h
      · cases h
    | 4, h =>
      simp only [aNat, hF] at h
      split at h
      · next ix o2 t2 r _ =>
        split at h
        · next hc =>
          cases h
          match st, h2 with
          | v1 :: st, ⟨⟨xv, e2, x1, _, _⟩, g2⟩ =>
            subst e2
            obtain ⟨x11, x12⟩ := x1
            have hs : ¬ 8 < (st.map fun v => v.category).sum := by rw [gSt_sum g2]; omega
            refine ⟨.int (if 0 ≤ xv then xv else 0 - xv) :: st, M, by simp only [mnatS, mnat, hF, if_neg hs], ⟨h1, ⟨⟨_, rfl, ?_, trivial, trivial⟩, g2⟩, h3, h4, h5⟩, hI, hGh⟩
            by_cases hmin : -2147483648 < ix.1
            · rw [if_pos hmin]
              have e0 : (0 : Int32).toInt = 0 := rfl
              split
              · next h0 =>
                have := Int32.le_iff_toInt_le.mp h0
                exact ⟨by show (0 : Int) ≤ _; omega, by show _ ≤ max (-ix.1) ix.2; omega⟩
              · next h0 =>
                have h0 : xv.toInt < 0 := by
                  have := Int32.lt_iff_toInt_lt.mp (Int32.not_le.mp h0)
                  omega
                have e1 : (0 - xv).toInt = -xv.toInt := by
                  rw [Int32.toInt_sub, e0]
                  rw [show (0 : Int) - xv.toInt = -xv.toInt by omega]
                  have := xv.le_toInt
                  exact abmod (by omega) (by omega)
                exact ⟨by show (0 : Int) ≤ _; omega, by show _ ≤ max (-ix.1) ix.2; omega⟩
            · rw [if_neg hmin]; exact aIn_top _
        · cases h
      · cases h
    | n + 5, h => simp only [aNat, hF] at h; cases h
def aConst (op a : Nat) (A : aSt) : Option aSt := match mKS[a]? with
  | some q => match op with
    | 0 => some (A.1, .inr (((Int32.ofInt q.2.2.2).toInt, (Int32.ofInt q.2.2.2).toInt), none, none) :: A.2.1, A.2.2)
    | 1 => some (A.1, .inr (((Int32.ofInt q.2.2.2).toInt, (Int32.ofInt q.2.2.2).toInt), none, none) :: A.2.1, A.2.2)
    | _ => none
  | none => none
theorem aConst_ok {y op a : Nat} {s0 : Nat → Int} {A A' : aSt} {L : List (Option Value)} {st : List Value} {M : mMem} (h : aConst op a A = some A') (hg : gA y s0 A L st M) : ∃ st', mcon op a st = some st' ∧ gA y s0 A' L st' M ∧ A'.2.2.2 = A.2.2.2 := by
  obtain ⟨h1, h2, h3, h4, h5⟩ := hg
  cases hF : mKS[a]? with
  | none => simp only [aConst, hF] at h; cases h
  | some q =>
    simp only [aConst, hF] at h
    match op, h with
    | 0, h => cases h; exact ⟨.int (Int32.ofInt q.2.2.2) :: st, by simp only [mcon, hF], ⟨h1, ⟨⟨_, rfl, ⟨Int.le_refl _, Int.le_refl _⟩, trivial, trivial⟩, h2⟩, h3, h4, h5⟩, rfl⟩
    | 1, h => cases h; exact ⟨.int (Int32.ofInt q.2.2.2) :: st, by simp only [mcon, hF], ⟨h1, ⟨⟨_, rfl, ⟨Int.le_refl _, Int.le_refl _⟩, trivial, trivial⟩, h2⟩, h3, h4, h5⟩, rfl⟩
    | n + 2, h => cases h
theorem exS_up : ∀ (n d : Nat) (S : Option (Nat × (Nat → Int32))) (y pc : Nat) (L : List (Option Value)) (st : List Value) (M : mMem) (x : Option Value × mMem), exS n d S y pc L st M = some x → ∀ m, n ≤ m → exS m d S y pc L st M = some x
  | 0, _, _, _, _, _, _, _, _, h, _, _ => by cases h
  | n + 1, d, S, y, pc, L, st, M, x, h, 0, hm => by omega
  | n + 1, d, S, y, pc, L, st, M, x, h, m + 1, hm => by
    have hm : n ≤ m := by omega
    simp only [exS] at h ⊢
    cases hI : mI y pc with
    | none => simp [hI] at h
    | some q =>
      obtain ⟨gg, op, a, bb⟩ := q
      simp only [hI] at h ⊢
      match gg, h with
      | 0, h =>
        cases hp : mpure op a bb L st with
        | none => simp [hp] at h
        | some q => simp only [hp] at h ⊢; exact exS_up n _ _ _ _ _ _ _ _ h m hm
      | 1, h =>
        cases hp : mjump op a bb pc st with
        | none => simp [hp] at h
        | some q => simp only [hp] at h ⊢; exact exS_up n _ _ _ _ _ _ _ _ h m hm
      | 2, h =>
        cases hp : mmemS op a S st M with
        | none => simp [hp] at h
        | some q => simp only [hp] at h ⊢; exact exS_up n _ _ _ _ _ _ _ _ h m hm
      | 3, h => exact h
      | 4, h =>
        cases d with
        | zero => cases h
        | succ d' =>
          cases hp : mcallS op a st with
          | none => simp [hp] at h
          | some q =>
            simp only [hp] at h ⊢
            cases hz : exS n d' none q.1 0 (ment q.1 q.2.1) [] M with
            | none => simp [hz] at h
            | some z =>
              simp only [hz] at h
              simp only [exS_up n _ _ _ _ _ _ _ _ hz m hm]
              exact exS_up n _ _ _ _ _ _ _ _ h m hm
      | 5, h =>
        cases d with
        | zero => cases h
        | succ d' =>
          cases hp : mnatS op a st M with
          | none => simp [hp] at h
          | some q => simp only [hp] at h ⊢; exact exS_up n _ _ _ _ _ _ _ _ h m hm
      | 6, h =>
        cases hp : mcon op a st with
        | none => simp [hp] at h
        | some q => simp only [hp] at h ⊢; exact exS_up n _ _ _ _ _ _ _ _ h m hm
      | gg + 7, h => cases h
section EV
variable {d y pc op a : Nat} {bb : Int} {S : Option (Nat × (Nat → Int32))} {L : List (Option Value)} {st : List Value} {M : mMem} {x : Option Value × mMem}
theorem EvS.pure {L' : List (Option Value)} {st' : List Value} (hI : mI y pc = some (0, op, a, bb)) (hp : mpure op a bb L st = some (L', st')) (h : EvS d S y (pc + mlen 0 op bb) L' st' M x) : EvS d S y pc L st M x := by
  obtain ⟨n, h⟩ := h
  exact ⟨n + 1, by simp only [exS, hI, hp]; exact h⟩
theorem EvS.jump {pc' : Nat} {st' : List Value} (hI : mI y pc = some (1, op, a, bb)) (hp : mjump op a bb pc st = some (pc', st')) (h : EvS d S y pc' L st' M x) : EvS d S y pc L st M x := by
  obtain ⟨n, h⟩ := h
  exact ⟨n + 1, by simp only [exS, hI, hp]; exact h⟩
theorem EvS.mem {st' : List Value} {M' : mMem} (hI : mI y pc = some (2, op, a, bb)) (hp : mmemS op a S st M = some (st', M')) (h : EvS d S y (pc + mlen 2 op bb) L st' M' x) : EvS d S y pc L st M x := by
  obtain ⟨n, h⟩ := h
  exact ⟨n + 1, by simp only [exS, hI, hp]; exact h⟩
theorem EvS.ret {r : Option Value} (hI : mI y pc = some (3, op, a, bb)) (hp : mret op y st = some r) : EvS d S y pc L st M (r, M) := ⟨1, by simp only [exS, hI, hp]⟩
theorem EvS.nat {st' : List Value} {M' : mMem} (hI : mI y pc = some (5, op, a, bb)) (hp : mnatS op a st M = some (st', M')) (h : EvS (d + 1) S y (pc + 3) L st' M' x) : EvS (d + 1) S y pc L st M x := by
  obtain ⟨n, h⟩ := h
  exact ⟨n + 1, by simp only [exS, hI, hp]; exact h⟩
theorem EvS.con {st' : List Value} (hI : mI y pc = some (6, op, a, bb)) (hp : mcon op a st = some st') (h : EvS d S y (pc + mlen 6 op bb) L st' M x) : EvS d S y pc L st M x := by
  obtain ⟨n, h⟩ := h
  exact ⟨n + 1, by simp only [exS, hI, hp]; exact h⟩
theorem EvS.call {y' : Nat} {As rest : List Value} {M1 : mMem} {r : Option Value} (hI : mI y pc = some (4, op, a, bb)) (hp : mcallS op a st = some (y', As, rest)) (hc : EvS d none y' 0 (ment y' As) [] M (r, M1)) (h : EvS (d + 1) S y (pc + 3) L (r.toList ++ rest) M1 x) : EvS (d + 1) S y pc L st M x := by
  obtain ⟨n1, hc⟩ := hc
  obtain ⟨n, h⟩ := h
  refine ⟨max n1 n + 1, ?_⟩
  simp only [exS, hI, hp, exS_up n1 _ _ _ _ _ _ _ _ hc (max n1 n) (Nat.le_max_left _ _)]
  exact exS_up n _ _ _ _ _ _ _ _ h (max n1 n) (Nat.le_max_right _ _)
end EV
