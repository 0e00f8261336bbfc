/-! THE CHECKER OF SAFETY: methods that write nothing, and a list of methods in order -/
theorem aCon_of {T : aTyL} {G : Nat → mMem → Prop} {C : aCt} (hp : C.2.2.2.1 = false) (h : aCon T G (C.1, C.2.1, C.2.2.1, false, C.2.2.2.2)) : aCon T G C := by
  intro d hD vs M hA hI hGh
  obtain ⟨r, M', h1, h2, h3, _, h5⟩ := h d hD vs M hA hI hGh
  exact ⟨r, M', h1, h2, h3, fun e => (by rw [hp] at e; cases e), h5⟩
/-- a contract that holds whatever the ghost predicate is -/
def aConP (T : aTyL) (C : aCt) : Prop := ∀ G : Nat → mMem → Prop, aCon T G C
theorem aPureOk {T : aTyL} {CS : List aCt} {N : Nat} {C : aCt} {H : List aHd} (hf : C.2.2.2.2.1 = C.2.2.2.2.2.1) (hCS : ∀ C ∈ CS, aConP T C) (h : aChk T (fun _ _ _ => false) CS N C H = true) : aConP T C := by
  intro G d hD vs M hA hI hGh
  have := aChk_ok (G := fun _ M' => M' = M) (fun _ _ _ _ _ e => by rcases e with e | e <;> cases e) (fun _ _ _ _ _ _ _ e => by cases e) (fun C hC => hCS C hC _) h d hD vs M hA hI rfl
  obtain ⟨r, M', h1, h2, h3, _, h5⟩ := this
  have h3 : M' = M := h3
  subst h3
  exact ⟨r, M', h1, h2, (by rw [← hf]; exact hGh), fun _ => rfl, h5⟩
/-- method after method: each may call the ones ahead of it -/
def aAll (T : aTyL) (wok : Nat → Nat → Nat → Bool) : List aCt → List (aCt × Nat × List aHd) → Bool
  | _, [] => true
  | CS, (C, N, H) :: r => !C.2.2.2.1 && aChk T wok CS N C H && aAll T wok (C :: CS) r
def aAllP (T : aTyL) : List aCt → List (aCt × Nat × List aHd) → Bool
  | _, [] => true
  | CS, (C, N, H) :: r => decide (C.2.2.2.2.1 = C.2.2.2.2.2.1) && aChk T (fun _ _ _ => false) CS N C H && aAllP T (C :: CS) r
theorem aAllP_ok {T : aTyL} : ∀ (r : List (aCt × Nat × List aHd)) (CS : List aCt), (∀ C ∈ CS, aConP T C) → aAllP T CS r = true → ∀ C ∈ r, aConP T C.1
  | [], _, _, _, _, h => by cases h
  | (C, N, H) :: r, CS, hCS, h, C', hC' => by
    simp only [aAllP, Bool.and_eq_true, decide_eq_true_eq] at h
    obtain ⟨⟨h1, h2⟩, h3⟩ := h
    have hC : aConP T C := aPureOk h1 hCS h2
    rcases List.mem_cons.mp hC' with e | e
    · subst e; exact hC
    · exact aAllP_ok r (C :: CS) (fun D hD => (List.mem_cons.mp hD).elim (fun e => by rw [e]; exact hC) (hCS D)) h3 C' e
theorem aAll_ok {T : aTyL} {wok : Nat → Nat → Nat → Bool} {G : Nat → mMem → Prop} (hG : ∀ (fl k j : Nat) (x : Int32) (M : mMem), (wok fl k j = true ∨ wok fl k 999 = true) → G fl M → G fl (mup M k j x)) (hN : ∀ (fl ks kd sp dp n : Nat) (M : mMem), wok fl kd 999 = true → G fl M → G fl (mcpy M ks kd sp dp n)) : ∀ (r : List (aCt × Nat × List aHd)) (CS : List aCt), (∀ C ∈ CS, aCon T G C) → aAll T wok CS r = true → ∀ C ∈ r, aCon T G C.1
  | [], _, _, _, _, h => by cases h
  | (C, N, H) :: r, CS, hCS, h, C', hC' => by
    simp only [aAll, Bool.and_eq_true, Bool.not_eq_true'] at h
    obtain ⟨⟨h1, h2⟩, h3⟩ := h
    have hC : aCon T G C := aCon_of h1 (aChk_ok hG hN hCS h2)
    rcases List.mem_cons.mp hC' with e | e
    · subst e; exact hC
    · exact aAll_ok hG hN r (C :: CS) (fun D hD => (List.mem_cons.mp hD).elim (fun e => by rw [e]; exact hC) (hCS D)) h3 C' e
