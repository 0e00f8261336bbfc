/-! LOOKS with their very answers: the search -/
section
variable {d : Nat} {Z Z1 Z2 : zM} {a : gX}
theorem F_seek46 {J J' : gJ} (hp : QP a J J') (ho : ∀ d, QO 46 10 d Z a J J') (wx : WX a) : ∀ (f : Nat) {i K : Nat} {x : Int} {Z1 : zM} {Q : zM → Prop}, i + f = 4 → x = i → QX 46 Z Z1 a i K → J i K (Z1 46) (Z1 (48)) (Z1 (49)) → (∀ Z2, QX 46 Z Z2 a i K → J' i K (Z2 46) (Z2 (48)) (Z2 (49)) → Q Z2) → TV (d + f + 4) 124 [.inr 46, .inr 25, .inl x] Z1 Q := by
  have bB := gB_b wx
  have hn : 0 ≤ a.1.1 ∧ a.1.1 ≤ 8 := wx.1.1.1
  have hW : 5 ≤ a.1.2.1 ∧ a.1.2.1 ≤ 6 := wx.1.1.2.1
  have hh := wx.1.2
  intro f
  induction f with
  | zero =>
    intro i K x Z1 Q hi hx m j hQ
    refine w124_0_46 ⟨by unfold zR; omega, fun c => by omega, fun _ => ⟨70 + 6 * i, zati (by omega) hx, zFi (by omega), ho (d + 0) i K x Z1 _ (by omega) hx m j fun r Z2 m2 hr => ?_⟩⟩
    rcases hr with ⟨r0, j2⟩ | ⟨r1, i4, j2⟩
    · subst r0
      exact ⟨by decide, fun _ => hQ Z2 m2 j2, fun c => absurd rfl c⟩
    · omega
  | succ f ihf =>
    intro i K x Z1 Q hi hx m j hQ
    refine w124_0_46 ⟨by unfold zR; omega, fun c => by omega, fun _ => ⟨70 + 6 * i, zati (by omega) hx, zFi (by omega), ho (d + f + 1) i K x Z1 _ (by omega) hx m j fun r Z2 m2 hr => ?_⟩⟩
    rcases hr with ⟨r0, j2⟩ | ⟨r1, i4, j2⟩
    · subst r0
      exact ⟨by decide, fun _ => hQ Z2 m2 j2, fun c => absurd rfl c⟩
    · subst r1
      refine ⟨by decide, fun c => absurd c (by decide), fun _ => ⟨by unfold zR; omega, fun _ => ⟨70 + 6 * i, zati (by omega) hx, zFi (by omega), 70 + 6 * (i + 1), zati (by omega) (by omega), zFi (by omega), ?_⟩, fun c => by omega⟩⟩
      suffices H : ∀ (g x' : Nat) (x5 : Int) (Z1 : zM), x5 = (x' : Int) - 1 → g = gB a - x' → x' ≤ gB a → QX 46 Z Z1 a i K → (x' < gB a → J (i + 1) (K * gB a + x') (Z1 46) (Z1 (48)) (Z1 (49))) → (x' = gB a → J' i K (Z1 46) (Z1 (48)) (Z1 (49))) → TZ (d + f + 4 + 1) 124 36 [some (.inr 46), some (.inr 25), some (.inl x), some (.inr (70 + 6 * i)), some (.inr (70 + 6 * (i + 1))), some (.inl x5)] [] Z1 (zrv Q) from H _ 0 (-1) Z2 rfl rfl (by omega) m2 (fun _ => j2) (fun e => by omega)
      intro g
      induction g with
      | zero =>
        intro x' x5 Z1 e5 y1 y2 m1 k1 k2
        have C1 := m1.2.1 i (by omega)
        have e6 : Z1 (70 + 6 * i) 6 = a.1.2.1 := C1.2.1
        exact w124_36_46 (zFi (by omega)) (zFi (by omega)) ⟨by unfold zR; omega, by unfold zR; omega, fun _ => hQ Z1 m1 (k2 (by omega)), fun y => absurd (show Z1 (70 + 6 * i) 6 ≤ x5 by omega) y⟩
      | succ g ih =>
        intro x' x5 Z1 e5 y1 y2 m1 k1 k2
        have C1 := m1.2.1 i (by omega)
        rw [Nat.sub_self] at C1
        have C1 : CFs (70 + 6 * i) Z1 (gwy a i K) := C1
        have e6 : Z1 (70 + 6 * i) 6 = a.1.2.1 := C1.2.1
        refine w124_36_46 (zFi (by omega)) (zFi (by omega)) ⟨by unfold zR; omega, by unfold zR; omega, fun c => by omega, fun y => ⟨by omega, fun Z5 z5 => ?_⟩⟩
        have z5 : Z5 = zup Z1 (47) i (x5 + 1) := by rw [← hx]; exact z5
        have c5 : ∀ c, c ≠ 47 → Z5 c = Z1 c := fun c hc => by rw [z5]; funext p; exact zup_cell _ _ _ _ hc
        have C2 : CFs (70 + 6 * i) Z5 (gwy a i K) := CF.keep C1 fun c u v => c5 c (by omega)
        obtain ⟨h3, P3, C3'⟩ := m1.2.2.1 (i + 1) (by omega)
        have C3 := CF.keep C3' fun c u v => c5 c (by omega)
        have wi := gwy_wf wx i K (by omega)
        refine C_sitAs (n := a.1.1) (W := a.1.2.1) (K := a.1.2.2.2.1) (F := a.1.2.2.2.2.1) (T := a.1.2.2.2.2.2.2) (h' := a.1.2.2.1 + i) (P' := gwP a i K) (zFi (i := i + 1) (by omega)) (zFi (i := i) (by omega)) (by omega) ⟨C3.1, C3.2.1, fun b u v => ⟨(C3.2.2.2.1 b u v).1, (C3.2.2.2.1 b u v).2.1⟩, fun w u v => (C3.2.2.2.2 w u v).1⟩ C2 hn.2 fun Z6 C6 f6 => C_pass (zFi (i := i + 1) (by omega)) C6 wi (by omega) (by omega) fun Z7 C7 f7 => ?_
        have f67 := f6.trans f7
        have m7 : QX 46 Z Z7 a (i + 1) (K * gB a + x') := QX.child (by omega) e5 (by omega) (by decide) m1 z5 f67 C7
        have q0 : Z7 46 = Z1 46 := by rw [f67 46 (by omega), c5 46 (by decide)]
        have q2 : Z7 (48) = Z1 (48) := by rw [f67 (48) (by omega), c5 (48) (by decide)]
        have q3 : Z7 (49) = Z1 (49) := by rw [f67 (49) (by omega), c5 (49) (by decide)]
        refine ihf (i := i + 1) (K := K * gB a + x') (by omega) (by omega) m7 (by rw [q0, q2, q3]; exact k1 (by omega)) fun Z9 m9 j9 => ih (x' + 1) _ Z9 (by omega) (by omega) (by omega) (QX.down (by omega) m9) (fun c => hp.1 i K x' _ _ _ (by omega) (by omega) j9) fun c => hp.2 i K _ _ _ (by omega) ?_
        rw [show gB a - 1 = x' by omega]
        exact j9
theorem F_open46 {J J' : gJ} {Q : zM → Prop} (A : CX Z a) (wx : WX a) (hp : QP a J J') (ho : ∀ d, QO 46 10 d Z a J J') (f1 : frs SQ Z Z1) (j : J 0 0 (Z1 46) (Z1 (48)) (Z1 (49))) (hQ : ∀ Z2, frs SQ Z Z2 → J' 0 0 (Z2 46) (Z2 (48)) (Z2 (49)) → Q Z2) : TV (d + 9) 125 [.inr 0, .inr 46] Z1 Q := by
  have hn : 0 ≤ a.1.1 ∧ a.1.1 ≤ 8 := wx.1.1.1
  refine w125_0_46 ?_
  suffices H : ∀ (f i : Nat) (x : Int) (Z2 : zM), i + f = 5 → x = i → frs SQ Z Z2 → Z2 46 = Z1 46 → Z2 (48) = Z1 (48) → Z2 (49) = Z1 (49) → (∀ j : Nat, j < i → CFs (70 + 6 * j) Z2 a.1) → TZ (d + 9) 125 2 [some (.inr 0), some (.inr 46), some (.inl x)] [] Z2 (zrv Q) from H 5 0 0 Z1 rfl rfl f1 rfl rfl rfl (fun j hj => absurd hj (Nat.not_lt_zero j))
  intro f
  induction f with
  | zero =>
    intro i x Z2 hi hx f2 q0 q2 q3 hf
    refine w125_2_46 ⟨by unfold zR; omega, fun _ => F_seek46 (d := d) hp ho wx 4 (i := 0) (K := 0) rfl rfl ⟨f2, fun j hj => ?_, fun j hj => ⟨_, _, hf j (by omega)⟩, fun j hj => absurd hj (Nat.not_lt_zero j)⟩ (by rw [q0, q2, q3]; exact j) fun Z3 m3 j3 => hQ Z3 m3.1 j3, fun y => absurd (show 5 ≤ x by omega) y⟩
    have ej : j = 0 := by omega
    subst ej
    rw [gwy_0]
    exact hf 0 (by omega)
  | succ f ih =>
    intro i x Z2 hi hx f2 q0 q2 q3 hf
    refine w125_2_46 ⟨by unfold zR; omega, fun y => absurd y (by omega), fun _ => ⟨70 + 6 * i, zati (by omega) hx, zFi (by omega), C_become (k2 := 1) (n := a.1.1) (W := a.1.2.1) (h := a.1.2.2.1) (K := a.1.2.2.2.1) (F := a.1.2.2.2.2.1) (P := a.1.2.2.2.2.2.1) (T := a.1.2.2.2.2.2.2) (zFi (by omega)) zF1 (by omega) (CFf (k := 0) A.1 f2) hn.2 fun Z6 C6 f6 => ih (i + 1) _ Z6 (by omega) (by omega) (fun c hc => by rw [f6 c (by unfold SQ at hc; omega), f2 c hc]) (by rw [f6 46 (by omega)]; exact q0) (by rw [f6 (48) (by omega)]; exact q2) (by rw [f6 (49) (by omega)]; exact q3) fun j hj => ?_⟩⟩
    by_cases e : j = i
    · subst e; exact C6
    · exact CF.keep (hf j (by omega)) fun c u v => f6 c (by omega)
theorem F_seek50 {J J' : gJ} (hp : QP a J J') (ho : ∀ d, QO 50 39 d Z a J J') (wx : WX a) : ∀ (f : Nat) {i K : Nat} {x : Int} {Z1 : zM} {Q : zM → Prop}, i + f = 4 → x = i → QX 50 Z Z1 a i K → J i K (Z1 50) (Z1 (52)) (Z1 (53)) → (∀ Z2, QX 50 Z Z2 a i K → J' i K (Z2 50) (Z2 (52)) (Z2 (53)) → Q Z2) → TV (d + f + 4) 124 [.inr 50, .inr 25, .inl x] Z1 Q := by
  have bB := gB_b wx
  have hn : 0 ≤ a.1.1 ∧ a.1.1 ≤ 8 := wx.1.1.1
  have hW : 5 ≤ a.1.2.1 ∧ a.1.2.1 ≤ 6 := wx.1.1.2.1
  have hh := wx.1.2
  intro f
  induction f with
  | zero =>
    intro i K x Z1 Q hi hx m j hQ
    refine w124_0_50 ⟨by unfold zR; omega, fun c => by omega, fun _ => ⟨70 + 6 * i, zati (by omega) hx, zFi (by omega), ho (d + 0) i K x Z1 _ (by omega) hx m j fun r Z2 m2 hr => ?_⟩⟩
    rcases hr with ⟨r0, j2⟩ | ⟨r1, i4, j2⟩
    · subst r0
      exact ⟨by decide, fun _ => hQ Z2 m2 j2, fun c => absurd rfl c⟩
    · omega
  | succ f ihf =>
    intro i K x Z1 Q hi hx m j hQ
    refine w124_0_50 ⟨by unfold zR; omega, fun c => by omega, fun _ => ⟨70 + 6 * i, zati (by omega) hx, zFi (by omega), ho (d + f + 1) i K x Z1 _ (by omega) hx m j fun r Z2 m2 hr => ?_⟩⟩
    rcases hr with ⟨r0, j2⟩ | ⟨r1, i4, j2⟩
    · subst r0
      exact ⟨by decide, fun _ => hQ Z2 m2 j2, fun c => absurd rfl c⟩
    · subst r1
      refine ⟨by decide, fun c => absurd c (by decide), fun _ => ⟨by unfold zR; omega, fun _ => ⟨70 + 6 * i, zati (by omega) hx, zFi (by omega), 70 + 6 * (i + 1), zati (by omega) (by omega), zFi (by omega), ?_⟩, fun c => by omega⟩⟩
      suffices H : ∀ (g x' : Nat) (x5 : Int) (Z1 : zM), x5 = (x' : Int) - 1 → g = gB a - x' → x' ≤ gB a → QX 50 Z Z1 a i K → (x' < gB a → J (i + 1) (K * gB a + x') (Z1 50) (Z1 (52)) (Z1 (53))) → (x' = gB a → J' i K (Z1 50) (Z1 (52)) (Z1 (53))) → TZ (d + f + 4 + 1) 124 36 [some (.inr 50), some (.inr 25), some (.inl x), some (.inr (70 + 6 * i)), some (.inr (70 + 6 * (i + 1))), some (.inl x5)] [] Z1 (zrv Q) from H _ 0 (-1) Z2 rfl rfl (by omega) m2 (fun _ => j2) (fun e => by omega)
      intro g
      induction g with
      | zero =>
        intro x' x5 Z1 e5 y1 y2 m1 k1 k2
        have C1 := m1.2.1 i (by omega)
        have e6 : Z1 (70 + 6 * i) 6 = a.1.2.1 := C1.2.1
        exact w124_36_50 (zFi (by omega)) (zFi (by omega)) ⟨by unfold zR; omega, by unfold zR; omega, fun _ => hQ Z1 m1 (k2 (by omega)), fun y => absurd (show Z1 (70 + 6 * i) 6 ≤ x5 by omega) y⟩
      | succ g ih =>
        intro x' x5 Z1 e5 y1 y2 m1 k1 k2
        have C1 := m1.2.1 i (by omega)
        rw [Nat.sub_self] at C1
        have C1 : CFs (70 + 6 * i) Z1 (gwy a i K) := C1
        have e6 : Z1 (70 + 6 * i) 6 = a.1.2.1 := C1.2.1
        refine w124_36_50 (zFi (by omega)) (zFi (by omega)) ⟨by unfold zR; omega, by unfold zR; omega, fun c => by omega, fun y => ⟨by omega, fun Z5 z5 => ?_⟩⟩
        have z5 : Z5 = zup Z1 (51) i (x5 + 1) := by rw [← hx]; exact z5
        have c5 : ∀ c, c ≠ 51 → Z5 c = Z1 c := fun c hc => by rw [z5]; funext p; exact zup_cell _ _ _ _ hc
        have C2 : CFs (70 + 6 * i) Z5 (gwy a i K) := CF.keep C1 fun c u v => c5 c (by omega)
        obtain ⟨h3, P3, C3'⟩ := m1.2.2.1 (i + 1) (by omega)
        have C3 := CF.keep C3' fun c u v => c5 c (by omega)
        have wi := gwy_wf wx i K (by omega)
        refine C_sitAs (n := a.1.1) (W := a.1.2.1) (K := a.1.2.2.2.1) (F := a.1.2.2.2.2.1) (T := a.1.2.2.2.2.2.2) (h' := a.1.2.2.1 + i) (P' := gwP a i K) (zFi (i := i + 1) (by omega)) (zFi (i := i) (by omega)) (by omega) ⟨C3.1, C3.2.1, fun b u v => ⟨(C3.2.2.2.1 b u v).1, (C3.2.2.2.1 b u v).2.1⟩, fun w u v => (C3.2.2.2.2 w u v).1⟩ C2 hn.2 fun Z6 C6 f6 => C_pass (zFi (i := i + 1) (by omega)) C6 wi (by omega) (by omega) fun Z7 C7 f7 => ?_
        have f67 := f6.trans f7
        have m7 : QX 50 Z Z7 a (i + 1) (K * gB a + x') := QX.child (by omega) e5 (by omega) (by decide) m1 z5 f67 C7
        have q0 : Z7 50 = Z1 50 := by rw [f67 50 (by omega), c5 50 (by decide)]
        have q2 : Z7 (52) = Z1 (52) := by rw [f67 (52) (by omega), c5 (52) (by decide)]
        have q3 : Z7 (53) = Z1 (53) := by rw [f67 (53) (by omega), c5 (53) (by decide)]
        refine ihf (i := i + 1) (K := K * gB a + x') (by omega) (by omega) m7 (by rw [q0, q2, q3]; exact k1 (by omega)) fun Z9 m9 j9 => ih (x' + 1) _ Z9 (by omega) (by omega) (by omega) (QX.down (by omega) m9) (fun c => hp.1 i K x' _ _ _ (by omega) (by omega) j9) fun c => hp.2 i K _ _ _ (by omega) ?_
        rw [show gB a - 1 = x' by omega]
        exact j9
theorem F_open50 {J J' : gJ} {Q : zM → Prop} (A : CX Z a) (wx : WX a) (hp : QP a J J') (ho : ∀ d, QO 50 39 d Z a J J') (f1 : frs SQ Z Z1) (j : J 0 0 (Z1 50) (Z1 (52)) (Z1 (53))) (hQ : ∀ Z2, frs SQ Z Z2 → J' 0 0 (Z2 50) (Z2 (52)) (Z2 (53)) → Q Z2) : TV (d + 9) 125 [.inr 0, .inr 50] Z1 Q := by
  have hn : 0 ≤ a.1.1 ∧ a.1.1 ≤ 8 := wx.1.1.1
  refine w125_0_50 ?_
  suffices H : ∀ (f i : Nat) (x : Int) (Z2 : zM), i + f = 5 → x = i → frs SQ Z Z2 → Z2 50 = Z1 50 → Z2 (52) = Z1 (52) → Z2 (53) = Z1 (53) → (∀ j : Nat, j < i → CFs (70 + 6 * j) Z2 a.1) → TZ (d + 9) 125 2 [some (.inr 0), some (.inr 50), some (.inl x)] [] Z2 (zrv Q) from H 5 0 0 Z1 rfl rfl f1 rfl rfl rfl (fun j hj => absurd hj (Nat.not_lt_zero j))
  intro f
  induction f with
  | zero =>
    intro i x Z2 hi hx f2 q0 q2 q3 hf
    refine w125_2_50 ⟨by unfold zR; omega, fun _ => F_seek50 (d := d) hp ho wx 4 (i := 0) (K := 0) rfl rfl ⟨f2, fun j hj => ?_, fun j hj => ⟨_, _, hf j (by omega)⟩, fun j hj => absurd hj (Nat.not_lt_zero j)⟩ (by rw [q0, q2, q3]; exact j) fun Z3 m3 j3 => hQ Z3 m3.1 j3, fun y => absurd (show 5 ≤ x by omega) y⟩
    have ej : j = 0 := by omega
    subst ej
    rw [gwy_0]
    exact hf 0 (by omega)
  | succ f ih =>
    intro i x Z2 hi hx f2 q0 q2 q3 hf
    refine w125_2_50 ⟨by unfold zR; omega, fun y => absurd y (by omega), fun _ => ⟨70 + 6 * i, zati (by omega) hx, zFi (by omega), C_become (k2 := 1) (n := a.1.1) (W := a.1.2.1) (h := a.1.2.2.1) (K := a.1.2.2.2.1) (F := a.1.2.2.2.2.1) (P := a.1.2.2.2.2.2.1) (T := a.1.2.2.2.2.2.2) (zFi (by omega)) zF1 (by omega) (CFf (k := 0) A.1 f2) hn.2 fun Z6 C6 f6 => ih (i + 1) _ Z6 (by omega) (by omega) (fun c hc => by rw [f6 c (by unfold SQ at hc; omega), f2 c hc]) (by rw [f6 50 (by omega)]; exact q0) (by rw [f6 (52) (by omega)]; exact q2) (by rw [f6 (53) (by omega)]; exact q3) fun j hj => ?_⟩⟩
    by_cases e : j = i
    · subst e; exact C6
    · exact CF.keep (hf j (by omega)) fun c u v => f6 c (by omega)
theorem F_seek54 {J J' : gJ} (hp : QP a J J') (ho : ∀ d, QO 54 8 d Z a J J') (wx : WX a) : ∀ (f : Nat) {i K : Nat} {x : Int} {Z1 : zM} {Q : zM → Prop}, i + f = 4 → x = i → QX 54 Z Z1 a i K → J i K (Z1 54) (Z1 (56)) (Z1 (57)) → (∀ Z2, QX 54 Z Z2 a i K → J' i K (Z2 54) (Z2 (56)) (Z2 (57)) → Q Z2) → TV (d + f + 4) 124 [.inr 54, .inr 25, .inl x] Z1 Q := by
  have bB := gB_b wx
  have hn : 0 ≤ a.1.1 ∧ a.1.1 ≤ 8 := wx.1.1.1
  have hW : 5 ≤ a.1.2.1 ∧ a.1.2.1 ≤ 6 := wx.1.1.2.1
  have hh := wx.1.2
  intro f
  induction f with
  | zero =>
    intro i K x Z1 Q hi hx m j hQ
    refine w124_0_54 ⟨by unfold zR; omega, fun c => by omega, fun _ => ⟨70 + 6 * i, zati (by omega) hx, zFi (by omega), ho (d + 0) i K x Z1 _ (by omega) hx m j fun r Z2 m2 hr => ?_⟩⟩
    rcases hr with ⟨r0, j2⟩ | ⟨r1, i4, j2⟩
    · subst r0
      exact ⟨by decide, fun _ => hQ Z2 m2 j2, fun c => absurd rfl c⟩
    · omega
  | succ f ihf =>
    intro i K x Z1 Q hi hx m j hQ
    refine w124_0_54 ⟨by unfold zR; omega, fun c => by omega, fun _ => ⟨70 + 6 * i, zati (by omega) hx, zFi (by omega), ho (d + f + 1) i K x Z1 _ (by omega) hx m j fun r Z2 m2 hr => ?_⟩⟩
    rcases hr with ⟨r0, j2⟩ | ⟨r1, i4, j2⟩
    · subst r0
      exact ⟨by decide, fun _ => hQ Z2 m2 j2, fun c => absurd rfl c⟩
    · subst r1
      refine ⟨by decide, fun c => absurd c (by decide), fun _ => ⟨by unfold zR; omega, fun _ => ⟨70 + 6 * i, zati (by omega) hx, zFi (by omega), 70 + 6 * (i + 1), zati (by omega) (by omega), zFi (by omega), ?_⟩, fun c => by omega⟩⟩
      suffices H : ∀ (g x' : Nat) (x5 : Int) (Z1 : zM), x5 = (x' : Int) - 1 → g = gB a - x' → x' ≤ gB a → QX 54 Z Z1 a i K → (x' < gB a → J (i + 1) (K * gB a + x') (Z1 54) (Z1 (56)) (Z1 (57))) → (x' = gB a → J' i K (Z1 54) (Z1 (56)) (Z1 (57))) → TZ (d + f + 4 + 1) 124 36 [some (.inr 54), some (.inr 25), some (.inl x), some (.inr (70 + 6 * i)), some (.inr (70 + 6 * (i + 1))), some (.inl x5)] [] Z1 (zrv Q) from H _ 0 (-1) Z2 rfl rfl (by omega) m2 (fun _ => j2) (fun e => by omega)
      intro g
      induction g with
      | zero =>
        intro x' x5 Z1 e5 y1 y2 m1 k1 k2
        have C1 := m1.2.1 i (by omega)
        have e6 : Z1 (70 + 6 * i) 6 = a.1.2.1 := C1.2.1
        exact w124_36_54 (zFi (by omega)) (zFi (by omega)) ⟨by unfold zR; omega, by unfold zR; omega, fun _ => hQ Z1 m1 (k2 (by omega)), fun y => absurd (show Z1 (70 + 6 * i) 6 ≤ x5 by omega) y⟩
      | succ g ih =>
        intro x' x5 Z1 e5 y1 y2 m1 k1 k2
        have C1 := m1.2.1 i (by omega)
        rw [Nat.sub_self] at C1
        have C1 : CFs (70 + 6 * i) Z1 (gwy a i K) := C1
        have e6 : Z1 (70 + 6 * i) 6 = a.1.2.1 := C1.2.1
        refine w124_36_54 (zFi (by omega)) (zFi (by omega)) ⟨by unfold zR; omega, by unfold zR; omega, fun c => by omega, fun y => ⟨by omega, fun Z5 z5 => ?_⟩⟩
        have z5 : Z5 = zup Z1 (55) i (x5 + 1) := by rw [← hx]; exact z5
        have c5 : ∀ c, c ≠ 55 → Z5 c = Z1 c := fun c hc => by rw [z5]; funext p; exact zup_cell _ _ _ _ hc
        have C2 : CFs (70 + 6 * i) Z5 (gwy a i K) := CF.keep C1 fun c u v => c5 c (by omega)
        obtain ⟨h3, P3, C3'⟩ := m1.2.2.1 (i + 1) (by omega)
        have C3 := CF.keep C3' fun c u v => c5 c (by omega)
        have wi := gwy_wf wx i K (by omega)
        refine C_sitAs (n := a.1.1) (W := a.1.2.1) (K := a.1.2.2.2.1) (F := a.1.2.2.2.2.1) (T := a.1.2.2.2.2.2.2) (h' := a.1.2.2.1 + i) (P' := gwP a i K) (zFi (i := i + 1) (by omega)) (zFi (i := i) (by omega)) (by omega) ⟨C3.1, C3.2.1, fun b u v => ⟨(C3.2.2.2.1 b u v).1, (C3.2.2.2.1 b u v).2.1⟩, fun w u v => (C3.2.2.2.2 w u v).1⟩ C2 hn.2 fun Z6 C6 f6 => C_pass (zFi (i := i + 1) (by omega)) C6 wi (by omega) (by omega) fun Z7 C7 f7 => ?_
        have f67 := f6.trans f7
        have m7 : QX 54 Z Z7 a (i + 1) (K * gB a + x') := QX.child (by omega) e5 (by omega) (by decide) m1 z5 f67 C7
        have q0 : Z7 54 = Z1 54 := by rw [f67 54 (by omega), c5 54 (by decide)]
        have q2 : Z7 (56) = Z1 (56) := by rw [f67 (56) (by omega), c5 (56) (by decide)]
        have q3 : Z7 (57) = Z1 (57) := by rw [f67 (57) (by omega), c5 (57) (by decide)]
        refine ihf (i := i + 1) (K := K * gB a + x') (by omega) (by omega) m7 (by rw [q0, q2, q3]; exact k1 (by omega)) fun Z9 m9 j9 => ih (x' + 1) _ Z9 (by omega) (by omega) (by omega) (QX.down (by omega) m9) (fun c => hp.1 i K x' _ _ _ (by omega) (by omega) j9) fun c => hp.2 i K _ _ _ (by omega) ?_
        rw [show gB a - 1 = x' by omega]
        exact j9
theorem F_open54 {J J' : gJ} {Q : zM → Prop} (A : CX Z a) (wx : WX a) (hp : QP a J J') (ho : ∀ d, QO 54 8 d Z a J J') (f1 : frs SQ Z Z1) (j : J 0 0 (Z1 54) (Z1 (56)) (Z1 (57))) (hQ : ∀ Z2, frs SQ Z Z2 → J' 0 0 (Z2 54) (Z2 (56)) (Z2 (57)) → Q Z2) : TV (d + 9) 125 [.inr 0, .inr 54] Z1 Q := by
  have hn : 0 ≤ a.1.1 ∧ a.1.1 ≤ 8 := wx.1.1.1
  refine w125_0_54 ?_
  suffices H : ∀ (f i : Nat) (x : Int) (Z2 : zM), i + f = 5 → x = i → frs SQ Z Z2 → Z2 54 = Z1 54 → Z2 (56) = Z1 (56) → Z2 (57) = Z1 (57) → (∀ j : Nat, j < i → CFs (70 + 6 * j) Z2 a.1) → TZ (d + 9) 125 2 [some (.inr 0), some (.inr 54), some (.inl x)] [] Z2 (zrv Q) from H 5 0 0 Z1 rfl rfl f1 rfl rfl rfl (fun j hj => absurd hj (Nat.not_lt_zero j))
  intro f
  induction f with
  | zero =>
    intro i x Z2 hi hx f2 q0 q2 q3 hf
    refine w125_2_54 ⟨by unfold zR; omega, fun _ => F_seek54 (d := d) hp ho wx 4 (i := 0) (K := 0) rfl rfl ⟨f2, fun j hj => ?_, fun j hj => ⟨_, _, hf j (by omega)⟩, fun j hj => absurd hj (Nat.not_lt_zero j)⟩ (by rw [q0, q2, q3]; exact j) fun Z3 m3 j3 => hQ Z3 m3.1 j3, fun y => absurd (show 5 ≤ x by omega) y⟩
    have ej : j = 0 := by omega
    subst ej
    rw [gwy_0]
    exact hf 0 (by omega)
  | succ f ih =>
    intro i x Z2 hi hx f2 q0 q2 q3 hf
    refine w125_2_54 ⟨by unfold zR; omega, fun y => absurd y (by omega), fun _ => ⟨70 + 6 * i, zati (by omega) hx, zFi (by omega), C_become (k2 := 1) (n := a.1.1) (W := a.1.2.1) (h := a.1.2.2.1) (K := a.1.2.2.2.1) (F := a.1.2.2.2.2.1) (P := a.1.2.2.2.2.2.1) (T := a.1.2.2.2.2.2.2) (zFi (by omega)) zF1 (by omega) (CFf (k := 0) A.1 f2) hn.2 fun Z6 C6 f6 => ih (i + 1) _ Z6 (by omega) (by omega) (fun c hc => by rw [f6 c (by unfold SQ at hc; omega), f2 c hc]) (by rw [f6 54 (by omega)]; exact q0) (by rw [f6 (56) (by omega)]; exact q2) (by rw [f6 (57) (by omega)]; exact q3) fun j hj => ?_⟩⟩
    by_cases e : j = i
    · subst e; exact C6
    · exact CF.keep (hf j (by omega)) fun c u v => f6 c (by omega)
theorem F_seek58 {J J' : gJ} (hp : QP a J J') (ho : ∀ d, QO 58 43 d Z a J J') (wx : WX a) : ∀ (f : Nat) {i K : Nat} {x : Int} {Z1 : zM} {Q : zM → Prop}, i + f = 4 → x = i → QX 58 Z Z1 a i K → J i K (Z1 58) (Z1 (60)) (Z1 (61)) → (∀ Z2, QX 58 Z Z2 a i K → J' i K (Z2 58) (Z2 (60)) (Z2 (61)) → Q Z2) → TV (d + f + 4) 124 [.inr 58, .inr 25, .inl x] Z1 Q := by
  have bB := gB_b wx
  have hn : 0 ≤ a.1.1 ∧ a.1.1 ≤ 8 := wx.1.1.1
  have hW : 5 ≤ a.1.2.1 ∧ a.1.2.1 ≤ 6 := wx.1.1.2.1
  have hh := wx.1.2
  intro f
  induction f with
  | zero =>
    intro i K x Z1 Q hi hx m j hQ
    refine w124_0_58 ⟨by unfold zR; omega, fun c => by omega, fun _ => ⟨70 + 6 * i, zati (by omega) hx, zFi (by omega), ho (d + 0) i K x Z1 _ (by omega) hx m j fun r Z2 m2 hr => ?_⟩⟩
    rcases hr with ⟨r0, j2⟩ | ⟨r1, i4, j2⟩
    · subst r0
      exact ⟨by decide, fun _ => hQ Z2 m2 j2, fun c => absurd rfl c⟩
    · omega
  | succ f ihf =>
    intro i K x Z1 Q hi hx m j hQ
    refine w124_0_58 ⟨by unfold zR; omega, fun c => by omega, fun _ => ⟨70 + 6 * i, zati (by omega) hx, zFi (by omega), ho (d + f + 1) i K x Z1 _ (by omega) hx m j fun r Z2 m2 hr => ?_⟩⟩
    rcases hr with ⟨r0, j2⟩ | ⟨r1, i4, j2⟩
    · subst r0
      exact ⟨by decide, fun _ => hQ Z2 m2 j2, fun c => absurd rfl c⟩
    · subst r1
      refine ⟨by decide, fun c => absurd c (by decide), fun _ => ⟨by unfold zR; omega, fun _ => ⟨70 + 6 * i, zati (by omega) hx, zFi (by omega), 70 + 6 * (i + 1), zati (by omega) (by omega), zFi (by omega), ?_⟩, fun c => by omega⟩⟩
      suffices H : ∀ (g x' : Nat) (x5 : Int) (Z1 : zM), x5 = (x' : Int) - 1 → g = gB a - x' → x' ≤ gB a → QX 58 Z Z1 a i K → (x' < gB a → J (i + 1) (K * gB a + x') (Z1 58) (Z1 (60)) (Z1 (61))) → (x' = gB a → J' i K (Z1 58) (Z1 (60)) (Z1 (61))) → TZ (d + f + 4 + 1) 124 36 [some (.inr 58), some (.inr 25), some (.inl x), some (.inr (70 + 6 * i)), some (.inr (70 + 6 * (i + 1))), some (.inl x5)] [] Z1 (zrv Q) from H _ 0 (-1) Z2 rfl rfl (by omega) m2 (fun _ => j2) (fun e => by omega)
      intro g
      induction g with
      | zero =>
        intro x' x5 Z1 e5 y1 y2 m1 k1 k2
        have C1 := m1.2.1 i (by omega)
        have e6 : Z1 (70 + 6 * i) 6 = a.1.2.1 := C1.2.1
        exact w124_36_58 (zFi (by omega)) (zFi (by omega)) ⟨by unfold zR; omega, by unfold zR; omega, fun _ => hQ Z1 m1 (k2 (by omega)), fun y => absurd (show Z1 (70 + 6 * i) 6 ≤ x5 by omega) y⟩
      | succ g ih =>
        intro x' x5 Z1 e5 y1 y2 m1 k1 k2
        have C1 := m1.2.1 i (by omega)
        rw [Nat.sub_self] at C1
        have C1 : CFs (70 + 6 * i) Z1 (gwy a i K) := C1
        have e6 : Z1 (70 + 6 * i) 6 = a.1.2.1 := C1.2.1
        refine w124_36_58 (zFi (by omega)) (zFi (by omega)) ⟨by unfold zR; omega, by unfold zR; omega, fun c => by omega, fun y => ⟨by omega, fun Z5 z5 => ?_⟩⟩
        have z5 : Z5 = zup Z1 (59) i (x5 + 1) := by rw [← hx]; exact z5
        have c5 : ∀ c, c ≠ 59 → Z5 c = Z1 c := fun c hc => by rw [z5]; funext p; exact zup_cell _ _ _ _ hc
        have C2 : CFs (70 + 6 * i) Z5 (gwy a i K) := CF.keep C1 fun c u v => c5 c (by omega)
        obtain ⟨h3, P3, C3'⟩ := m1.2.2.1 (i + 1) (by omega)
        have C3 := CF.keep C3' fun c u v => c5 c (by omega)
        have wi := gwy_wf wx i K (by omega)
        refine C_sitAs (n := a.1.1) (W := a.1.2.1) (K := a.1.2.2.2.1) (F := a.1.2.2.2.2.1) (T := a.1.2.2.2.2.2.2) (h' := a.1.2.2.1 + i) (P' := gwP a i K) (zFi (i := i + 1) (by omega)) (zFi (i := i) (by omega)) (by omega) ⟨C3.1, C3.2.1, fun b u v => ⟨(C3.2.2.2.1 b u v).1, (C3.2.2.2.1 b u v).2.1⟩, fun w u v => (C3.2.2.2.2 w u v).1⟩ C2 hn.2 fun Z6 C6 f6 => C_pass (zFi (i := i + 1) (by omega)) C6 wi (by omega) (by omega) fun Z7 C7 f7 => ?_
        have f67 := f6.trans f7
        have m7 : QX 58 Z Z7 a (i + 1) (K * gB a + x') := QX.child (by omega) e5 (by omega) (by decide) m1 z5 f67 C7
        have q0 : Z7 58 = Z1 58 := by rw [f67 58 (by omega), c5 58 (by decide)]
        have q2 : Z7 (60) = Z1 (60) := by rw [f67 (60) (by omega), c5 (60) (by decide)]
        have q3 : Z7 (61) = Z1 (61) := by rw [f67 (61) (by omega), c5 (61) (by decide)]
        refine ihf (i := i + 1) (K := K * gB a + x') (by omega) (by omega) m7 (by rw [q0, q2, q3]; exact k1 (by omega)) fun Z9 m9 j9 => ih (x' + 1) _ Z9 (by omega) (by omega) (by omega) (QX.down (by omega) m9) (fun c => hp.1 i K x' _ _ _ (by omega) (by omega) j9) fun c => hp.2 i K _ _ _ (by omega) ?_
        rw [show gB a - 1 = x' by omega]
        exact j9
theorem F_open58 {J J' : gJ} {Q : zM → Prop} (A : CX Z a) (wx : WX a) (hp : QP a J J') (ho : ∀ d, QO 58 43 d Z a J J') (f1 : frs SQ Z Z1) (j : J 0 0 (Z1 58) (Z1 (60)) (Z1 (61))) (hQ : ∀ Z2, frs SQ Z Z2 → J' 0 0 (Z2 58) (Z2 (60)) (Z2 (61)) → Q Z2) : TV (d + 9) 125 [.inr 0, .inr 58] Z1 Q := by
  have hn : 0 ≤ a.1.1 ∧ a.1.1 ≤ 8 := wx.1.1.1
  refine w125_0_58 ?_
  suffices H : ∀ (f i : Nat) (x : Int) (Z2 : zM), i + f = 5 → x = i → frs SQ Z Z2 → Z2 58 = Z1 58 → Z2 (60) = Z1 (60) → Z2 (61) = Z1 (61) → (∀ j : Nat, j < i → CFs (70 + 6 * j) Z2 a.1) → TZ (d + 9) 125 2 [some (.inr 0), some (.inr 58), some (.inl x)] [] Z2 (zrv Q) from H 5 0 0 Z1 rfl rfl f1 rfl rfl rfl (fun j hj => absurd hj (Nat.not_lt_zero j))
  intro f
  induction f with
  | zero =>
    intro i x Z2 hi hx f2 q0 q2 q3 hf
    refine w125_2_58 ⟨by unfold zR; omega, fun _ => F_seek58 (d := d) hp ho wx 4 (i := 0) (K := 0) rfl rfl ⟨f2, fun j hj => ?_, fun j hj => ⟨_, _, hf j (by omega)⟩, fun j hj => absurd hj (Nat.not_lt_zero j)⟩ (by rw [q0, q2, q3]; exact j) fun Z3 m3 j3 => hQ Z3 m3.1 j3, fun y => absurd (show 5 ≤ x by omega) y⟩
    have ej : j = 0 := by omega
    subst ej
    rw [gwy_0]
    exact hf 0 (by omega)
  | succ f ih =>
    intro i x Z2 hi hx f2 q0 q2 q3 hf
    refine w125_2_58 ⟨by unfold zR; omega, fun y => absurd y (by omega), fun _ => ⟨70 + 6 * i, zati (by omega) hx, zFi (by omega), C_become (k2 := 1) (n := a.1.1) (W := a.1.2.1) (h := a.1.2.2.1) (K := a.1.2.2.2.1) (F := a.1.2.2.2.2.1) (P := a.1.2.2.2.2.2.1) (T := a.1.2.2.2.2.2.2) (zFi (by omega)) zF1 (by omega) (CFf (k := 0) A.1 f2) hn.2 fun Z6 C6 f6 => ih (i + 1) _ Z6 (by omega) (by omega) (fun c hc => by rw [f6 c (by unfold SQ at hc; omega), f2 c hc]) (by rw [f6 58 (by omega)]; exact q0) (by rw [f6 (60) (by omega)]; exact q2) (by rw [f6 (61) (by omega)]; exact q3) fun j hj => ?_⟩⟩
    by_cases e : j = i
    · subst e; exact C6
    · exact CF.keep (hf j (by omega)) fun c u v => f6 c (by omega)
theorem F_seek62 {J J' : gJ} (hp : QP a J J') (ho : ∀ d, QO 62 41 d Z a J J') (wx : WX a) : ∀ (f : Nat) {i K : Nat} {x : Int} {Z1 : zM} {Q : zM → Prop}, i + f = 4 → x = i → QX 62 Z Z1 a i K → J i K (Z1 62) (Z1 (64)) (Z1 (65)) → (∀ Z2, QX 62 Z Z2 a i K → J' i K (Z2 62) (Z2 (64)) (Z2 (65)) → Q Z2) → TV (d + f + 4) 124 [.inr 62, .inr 25, .inl x] Z1 Q := by
  have bB := gB_b wx
  have hn : 0 ≤ a.1.1 ∧ a.1.1 ≤ 8 := wx.1.1.1
  have hW : 5 ≤ a.1.2.1 ∧ a.1.2.1 ≤ 6 := wx.1.1.2.1
  have hh := wx.1.2
  intro f
  induction f with
  | zero =>
    intro i K x Z1 Q hi hx m j hQ
    refine w124_0_62 ⟨by unfold zR; omega, fun c => by omega, fun _ => ⟨70 + 6 * i, zati (by omega) hx, zFi (by omega), ho (d + 0) i K x Z1 _ (by omega) hx m j fun r Z2 m2 hr => ?_⟩⟩
    rcases hr with ⟨r0, j2⟩ | ⟨r1, i4, j2⟩
    · subst r0
      exact ⟨by decide, fun _ => hQ Z2 m2 j2, fun c => absurd rfl c⟩
    · omega
  | succ f ihf =>
    intro i K x Z1 Q hi hx m j hQ
    refine w124_0_62 ⟨by unfold zR; omega, fun c => by omega, fun _ => ⟨70 + 6 * i, zati (by omega) hx, zFi (by omega), ho (d + f + 1) i K x Z1 _ (by omega) hx m j fun r Z2 m2 hr => ?_⟩⟩
    rcases hr with ⟨r0, j2⟩ | ⟨r1, i4, j2⟩
    · subst r0
      exact ⟨by decide, fun _ => hQ Z2 m2 j2, fun c => absurd rfl c⟩
    · subst r1
      refine ⟨by decide, fun c => absurd c (by decide), fun _ => ⟨by unfold zR; omega, fun _ => ⟨70 + 6 * i, zati (by omega) hx, zFi (by omega), 70 + 6 * (i + 1), zati (by omega) (by omega), zFi (by omega), ?_⟩, fun c => by omega⟩⟩
      suffices H : ∀ (g x' : Nat) (x5 : Int) (Z1 : zM), x5 = (x' : Int) - 1 → g = gB a - x' → x' ≤ gB a → QX 62 Z Z1 a i K → (x' < gB a → J (i + 1) (K * gB a + x') (Z1 62) (Z1 (64)) (Z1 (65))) → (x' = gB a → J' i K (Z1 62) (Z1 (64)) (Z1 (65))) → TZ (d + f + 4 + 1) 124 36 [some (.inr 62), some (.inr 25), some (.inl x), some (.inr (70 + 6 * i)), some (.inr (70 + 6 * (i + 1))), some (.inl x5)] [] Z1 (zrv Q) from H _ 0 (-1) Z2 rfl rfl (by omega) m2 (fun _ => j2) (fun e => by omega)
      intro g
      induction g with
      | zero =>
        intro x' x5 Z1 e5 y1 y2 m1 k1 k2
        have C1 := m1.2.1 i (by omega)
        have e6 : Z1 (70 + 6 * i) 6 = a.1.2.1 := C1.2.1
        exact w124_36_62 (zFi (by omega)) (zFi (by omega)) ⟨by unfold zR; omega, by unfold zR; omega, fun _ => hQ Z1 m1 (k2 (by omega)), fun y => absurd (show Z1 (70 + 6 * i) 6 ≤ x5 by omega) y⟩
      | succ g ih =>
        intro x' x5 Z1 e5 y1 y2 m1 k1 k2
        have C1 := m1.2.1 i (by omega)
        rw [Nat.sub_self] at C1
        have C1 : CFs (70 + 6 * i) Z1 (gwy a i K) := C1
        have e6 : Z1 (70 + 6 * i) 6 = a.1.2.1 := C1.2.1
        refine w124_36_62 (zFi (by omega)) (zFi (by omega)) ⟨by unfold zR; omega, by unfold zR; omega, fun c => by omega, fun y => ⟨by omega, fun Z5 z5 => ?_⟩⟩
        have z5 : Z5 = zup Z1 (63) i (x5 + 1) := by rw [← hx]; exact z5
        have c5 : ∀ c, c ≠ 63 → Z5 c = Z1 c := fun c hc => by rw [z5]; funext p; exact zup_cell _ _ _ _ hc
        have C2 : CFs (70 + 6 * i) Z5 (gwy a i K) := CF.keep C1 fun c u v => c5 c (by omega)
        obtain ⟨h3, P3, C3'⟩ := m1.2.2.1 (i + 1) (by omega)
        have C3 := CF.keep C3' fun c u v => c5 c (by omega)
        have wi := gwy_wf wx i K (by omega)
        refine C_sitAs (n := a.1.1) (W := a.1.2.1) (K := a.1.2.2.2.1) (F := a.1.2.2.2.2.1) (T := a.1.2.2.2.2.2.2) (h' := a.1.2.2.1 + i) (P' := gwP a i K) (zFi (i := i + 1) (by omega)) (zFi (i := i) (by omega)) (by omega) ⟨C3.1, C3.2.1, fun b u v => ⟨(C3.2.2.2.1 b u v).1, (C3.2.2.2.1 b u v).2.1⟩, fun w u v => (C3.2.2.2.2 w u v).1⟩ C2 hn.2 fun Z6 C6 f6 => C_pass (zFi (i := i + 1) (by omega)) C6 wi (by omega) (by omega) fun Z7 C7 f7 => ?_
        have f67 := f6.trans f7
        have m7 : QX 62 Z Z7 a (i + 1) (K * gB a + x') := QX.child (by omega) e5 (by omega) (by decide) m1 z5 f67 C7
        have q0 : Z7 62 = Z1 62 := by rw [f67 62 (by omega), c5 62 (by decide)]
        have q2 : Z7 (64) = Z1 (64) := by rw [f67 (64) (by omega), c5 (64) (by decide)]
        have q3 : Z7 (65) = Z1 (65) := by rw [f67 (65) (by omega), c5 (65) (by decide)]
        refine ihf (i := i + 1) (K := K * gB a + x') (by omega) (by omega) m7 (by rw [q0, q2, q3]; exact k1 (by omega)) fun Z9 m9 j9 => ih (x' + 1) _ Z9 (by omega) (by omega) (by omega) (QX.down (by omega) m9) (fun c => hp.1 i K x' _ _ _ (by omega) (by omega) j9) fun c => hp.2 i K _ _ _ (by omega) ?_
        rw [show gB a - 1 = x' by omega]
        exact j9
theorem F_open62 {J J' : gJ} {Q : zM → Prop} (A : CX Z a) (wx : WX a) (hp : QP a J J') (ho : ∀ d, QO 62 41 d Z a J J') (f1 : frs SQ Z Z1) (j : J 0 0 (Z1 62) (Z1 (64)) (Z1 (65))) (hQ : ∀ Z2, frs SQ Z Z2 → J' 0 0 (Z2 62) (Z2 (64)) (Z2 (65)) → Q Z2) : TV (d + 9) 125 [.inr 0, .inr 62] Z1 Q := by
  have hn : 0 ≤ a.1.1 ∧ a.1.1 ≤ 8 := wx.1.1.1
  refine w125_0_62 ?_
  suffices H : ∀ (f i : Nat) (x : Int) (Z2 : zM), i + f = 5 → x = i → frs SQ Z Z2 → Z2 62 = Z1 62 → Z2 (64) = Z1 (64) → Z2 (65) = Z1 (65) → (∀ j : Nat, j < i → CFs (70 + 6 * j) Z2 a.1) → TZ (d + 9) 125 2 [some (.inr 0), some (.inr 62), some (.inl x)] [] Z2 (zrv Q) from H 5 0 0 Z1 rfl rfl f1 rfl rfl rfl (fun j hj => absurd hj (Nat.not_lt_zero j))
  intro f
  induction f with
  | zero =>
    intro i x Z2 hi hx f2 q0 q2 q3 hf
    refine w125_2_62 ⟨by unfold zR; omega, fun _ => F_seek62 (d := d) hp ho wx 4 (i := 0) (K := 0) rfl rfl ⟨f2, fun j hj => ?_, fun j hj => ⟨_, _, hf j (by omega)⟩, fun j hj => absurd hj (Nat.not_lt_zero j)⟩ (by rw [q0, q2, q3]; exact j) fun Z3 m3 j3 => hQ Z3 m3.1 j3, fun y => absurd (show 5 ≤ x by omega) y⟩
    have ej : j = 0 := by omega
    subst ej
    rw [gwy_0]
    exact hf 0 (by omega)
  | succ f ih =>
    intro i x Z2 hi hx f2 q0 q2 q3 hf
    refine w125_2_62 ⟨by unfold zR; omega, fun y => absurd y (by omega), fun _ => ⟨70 + 6 * i, zati (by omega) hx, zFi (by omega), C_become (k2 := 1) (n := a.1.1) (W := a.1.2.1) (h := a.1.2.2.1) (K := a.1.2.2.2.1) (F := a.1.2.2.2.2.1) (P := a.1.2.2.2.2.2.1) (T := a.1.2.2.2.2.2.2) (zFi (by omega)) zF1 (by omega) (CFf (k := 0) A.1 f2) hn.2 fun Z6 C6 f6 => ih (i + 1) _ Z6 (by omega) (by omega) (fun c hc => by rw [f6 c (by unfold SQ at hc; omega), f2 c hc]) (by rw [f6 62 (by omega)]; exact q0) (by rw [f6 (64) (by omega)]; exact q2) (by rw [f6 (65) (by omega)]; exact q3) fun j hj => ?_⟩⟩
    by_cases e : j = i
    · subst e; exact C6
    · exact CF.keep (hf j (by omega)) fun c u v => f6 c (by omega)
theorem F_seek66 {J J' : gJ} (hp : QP a J J') (ho : ∀ d, QO 66 37 d Z a J J') (wx : WX a) : ∀ (f : Nat) {i K : Nat} {x : Int} {Z1 : zM} {Q : zM → Prop}, i + f = 4 → x = i → QX 66 Z Z1 a i K → J i K (Z1 66) (Z1 (68)) (Z1 (69)) → (∀ Z2, QX 66 Z Z2 a i K → J' i K (Z2 66) (Z2 (68)) (Z2 (69)) → Q Z2) → TV (d + f + 4) 124 [.inr 66, .inr 25, .inl x] Z1 Q := by
  have bB := gB_b wx
  have hn : 0 ≤ a.1.1 ∧ a.1.1 ≤ 8 := wx.1.1.1
  have hW : 5 ≤ a.1.2.1 ∧ a.1.2.1 ≤ 6 := wx.1.1.2.1
  have hh := wx.1.2
  intro f
  induction f with
  | zero =>
    intro i K x Z1 Q hi hx m j hQ
    refine w124_0_66 ⟨by unfold zR; omega, fun c => by omega, fun _ => ⟨70 + 6 * i, zati (by omega) hx, zFi (by omega), ho (d + 0) i K x Z1 _ (by omega) hx m j fun r Z2 m2 hr => ?_⟩⟩
    rcases hr with ⟨r0, j2⟩ | ⟨r1, i4, j2⟩
    · subst r0
      exact ⟨by decide, fun _ => hQ Z2 m2 j2, fun c => absurd rfl c⟩
    · omega
  | succ f ihf =>
    intro i K x Z1 Q hi hx m j hQ
    refine w124_0_66 ⟨by unfold zR; omega, fun c => by omega, fun _ => ⟨70 + 6 * i, zati (by omega) hx, zFi (by omega), ho (d + f + 1) i K x Z1 _ (by omega) hx m j fun r Z2 m2 hr => ?_⟩⟩
    rcases hr with ⟨r0, j2⟩ | ⟨r1, i4, j2⟩
    · subst r0
      exact ⟨by decide, fun _ => hQ Z2 m2 j2, fun c => absurd rfl c⟩
    · subst r1
      refine ⟨by decide, fun c => absurd c (by decide), fun _ => ⟨by unfold zR; omega, fun _ => ⟨70 + 6 * i, zati (by omega) hx, zFi (by omega), 70 + 6 * (i + 1), zati (by omega) (by omega), zFi (by omega), ?_⟩, fun c => by omega⟩⟩
      suffices H : ∀ (g x' : Nat) (x5 : Int) (Z1 : zM), x5 = (x' : Int) - 1 → g = gB a - x' → x' ≤ gB a → QX 66 Z Z1 a i K → (x' < gB a → J (i + 1) (K * gB a + x') (Z1 66) (Z1 (68)) (Z1 (69))) → (x' = gB a → J' i K (Z1 66) (Z1 (68)) (Z1 (69))) → TZ (d + f + 4 + 1) 124 36 [some (.inr 66), some (.inr 25), some (.inl x), some (.inr (70 + 6 * i)), some (.inr (70 + 6 * (i + 1))), some (.inl x5)] [] Z1 (zrv Q) from H _ 0 (-1) Z2 rfl rfl (by omega) m2 (fun _ => j2) (fun e => by omega)
      intro g
      induction g with
      | zero =>
        intro x' x5 Z1 e5 y1 y2 m1 k1 k2
        have C1 := m1.2.1 i (by omega)
        have e6 : Z1 (70 + 6 * i) 6 = a.1.2.1 := C1.2.1
        exact w124_36_66 (zFi (by omega)) (zFi (by omega)) ⟨by unfold zR; omega, by unfold zR; omega, fun _ => hQ Z1 m1 (k2 (by omega)), fun y => absurd (show Z1 (70 + 6 * i) 6 ≤ x5 by omega) y⟩
      | succ g ih =>
        intro x' x5 Z1 e5 y1 y2 m1 k1 k2
        have C1 := m1.2.1 i (by omega)
        rw [Nat.sub_self] at C1
        have C1 : CFs (70 + 6 * i) Z1 (gwy a i K) := C1
        have e6 : Z1 (70 + 6 * i) 6 = a.1.2.1 := C1.2.1
        refine w124_36_66 (zFi (by omega)) (zFi (by omega)) ⟨by unfold zR; omega, by unfold zR; omega, fun c => by omega, fun y => ⟨by omega, fun Z5 z5 => ?_⟩⟩
        have z5 : Z5 = zup Z1 (67) i (x5 + 1) := by rw [← hx]; exact z5
        have c5 : ∀ c, c ≠ 67 → Z5 c = Z1 c := fun c hc => by rw [z5]; funext p; exact zup_cell _ _ _ _ hc
        have C2 : CFs (70 + 6 * i) Z5 (gwy a i K) := CF.keep C1 fun c u v => c5 c (by omega)
        obtain ⟨h3, P3, C3'⟩ := m1.2.2.1 (i + 1) (by omega)
        have C3 := CF.keep C3' fun c u v => c5 c (by omega)
        have wi := gwy_wf wx i K (by omega)
        refine C_sitAs (n := a.1.1) (W := a.1.2.1) (K := a.1.2.2.2.1) (F := a.1.2.2.2.2.1) (T := a.1.2.2.2.2.2.2) (h' := a.1.2.2.1 + i) (P' := gwP a i K) (zFi (i := i + 1) (by omega)) (zFi (i := i) (by omega)) (by omega) ⟨C3.1, C3.2.1, fun b u v => ⟨(C3.2.2.2.1 b u v).1, (C3.2.2.2.1 b u v).2.1⟩, fun w u v => (C3.2.2.2.2 w u v).1⟩ C2 hn.2 fun Z6 C6 f6 => C_pass (zFi (i := i + 1) (by omega)) C6 wi (by omega) (by omega) fun Z7 C7 f7 => ?_
        have f67 := f6.trans f7
        have m7 : QX 66 Z Z7 a (i + 1) (K * gB a + x') := QX.child (by omega) e5 (by omega) (by decide) m1 z5 f67 C7
        have q0 : Z7 66 = Z1 66 := by rw [f67 66 (by omega), c5 66 (by decide)]
        have q2 : Z7 (68) = Z1 (68) := by rw [f67 (68) (by omega), c5 (68) (by decide)]
        have q3 : Z7 (69) = Z1 (69) := by rw [f67 (69) (by omega), c5 (69) (by decide)]
        refine ihf (i := i + 1) (K := K * gB a + x') (by omega) (by omega) m7 (by rw [q0, q2, q3]; exact k1 (by omega)) fun Z9 m9 j9 => ih (x' + 1) _ Z9 (by omega) (by omega) (by omega) (QX.down (by omega) m9) (fun c => hp.1 i K x' _ _ _ (by omega) (by omega) j9) fun c => hp.2 i K _ _ _ (by omega) ?_
        rw [show gB a - 1 = x' by omega]
        exact j9
theorem F_open66 {J J' : gJ} {Q : zM → Prop} (A : CX Z a) (wx : WX a) (hp : QP a J J') (ho : ∀ d, QO 66 37 d Z a J J') (f1 : frs SQ Z Z1) (j : J 0 0 (Z1 66) (Z1 (68)) (Z1 (69))) (hQ : ∀ Z2, frs SQ Z Z2 → J' 0 0 (Z2 66) (Z2 (68)) (Z2 (69)) → Q Z2) : TV (d + 9) 125 [.inr 0, .inr 66] Z1 Q := by
  have hn : 0 ≤ a.1.1 ∧ a.1.1 ≤ 8 := wx.1.1.1
  refine w125_0_66 ?_
  suffices H : ∀ (f i : Nat) (x : Int) (Z2 : zM), i + f = 5 → x = i → frs SQ Z Z2 → Z2 66 = Z1 66 → Z2 (68) = Z1 (68) → Z2 (69) = Z1 (69) → (∀ j : Nat, j < i → CFs (70 + 6 * j) Z2 a.1) → TZ (d + 9) 125 2 [some (.inr 0), some (.inr 66), some (.inl x)] [] Z2 (zrv Q) from H 5 0 0 Z1 rfl rfl f1 rfl rfl rfl (fun j hj => absurd hj (Nat.not_lt_zero j))
  intro f
  induction f with
  | zero =>
    intro i x Z2 hi hx f2 q0 q2 q3 hf
    refine w125_2_66 ⟨by unfold zR; omega, fun _ => F_seek66 (d := d) hp ho wx 4 (i := 0) (K := 0) rfl rfl ⟨f2, fun j hj => ?_, fun j hj => ⟨_, _, hf j (by omega)⟩, fun j hj => absurd hj (Nat.not_lt_zero j)⟩ (by rw [q0, q2, q3]; exact j) fun Z3 m3 j3 => hQ Z3 m3.1 j3, fun y => absurd (show 5 ≤ x by omega) y⟩
    have ej : j = 0 := by omega
    subst ej
    rw [gwy_0]
    exact hf 0 (by omega)
  | succ f ih =>
    intro i x Z2 hi hx f2 q0 q2 q3 hf
    refine w125_2_66 ⟨by unfold zR; omega, fun y => absurd y (by omega), fun _ => ⟨70 + 6 * i, zati (by omega) hx, zFi (by omega), C_become (k2 := 1) (n := a.1.1) (W := a.1.2.1) (h := a.1.2.2.1) (K := a.1.2.2.2.1) (F := a.1.2.2.2.2.1) (P := a.1.2.2.2.2.2.1) (T := a.1.2.2.2.2.2.2) (zFi (by omega)) zF1 (by omega) (CFf (k := 0) A.1 f2) hn.2 fun Z6 C6 f6 => ih (i + 1) _ Z6 (by omega) (by omega) (fun c hc => by rw [f6 c (by unfold SQ at hc; omega), f2 c hc]) (by rw [f6 66 (by omega)]; exact q0) (by rw [f6 (68) (by omega)]; exact q2) (by rw [f6 (69) (by omega)]; exact q3) fun j hj => ?_⟩⟩
    by_cases e : j = i
    · subst e; exact C6
    · exact CF.keep (hf j (by omega)) fun c u v => f6 c (by omega)
end
