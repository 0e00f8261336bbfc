/-! THE CLASS's looks, sixth part: the quests -/
def QW (Z Z1 : zM) (a : gX) (q : Nat) : Prop := frs SQ Z Z1 ∧ (∀ i : Nat, i ≤ 4 → ∃ h P, CF (70 + 6 * i) Z1 a.1.1 a.1.2.1 h a.1.2.2.2.1 a.1.2.2.2.2.1 P a.1.2.2.2.2.2.2 ∧ WF a.1.1 a.1.2.1 h a.1.2.2.2.1 a.1.2.2.2.2.1 P a.1.2.2.2.2.2.2 ∧ h ≤ 999 + i) ∧ (q = 62 → 0 ≤ Z1 62 6 ∧ Z1 62 6 < a.1.1) ∧ (0 ≤ Z1 q 5 ∧ Z1 q 5 ≤ 4)
def ZA (Z1 : zM) : Prop := ∀ (c : Nat) (p : Int), 46 ≤ c → c ≤ 69 → zR (Z1 c p)
def N469 (q : Nat) : Bool := decide (46 ≤ q) && decide (q ≤ 69)
theorem N469_i {q : Nat} : N469 q = true ↔ 46 ≤ q ∧ q ≤ 69 := by simp [N469]
theorem quB {q : Nat} (h : q ∈ zQu) : 46 ≤ q ∧ q ≤ 66 := by
  simp only [zQu, List.mem_cons, List.not_mem_nil, or_false] at h
  omega
theorem zFi {i : Nat} (h : i ≤ 4) : 70 + 6 * i ∈ zFl := by
  rcases (show i = 0 ∨ i = 1 ∨ i = 2 ∨ i = 3 ∨ i = 4 by omega) with e | e | e | e | e <;> subst e <;> decide
theorem zati {i : Nat} {x : Int} (h : i ≤ 4) (e : x = i) : zat 25 x = some (70 + 6 * i) := by
  subst e
  rcases (show i = 0 ∨ i = 1 ∨ i = 2 ∨ i = 3 ∨ i = 4 by omega) with e | e | e | e | e <;> subst e <;> rfl
theorem gchord_r {n : Int} {P : Int → Int} : ∀ m : Nat, zR (gchord n P m)
  | 0 => by unfold gchord; decide
  | m + 1 => by
    unfold gchord
    split
    · exact gchord_r m
    · exact zbit_r _ _ _
theorem TI.nz {d y : Nat} {As : List zV} {Z : zM} {Q : Int → zM → Prop} (h : TI d y As Z (fun r Z' => Q (znm r) Z')) : TI d y As Z Q := by
  obtain ⟨r, Z', h1, x, h2, h3⟩ := h
  subst h2
  refine ⟨some (.inl (znm x)), Z', ?_, _, rfl, h3⟩
  have e : (some (Sum.inl (znm x)) : Option zV).map zv = (some (Sum.inl x) : Option zV).map zv := congrArg some (zv_znm x)
  rw [e]
  exact h1
theorem ZA.up {Z1 : zM} {c : Nat} {p v : Int} (z : ZA Z1) (hv : zR v) : ZA (zup Z1 c p v) := by
  intro c2 p2 h1 h2
  unfold zup
  split
  · split
    · exact hv
    · exact z _ _ h1 h2
  · exact z _ _ h1 h2
theorem ZA.cpy {Z1 : zM} {c k : Nat} {n : Int} (z : ZA Z1) (h : 46 ≤ c ∧ c ≤ 69) : ZA (zcpy Z1 c k n) := by
  intro c2 p2 h1 h2
  unfold zcpy
  split
  · split
    · exact z _ _ h.1 h.2
    · exact z _ _ h1 h2
  · exact z _ _ h1 h2
theorem ZA.nq (Z1 : zM) : ZA (nq N469 Z1) := fun c p h1 h2 => nq_r (N469_i.mpr ⟨h1, h2⟩) p
section
variable {d : Nat} {Z Z1 Z2 : zM} {a : gX} {B : Int} {q : Nat}
theorem QW.scr (m : QW Z Z1 a q) (h : ∀ c, (c < 46 ∨ 69 < c) → Z2 c = Z1 c) (h6 : q = 62 → Z2 62 6 = Z1 62 6) (h5 : 0 ≤ Z2 q 5 ∧ Z2 q 5 ≤ 4) : QW Z Z2 a q := by
  obtain ⟨f, s, l, _⟩ := m
  refine ⟨fun c hc => by rw [h c (by unfold SQ at hc; omega), f c hc], fun i hi => ?_, fun e => by rw [h6 e]; exact l e, h5⟩
  obtain ⟨h', P, C, w, b⟩ := s i hi
  exact ⟨h', P, CF.keep C fun c h1 h2 => h c (by omega), w, b⟩
theorem QW.up {c : Nat} {p v : Int} (m : QW Z Z1 a q) (hc : 46 ≤ c ∧ c ≤ 69) (h6 : q = 62 → c = 62 → p ≠ 6) (h5 : c = q → p ≠ 5) : QW Z (zup Z1 c p v) a q :=
  m.scr (fun c2 h2 => funext fun p2 => zup_cell _ _ _ _ (by omega)) (fun e => by
    by_cases ec : c = 62
    · subst ec; exact zup_place _ _ _ _ (fun h => h6 e rfl h.symm)
    · exact zup_cell _ _ _ _ (fun h => ec h.symm)) (by
    by_cases ec : c = q
    · subst ec; rw [zup_place _ _ _ _ (fun h => h5 rfl h.symm)]; exact m.2.2.2
    · rw [zup_cell _ _ _ _ (fun h => ec h.symm)]; exact m.2.2.2)
theorem QW.norm (wx : WX a) (m : QW Z Z1 a q) (hq : q ∈ zQu) : QW Z (nq N469 Z1) a q := by
  have hn : 0 ≤ a.1.1 ∧ a.1.1 ≤ 8 := wx.1.1.1
  have b := quB hq
  refine m.scr (fun c h => ?_) (fun e => ?_) ?_
  · funext p
    unfold nq
    rw [if_neg fun e => by have := N469_i.mp e; omega]
  · have l := m.2.2.1 e
    unfold nq
    rw [if_pos (by decide)]
    exact znm_e (by unfold zR; omega)
  · have l := m.2.2.2
    unfold nq
    rw [if_pos (N469_i.mpr (by omega)), znm_e (by unfold zR; omega)]
    exact l
theorem QW.step {j : Nat} {h' : Int} {P' : Int → Int} (m : QW Z Z1 a q) (hq : q ∈ zQu) (hj : j ≤ 4) (f : fr (70 + 6 * j) Z1 Z2) (C : CF (70 + 6 * j) Z2 a.1.1 a.1.2.1 h' a.1.2.2.2.1 a.1.2.2.2.2.1 P' a.1.2.2.2.2.2.2) (w : WF a.1.1 a.1.2.1 h' a.1.2.2.2.1 a.1.2.2.2.2.1 P' a.1.2.2.2.2.2.2) (b : h' ≤ 999 + j) : QW Z Z2 a q := by
  have bq := quB hq
  obtain ⟨f0, s, l, l5⟩ := m
  refine ⟨fun c hc => by rw [f c (by unfold SQ at hc; omega), f0 c hc], fun i hi => ?_, fun e => by rw [f 62 (by omega)]; exact l e, by rw [f q (by omega)]; exact l5⟩
  by_cases e : i = j
  · subst e; exact ⟨h', P', C, w, b⟩
  · obtain ⟨h2, P2, C2, w2, b2⟩ := s i hi
    exact ⟨h2, P2, CF.keep C2 fun c h3 h4 => f c (by omega), w2, b2⟩
theorem ZA.fr {j : Nat} (z : ZA Z1) (f : fr (70 + 6 * j) Z1 Z2) : ZA Z2 := fun c p h1 h2 => by
  rw [f c (by omega)]; exact z c p h1 h2
theorem S_52 {x1 x2 : Int} {Q : Int → zM → Prop} (hq : q ∈ zQu) (z : ZA Z1) (h1 : 0 ≤ x1 ∧ x1 ≤ 4) (h2 : zR x2) (hQ : ∀ r, (r = 0 ∨ r = 1) → Q r Z1) : TI d 52 [.inr q, .inl x1, .inl x2] Z1 Q := by
  have b := quB hq
  exact w52_0 hq ⟨by unfold zR; omega, fun _ => hQ 1 (Or.inr rfl), fun _ => ⟨by unfold zR; omega, fun _ => hQ 1 (Or.inr rfl), fun _ => ⟨by omega, z _ _ (by omega) (by omega), h2, fun _ => hQ 0 (Or.inl rfl), fun _ => hQ 1 (Or.inr rfl)⟩⟩⟩
theorem S_53 {x1 x2 : Int} {Q : zM → Prop} (hq : q ∈ zQu) (m : QW Z Z1 a q) (z : ZA Z1) (h1 : zR x1) (h2 : 0 ≤ x2 ∧ x2 ≤ 4) (hQ : ∀ Z', QW Z Z' a q → ZA Z' → Q Z') : TV (d + 1) 53 [.inr q, .inl x1, .inl x2] Z1 Q := by
  have b := quB hq
  refine w53_0 hq fun Z2 e2 => ⟨by unfold zR; omega, fun Z3 e3 => ⟨?_, fun Z5 e5 => hQ Z5 (m.scr (fun c hc => ?_) (fun e => ?_) ?_) ?_⟩⟩
  · rw [e3, zup_same]; omega
  · subst e5 e3 e2; funext p; unfold zcpy; rw [if_neg (by omega), zup_cell _ _ _ _ (by omega), zup_cell _ _ _ _ (by omega)]
  · subst e5 e3 e2; unfold zcpy
    subst e
    rw [if_neg (by decide), zup_place _ _ _ _ (by decide), zup_place _ _ _ _ (by decide)]
  · subst e5; unfold zcpy
    rw [if_neg (by omega), e3, zup_same]; omega
  · subst e5 e3 e2
    exact ((z.up h1).up (by unfold zR; omega)).cpy (by omega)
theorem S_54 {x1 : Int} {Q : Int → zM → Prop} (hq : q ∈ zQu) (h1 : 0 ≤ x1 ∧ x1 ≤ 4) (hQ : ∀ r, zR r → Q r Z1) : TI d 54 [.inr q, .inl x1] Z1 Q := by
  refine TI.nz (w54_0 hq ?_)
  suffices H : ∀ (f : Nat) (x2 x3 : Int), 4 - x3 < f → 0 ≤ x3 → x3 ≤ 4 → TZ d 54 4 [some (.inr q), some (.inl x1), some (.inl x2), some (.inl x3)] [] Z1 (zri (fun r Z' => Q (znm r) Z')) from H 5 0 0 (by decide) (by decide) (by decide)
  intro f
  induction f with
  | zero => intro x2 x3 y1 y2 y3; omega
  | succ f ih => intro x2 x3 y1 y2 y3; exact w54_4 hq ⟨by unfold zR; omega, by unfold zR; omega, fun _ => hQ _ (znm_r _), fun _ => ⟨by unfold zR; omega, fun _ => hQ _ (znm_r _), fun _ => ⟨by omega, ih _ _ (by omega) (by omega) (by omega)⟩⟩⟩
theorem S_55 {Q : Int → zM → Prop} (hq : q ∈ zQu) (z : ZA Z1) (hQ : ∀ r, Q r Z1) : TI d 55 [.inr q] Z1 Q := by
  have b := quB hq
  exact w55_0 hq ⟨z _ _ (by omega) (by omega), fun _ => hQ _, fun _ => hQ _⟩
theorem S_56 {x1 : Int} {Q : Int → zM → Prop} (hq : q ∈ zQu) (m : QW Z Z1 a q) (z : ZA Z1) (h1 : zR x1) (hQ : ∀ r, Q r Z1) : TI d 56 [.inr q, .inl x1] Z1 Q := by
  have b := quB hq
  have l := m.2.2.2
  exact w56_0 hq ⟨h1, fun _ => hQ _, fun _ => ⟨h1, z _ _ (by omega) (by omega), fun _ => hQ _, fun _ => ⟨by omega, hQ _⟩⟩⟩
theorem S_50 {x1 : Int} {Q : zM → Prop} (hq : q ∈ zQu) (hQ : ∀ Z', (∀ c, c ≠ q → Z' c = Z1 c) → Z' q 5 = 0 → Q Z') : TV d 50 [.inr q, .inl x1] Z1 Q := by
  refine w50_0 hq fun Z2 e2 Z3 e3 Z4 e4 => hQ Z4 (fun c hc => ?_) ?_
  · subst e4 e3 e2; funext p; rw [zup_cell _ _ _ _ hc, zup_cell _ _ _ _ hc, zup_cell _ _ _ _ hc]
  · rw [e4, zup_same]
theorem S_51 {Q : zM → Prop} (hq : q ∈ zQu) (hQ : ∀ Z', (∀ c, c ≠ q + 3 → Z' c = Z1 c) → Q Z') : TV (d + 1) 51 [.inr q, .inr 39] Z1 Q :=
  w51_0 hq fun Z2 e2 => hQ Z2 fun c hc => by subst e2; funext p; unfold zcpy; rw [if_neg hc]
theorem V_46 {i : Nat} {x : Int} {Q : Int → zM → Prop} (wx : WX a) (m : QW Z Z1 a 46) (z : ZA Z1) (hi : i ≤ 4) (hx : x = i) (hQ : ∀ r Z2, (r = 0 ∨ r = 1) → QW Z Z2 a 46 → ZA Z2 → Q r Z2) : TI (d + 3) 10 [.inr 46, .inr (70 + 6 * i), .inl x] Z1 Q := by
  have hk := zFi hi
  obtain ⟨h', P', C, wf, hb⟩ := m.2.1 i hi
  have zx : zR x := by unfold zR; omega
  have hn : 0 ≤ a.1.1 ∧ a.1.1 ≤ 8 := wx.1.1.1
  have hW : 5 ≤ a.1.2.1 ∧ a.1.2.1 ≤ 6 := wx.1.1.2.1
  have hq : 46 ∈ zQu := by decide
  exact w10_0 hk (S_54 hq (by omega) fun r hr => ⟨hr, z 46 4 (by decide) (by decide), fun _ => hQ 0 _ (Or.inl rfl) m z, fun _ => ⟨zx, fun _ => ⟨zx, z 46 3 (by decide) (by decide), fun _ => ⟨zx, z 46 3 (by decide) (by decide), fun _ => hQ 0 _ (Or.inl rfl) m z, fun _ => hQ 1 _ (Or.inr rfl) m z⟩, fun _ => S_53 hq m z hr (by omega) fun Z2 m2 z2 => ⟨zx, z2 46 3 (by decide) (by decide), fun _ => hQ 0 _ (Or.inl rfl) m2 z2, fun _ => hQ 1 _ (Or.inr rfl) m2 z2⟩⟩, fun _ => C_errs hk C wf ⟨by have := @gapart_b (gshow a.1.1 a.1.2.1 P' a.1.2.2.2.2.2.2) h'; unfold zR; omega, fun _ => ⟨zx, z 46 3 (by decide) (by decide), fun _ => ⟨zx, z 46 3 (by decide) (by decide), fun _ => hQ 0 _ (Or.inl rfl) m z, fun _ => hQ 1 _ (Or.inr rfl) m z⟩, fun _ => S_53 hq m z hr (by omega) fun Z2 m2 z2 => ⟨zx, z2 46 3 (by decide) (by decide), fun _ => hQ 0 _ (Or.inl rfl) m2 z2, fun _ => hQ 1 _ (Or.inr rfl) m2 z2⟩⟩, fun _ => hQ 0 _ (Or.inl rfl) m z⟩⟩⟩)
theorem V_54 {i : Nat} {x : Int} {Q : Int → zM → Prop} (wx : WX a) (m : QW Z Z1 a 54) (z : ZA Z1) (hi : i ≤ 4) (hx : x = i) (hQ : ∀ r Z2, (r = 0 ∨ r = 1) → QW Z Z2 a 54 → ZA Z2 → Q r Z2) : TI (d + 3) 8 [.inr 54, .inr (70 + 6 * i), .inl x] Z1 Q := by
  have hk := zFi hi
  obtain ⟨h', P', C, wf, hb⟩ := m.2.1 i hi
  have zx : zR x := by unfold zR; omega
  have hn : 0 ≤ a.1.1 ∧ a.1.1 ≤ 8 := wx.1.1.1
  have hW : 5 ≤ a.1.2.1 ∧ a.1.2.1 ≤ 6 := wx.1.1.2.1
  have hq : 54 ∈ zQu := by decide
  exact w8_0 hk ⟨z 54 4 (by decide) (by decide), fun _ => hQ 0 _ (Or.inl rfl) m z, fun _ => C_satOn hk C wf (S_52 hq z (by omega) (gchord_r _) fun r hr => ⟨by unfold zR; omega, fun _ => ⟨zx, z 54 3 (by decide) (by decide), fun _ => ⟨zx, z 54 3 (by decide) (by decide), fun _ => hQ 0 _ (Or.inl rfl) m z, fun _ => hQ 1 _ (Or.inr rfl) m z⟩, fun _ => S_53 hq m z (by decide) (by omega) fun Z2 m2 z2 => ⟨zx, z2 54 3 (by decide) (by decide), fun _ => hQ 0 _ (Or.inl rfl) m2 z2, fun _ => hQ 1 _ (Or.inr rfl) m2 z2⟩⟩, fun _ => hQ 0 _ (Or.inl rfl) m z⟩)⟩
theorem V_66 {i : Nat} {x : Int} {Q : Int → zM → Prop} (wx : WX a) (m : QW Z Z1 a 66) (z : ZA Z1) (hi : i ≤ 4) (hx : x = i) (hQ : ∀ r Z2, (r = 0 ∨ r = 1) → QW Z Z2 a 66 → ZA Z2 → Q r Z2) : TI (d + 3) 37 [.inr 66, .inr (70 + 6 * i), .inl x] Z1 Q := by
  have hk := zFi hi
  obtain ⟨h', P', C, wf, hb⟩ := m.2.1 i hi
  have zx : zR x := by unfold zR; omega
  have hn : 0 ≤ a.1.1 ∧ a.1.1 ≤ 8 := wx.1.1.1
  have hW : 5 ≤ a.1.2.1 ∧ a.1.2.1 ≤ 6 := wx.1.1.2.1
  have hq : 66 ∈ zQu := by decide
  exact w37_0 hk ⟨zx, z 66 4 (by decide) (by decide), fun _ => C_satOn hk C wf (S_bits fun r hr => ⟨hr, z 66 6 (by decide) (by decide), fun _ => ⟨zx, z 66 3 (by decide) (by decide), fun _ => hQ 0 _ (Or.inl rfl) m z, fun _ => hQ 1 _ (Or.inr rfl) m z⟩, fun _ => S_53 hq m z zx (by omega) fun Z2 m2 z2 => hQ 0 _ (Or.inl rfl) m2 z2⟩), fun _ => hQ 0 _ (Or.inl rfl) m z⟩
theorem V_62 {i : Nat} {x : Int} {Q : Int → zM → Prop} (wx : WX a) (m : QW Z Z1 a 62) (z : ZA Z1) (hi : i ≤ 4) (hx : x = i) (hQ : ∀ r Z2, (r = 0 ∨ r = 1) → QW Z Z2 a 62 → ZA Z2 → Q r Z2) : TI (d + 3) 41 [.inr 62, .inr (70 + 6 * i), .inl x] Z1 Q := by
  have hk := zFi hi
  obtain ⟨h', P', C, wf, hb⟩ := m.2.1 i hi
  have zx : zR x := by unfold zR; omega
  have hn : 0 ≤ a.1.1 ∧ a.1.1 ≤ 8 := wx.1.1.1
  have hW : 5 ≤ a.1.2.1 ∧ a.1.2.1 ≤ 6 := wx.1.1.2.1
  have hq : 62 ∈ zQu := by decide
  have l := m.2.2.1 rfl
  have e3 : Z1 (70 + 6 * i + 3) (Z1 62 6) = P' (Z1 62 6) := (C.2.2.2.1 _ l.1 l.2).2.2
  have p3 := (wf.2.2.2.1 _ l.1 l.2).2.2
  exact w41_0 hk ⟨zx, z 62 4 (by decide) (by decide), fun _ => ⟨by omega, by rw [e3]; unfold zR; omega, z 62 7 (by decide) (by decide), fun _ => ⟨zx, z 62 3 (by decide) (by decide), fun _ => hQ 0 _ (Or.inl rfl) m z, fun _ => hQ 1 _ (Or.inr rfl) m z⟩, fun _ => S_53 hq m z zx (by omega) fun Z2 m2 z2 => hQ 0 _ (Or.inl rfl) m2 z2⟩, fun _ => hQ 0 _ (Or.inl rfl) m z⟩
theorem V_50 {i : Nat} {x : Int} {Q : Int → zM → Prop} (wx : WX a) (m : QW Z Z1 a 50) (z : ZA Z1) (hi : i ≤ 4) (hx : x = i) (hQ : ∀ r Z2, (r = 0 ∨ r = 1) → QW Z Z2 a 50 → ZA Z2 → Q r Z2) : TI (d + 3) 39 [.inr 50, .inr (70 + 6 * i), .inl x] Z1 Q := by
  have hk := zFi hi
  obtain ⟨h', P', C, wf, hb⟩ := m.2.1 i hi
  have zx : zR x := by unfold zR; omega
  have hn : 0 ≤ a.1.1 ∧ a.1.1 ≤ 8 := wx.1.1.1
  have hW : 5 ≤ a.1.2.1 ∧ a.1.2.1 ≤ 6 := wx.1.1.2.1
  have hq : 50 ∈ zQu := by decide
  have sb : ∀ Z2 : zM, QW Z Z2 a 50 → zR (Z2 (70 + 6 * i + 4) (Z1 (70 + 6 * i) 6 - 1)) := by
    intro Z2 m2
    obtain ⟨h2, P2, C2, wf2, hb2⟩ := m2.2.1 i hi
    have e : Z2 (70 + 6 * i + 4) (Z1 (70 + 6 * i) 6 - 1) = cnt P2 (Z1 (70 + 6 * i) 6 - 1) a.1.1.toNat := (C2.2.2.2.2 _ (by rw [C.2.1]; omega) (by rw [C.2.1]; omega)).2
    have c := cnt_b P2 (Z1 (70 + 6 * i) 6 - 1) a.1.1.toNat
    rw [e]; unfold zR; omega
  refine w39_0 hk ⟨zx, fun _ => ?_, fun _ Z35 e35 => ?_⟩
  · exact ⟨zx, z 50 3 (by decide) (by decide), fun _ => ⟨zx, z 50 3 (by decide) (by decide), fun _ => hQ 0 _ (Or.inl rfl) m z, fun _ => ⟨by rw [C.1]; unfold zR; omega, z 50 6 (by decide) (by decide), by rw [C.1]; have := z 50 6 (by decide) (by decide); unfold zR at *; omega, fun _ => hQ 0 _ (Or.inl rfl) m z, fun _ => hQ 1 _ (Or.inr rfl) m z⟩⟩, fun _ => C_isWire hk (by rw [C.2.1]; unfold zR; omega) (by rw [C.2.1]; unfold zR; omega) (fun _ => ⟨by decide, fun y => absurd y (by decide), fun _ => ⟨by rw [C.2.1]; omega, z 50 6 (by decide) (by decide), sb Z1 m, fun Z27 e27 => by
      have s := sb Z1 m
      have z6 := z 50 6 (by decide) (by decide)
      have m7 : QW Z Z27 a 50 := by subst e27; exact m.up (by decide) (fun e => absurd e (by decide)) (fun _ => by decide)
      have z7 : ZA Z27 := by subst e27; exact z.up (by unfold zR at *; omega)
      obtain ⟨h7, P7, C7, wf7, hb7⟩ := m7.2.1 i hi
      exact ⟨zx, z7 50 3 (by decide) (by decide), fun _ => hQ 0 _ (Or.inl rfl) m7 z7, fun _ => ⟨by rw [C7.1]; unfold zR; omega, z7 50 6 (by decide) (by decide), by rw [C7.1]; have := z7 50 6 (by decide) (by decide); unfold zR at *; omega, fun _ => hQ 0 _ (Or.inl rfl) m7 z7, fun _ => hQ 1 _ (Or.inr rfl) m7 z7⟩⟩⟩⟩) (fun _ => ⟨by decide, fun _ => ⟨zx, z 50 3 (by decide) (by decide), fun _ => hQ 0 _ (Or.inl rfl) m z, fun _ => ⟨by rw [C.1]; unfold zR; omega, z 50 6 (by decide) (by decide), by rw [C.1]; have := z 50 6 (by decide) (by decide); unfold zR at *; omega, fun _ => hQ 0 _ (Or.inl rfl) m z, fun _ => hQ 1 _ (Or.inr rfl) m z⟩⟩, fun y => absurd rfl y⟩)⟩
  · have m5 : QW Z Z35 a 50 := by subst e35; exact m.up (by decide) (fun e => absurd e (by decide)) (fun _ => by decide)
    have z5 : ZA Z35 := by subst e35; exact z.up (by decide)
    obtain ⟨h5, P5, C5, wf5, hb5⟩ := m5.2.1 i hi
    exact ⟨zx, z5 50 3 (by decide) (by decide), fun _ => ⟨zx, z5 50 3 (by decide) (by decide), fun _ => hQ 0 _ (Or.inl rfl) m5 z5, fun _ => ⟨by rw [C5.1]; unfold zR; omega, z5 50 6 (by decide) (by decide), by rw [C5.1]; have := z5 50 6 (by decide) (by decide); unfold zR at *; omega, fun _ => hQ 0 _ (Or.inl rfl) m5 z5, fun _ => hQ 1 _ (Or.inr rfl) m5 z5⟩⟩, fun _ => C_isWire hk (by rw [C.2.1]; unfold zR; omega) (by rw [C5.2.1]; unfold zR; omega) (fun _ => ⟨by decide, fun y => absurd y (by decide), fun _ => ⟨by rw [C.2.1]; omega, z5 50 6 (by decide) (by decide), sb Z35 m5, fun Z27 e27 => by
      have s := sb Z35 m5
      have z6 := z5 50 6 (by decide) (by decide)
      have m7 : QW Z Z27 a 50 := by subst e27; exact m5.up (by decide) (fun e => absurd e (by decide)) (fun _ => by decide)
      have z7 : ZA Z27 := by subst e27; exact z5.up (by unfold zR at *; omega)
      obtain ⟨h7, P7, C7, wf7, hb7⟩ := m7.2.1 i hi
      exact ⟨zx, z7 50 3 (by decide) (by decide), fun _ => hQ 0 _ (Or.inl rfl) m7 z7, fun _ => ⟨by rw [C7.1]; unfold zR; omega, z7 50 6 (by decide) (by decide), by rw [C7.1]; have := z7 50 6 (by decide) (by decide); unfold zR at *; omega, fun _ => hQ 0 _ (Or.inl rfl) m7 z7, fun _ => hQ 1 _ (Or.inr rfl) m7 z7⟩⟩⟩⟩) (fun _ => ⟨by decide, fun _ => ⟨zx, z5 50 3 (by decide) (by decide), fun _ => hQ 0 _ (Or.inl rfl) m5 z5, fun _ => ⟨by rw [C5.1]; unfold zR; omega, z5 50 6 (by decide) (by decide), by rw [C5.1]; have := z5 50 6 (by decide) (by decide); unfold zR at *; omega, fun _ => hQ 0 _ (Or.inl rfl) m5 z5, fun _ => hQ 1 _ (Or.inr rfl) m5 z5⟩⟩, fun y => absurd rfl y⟩)⟩
theorem S_44 {x1 : Int} {Q : zM → Prop} (wx : WX a) (m : QW Z Z1 a 58) (z : ZA Z1) (h1 : 0 ≤ x1 ∧ x1 ≤ 4) (hQ : ∀ Z2, QW Z Z2 a 58 → ZA Z2 → Q Z2) : TV (d + 1) 44 [.inr 58, .inl x1] Z1 Q := by
  have hq : 58 ∈ zQu := by decide
  refine w44_0 fun Z2 e2 => S_54 hq h1 fun r hr => ⟨by rw [e2, zup_place _ _ _ _ (by decide)]; exact z 58 4 (by decide) (by decide), hr, fun Z6 e6 => TZ.nq N469 ?_⟩
  have m6 : QW Z (nq N469 Z6) a 58 := by
    refine QW.norm wx ?_ hq
    subst e6 e2
    exact (m.up (by decide) (fun e => absurd e (by decide)) (fun _ => by decide)).up (by decide) (fun e => absurd e (by decide)) (fun _ => by decide)
  have z6 : ZA (nq N469 Z6) := ZA.nq Z6
  generalize nq N469 Z6 = Z7 at m6 z6
  suffices H : ∀ (f : Nat) (x2 : Int) (Z1 : zM), 4 - x2 < f → 0 ≤ x2 → x2 ≤ 4 → QW Z Z1 a 58 → ZA Z1 → TZ (d + 1) 44 28 [some (.inr 58), some (.inl x1), some (.inl x2)] [] Z1 (zrv Q) from H 5 0 Z7 (by decide) (by decide) (by decide) m6 z6
  intro f
  induction f with
  | zero => intro x2 Z1 y1 y2 y3 m1 z1; omega
  | succ f ih =>
    intro x2 Z1 y1 y2 y3 m1 z1
    exact w44_28 ⟨by unfold zR; omega, by unfold zR; omega, fun _ => hQ Z1 m1 z1, fun _ => ⟨by unfold zR; omega, fun _ => hQ Z1 m1 z1, fun _ => ⟨by omega, z1 59 _ (by decide) (by decide), fun _ => ih _ Z1 (by omega) (by omega) (by omega) m1 z1, fun _ => ⟨by omega, fun Z10 e => ih _ Z10 (by omega) (by omega) (by omega) (by subst e; exact m1.up (by decide) (fun e => absurd e (by decide)) (fun _ => by decide)) (by subst e; exact z1.up (zbit_r _ _ _))⟩⟩⟩⟩
theorem V_58 {i : Nat} {x : Int} {Q : Int → zM → Prop} (wx : WX a) (m : QW Z Z1 a 58) (z : ZA Z1) (hi : i ≤ 4) (hx : x = i) (hQ : ∀ r Z2, (r = 0 ∨ r = 1) → QW Z Z2 a 58 → ZA Z2 → Q r Z2) : TI (d + 3) 43 [.inr 58, .inr (70 + 6 * i), .inl x] Z1 Q := by
  have hk := zFi hi
  obtain ⟨h', P', C, wf, hb⟩ := m.2.1 i hi
  have zx : zR x := by unfold zR; omega
  have hn : 0 ≤ a.1.1 ∧ a.1.1 ≤ 8 := wx.1.1.1
  have hW : 5 ≤ a.1.2.1 ∧ a.1.2.1 ≤ 6 := wx.1.1.2.1
  have hq : 58 ∈ zQu := by decide
  refine w43_0 hk ⟨zx, fun _ => ?_, fun _ Z19 e19 Z20 e20 => ?_⟩
  · exact C_errs hk C wf (S_52 hq z (by omega) (by have := @gapart_b (gshow a.1.1 a.1.2.1 P' a.1.2.2.2.2.2.2) h'; unfold zR; omega) fun r hr => ⟨by unfold zR; omega, fun _ => ⟨zx, z 58 3 (by decide) (by decide), fun _ => ⟨zx, z 58 3 (by decide) (by decide), fun _ => hQ 0 _ (Or.inl rfl) m z, fun _ => hQ 1 _ (Or.inr rfl) m z⟩, fun _ => S_44 wx m z (by omega) fun Z2 m2 z2 => ⟨zx, z2 58 3 (by decide) (by decide), fun _ => hQ 0 _ (Or.inl rfl) m2 z2, fun _ => hQ 1 _ (Or.inr rfl) m2 z2⟩⟩, fun _ => hQ 0 _ (Or.inl rfl) m z⟩)
  · have m5 : QW Z Z20 a 58 := by
      subst e20 e19
      exact (m.up (by decide) (fun e => absurd e (by decide)) (fun _ => by decide)).up (by decide) (fun e => absurd e (by decide)) (fun _ => by decide)
    have z5 : ZA Z20 := by subst e20 e19; exact (z.up (by decide)).up (by decide)
    obtain ⟨h5, P5, C5, wf5, hb5⟩ := m5.2.1 i hi
    exact C_errs hk C5 wf5 (S_52 hq z5 (by omega) (by have := @gapart_b (gshow a.1.1 a.1.2.1 P5 a.1.2.2.2.2.2.2) h5; unfold zR; omega) fun r hr => ⟨by unfold zR; omega, fun _ => ⟨zx, z5 58 3 (by decide) (by decide), fun _ => ⟨zx, z5 58 3 (by decide) (by decide), fun _ => hQ 0 _ (Or.inl rfl) m5 z5, fun _ => hQ 1 _ (Or.inr rfl) m5 z5⟩, fun _ => S_44 wx m5 z5 (by omega) fun Z2 m2 z2 => ⟨zx, z2 58 3 (by decide) (by decide), fun _ => hQ 0 _ (Or.inl rfl) m2 z2, fun _ => hQ 1 _ (Or.inr rfl) m2 z2⟩⟩, fun _ => hQ 0 _ (Or.inl rfl) m5 z5⟩)
theorem S_seek46 : ∀ (f : Nat) {i : Nat} {x : Int} {Z1 : zM} {Q : zM → Prop}, WX a → i + f = 4 → x = i → QW Z Z1 a 46 → ZA Z1 → (∀ Z2, QW Z Z2 a 46 → ZA Z2 → Q Z2) → TV (d + f + 4) 124 [.inr 46, .inr 25, .inl x] Z1 Q := by
  have hq : 46 ∈ zQu := by decide
  intro f
  induction f with
  | zero =>
    intro i x Z1 Q wx hi hx m z hQ
    exact w124_0_46 ⟨by unfold zR; omega, fun _ => hQ Z1 m z, fun _ => ⟨70 + 6 * i, zati (by omega) hx, zFi (by omega), V_46 wx m z (by omega) hx fun r Z2 hr m2 z2 => ⟨by unfold zR; omega, fun _ => hQ Z2 m2 z2, fun _ => ⟨by unfold zR; omega, fun y => absurd (show x = 4 by omega) y, fun _ => hQ Z2 m2 z2⟩⟩⟩⟩
  | succ f ihf =>
    intro i x Z1 Q wx hi hx m z hQ
    have hn : 0 ≤ a.1.1 ∧ a.1.1 ≤ 8 := wx.1.1.1
    have hW : 5 ≤ a.1.2.1 ∧ a.1.2.1 ≤ 6 := wx.1.1.2.1
    refine w124_0_46 ⟨by unfold zR; omega, fun _ => hQ Z1 m z, fun _ => ⟨70 + 6 * i, zati (by omega) hx, zFi (by omega), V_46 wx m z (by omega) hx fun r Z2 hr m2 z2 => ⟨by unfold zR; omega, fun _ => hQ Z2 m2 z2, fun _ => ⟨by unfold zR; omega, fun _ => ⟨70 + 6 * i, zati (by omega) hx, zFi (by omega), 70 + 6 * (i + 1), zati (by omega) (by omega), zFi (by omega), ?_⟩, fun _ => hQ Z2 m2 z2⟩⟩⟩⟩
    suffices H : ∀ (g : Nat) (x5 : Int) (Z1 : zM), a.1.2.1 - x5 < g → -1 ≤ x5 → x5 ≤ 6 → QW Z Z1 a 46 → ZA Z1 → TZ (d + f + 4 + 1) 124 36 [some (.inr 46), some (.inr 25), some (.inl x), some (.inr (70 + 6 * i)), some (.inr (70 + 6 * (i + 1))), some (.inl x5)] [] Z1 (zrv Q) from H 8 (-1) Z2 (by omega) (by decide) (by decide) m2 z2
    intro g
    induction g with
    | zero =>
      intro x5 Z1 y1 y2 y3 m1 z1
      obtain ⟨h1, P1, C1, wf1, b1⟩ := m1.2.1 i (by omega)
      have e6 : Z1 (70 + 6 * i) 6 = a.1.2.1 := C1.2.1
      exact w124_36_46 (zFi (by omega)) (zFi (by omega)) ⟨by unfold zR; omega, by unfold zR; omega, fun _ => hQ Z1 m1 z1, fun y => absurd (show Z1 (70 + 6 * i) 6 ≤ x5 by omega) y⟩
    | succ g ih =>
      intro x5 Z1 y1 y2 y3 m1 z1
      obtain ⟨h1, P1, C1, wf1, b1⟩ := m1.2.1 i (by omega)
      have e6 : Z1 (70 + 6 * i) 6 = a.1.2.1 := C1.2.1
      refine w124_36_46 (zFi (by omega)) (zFi (by omega)) ⟨by unfold zR; omega, by unfold zR; omega, fun _ => hQ Z1 m1 z1, fun y => ⟨by omega, fun Z5 e5 => ?_⟩⟩
      have m5 : QW Z Z5 a 46 := by subst e5; exact m1.up (by decide) (fun _ e => absurd e (by decide)) (fun e => absurd e (by decide))
      have z5 : ZA Z5 := by subst e5; exact z1.up (by unfold zR; omega)
      obtain ⟨h2, P2, C2, wf2, b2⟩ := m5.2.1 i (by omega)
      obtain ⟨h3, P3, C3, wf3, b3⟩ := m5.2.1 (i + 1) (by omega)
      refine C_sitAs (zFi (i := i + 1) (by omega)) (zFi (i := i) (by omega)) (by omega) ⟨C3.1, C3.2.1, fun b u v => ⟨(C3.2.2.2.1 b u v).1, (C3.2.2.2.1 b u v).2.1⟩, fun w u v => (C3.2.2.2.2 w u v).1⟩ C2 hn.2 fun Z6 C6 f6 => C_pass (zFi (i := i + 1) (by omega)) C6 wf2 (by omega) (by omega) fun Z7 C7 f7 => ?_
      have w7 : WF a.1.1 a.1.2.1 (h2 + 1) a.1.2.2.2.1 a.1.2.2.2.2.1 (gP a.1.1 a.1.2.1 h2 a.1.2.2.2.1 a.1.2.2.2.2.1 P2 x5 a.1.1.toNat).1 a.1.2.2.2.2.2.2 := gpass_wf (s := (a.1.1, a.1.2.1, h2, a.1.2.2.2.1, a.1.2.2.2.2.1, P2, a.1.2.2.2.2.2.2)) wf2 (by dsimp only; omega) (by dsimp only; omega)
      exact ihf (i := i + 1) wx (by omega) (by omega) (m5.step hq (by omega) (f6.trans f7) C7 w7 (by omega)) (z5.fr (f6.trans f7)) fun Z9 m9 z9 => ih _ Z9 (by omega) (by omega) (by omega) m9 z9
theorem S_open46 {Q : zM → Prop} (A : CX Z a) (wx : WX a) (f1 : frs SQ Z Z1) (h5 : 0 ≤ Z1 46 5 ∧ Z1 46 5 ≤ 4) (hl : 46 = 62 → 0 ≤ Z1 62 6 ∧ Z1 62 6 < a.1.1) (hQ : ∀ Z2, QW Z Z2 a 46 → ZA Z2 → Q Z2) : TV (d + 9) 125 [.inr 0, .inr 46] Z1 Q := by
  have hn : 0 ≤ a.1.1 ∧ a.1.1 ≤ 8 := wx.1.1.1
  have hh : 0 ≤ a.1.2.2.1 ∧ a.1.2.2.1 ≤ 999 := ⟨wx.1.1.2.2.1.1, wx.1.2⟩
  refine w125_0_46 (TZ.nq N469 ?_)
  have f2 : frs SQ Z (nq N469 Z1) := nq_frs f1 fun c h => by have := N469_i.mp h; unfold SQ; omega
  have k5 : 0 ≤ nq N469 Z1 46 5 ∧ nq N469 Z1 46 5 ≤ 4 := by
    unfold nq; rw [if_pos (by decide), znm_e (by unfold zR; omega)]; exact h5
  have kl : 46 = 62 → 0 ≤ nq N469 Z1 62 6 ∧ nq N469 Z1 62 6 < a.1.1 := fun e => by
    have := hl e
    unfold nq; rw [if_pos (by decide), znm_e (by unfold zR; omega)]; exact this
  have z2 : ZA (nq N469 Z1) := ZA.nq Z1
  generalize nq N469 Z1 = Z2 at f2 k5 kl z2
  suffices H : ∀ (f i : Nat) (x : Int) (Z1 : zM), i + f = 5 → x = i → frs SQ Z Z1 → ZA Z1 → (0 ≤ Z1 46 5 ∧ Z1 46 5 ≤ 4) → (46 = 62 → 0 ≤ Z1 62 6 ∧ Z1 62 6 < a.1.1) → (∀ j : Nat, j < i → CF (70 + 6 * j) Z1 a.1.1 a.1.2.1 a.1.2.2.1 a.1.2.2.2.1 a.1.2.2.2.2.1 a.1.2.2.2.2.2.1 a.1.2.2.2.2.2.2) → TZ (d + 9) 125 2 [some (.inr 0), some (.inr 46), some (.inl x)] [] Z1 (zrv Q) from H 5 0 0 Z2 rfl rfl f2 z2 k5 kl (fun j hj => absurd hj (Nat.not_lt_zero j))
  intro f
  induction f with
  | zero =>
    intro i x Z1 hi hx f1 z1 k5 kl hf
    exact w125_2_46 ⟨by unfold zR; omega, fun _ => S_seek46 (d := d) 4 (i := 0) wx rfl rfl ⟨f1, fun j hj => ⟨_, _, hf j (by omega), wx.1.1, by omega⟩, kl, k5⟩ z1 hQ, fun y => absurd (show 5 ≤ x by omega) y⟩
  | succ f ih =>
    intro i x Z1 hi hx f1 z1 k5 kl hf
    refine w125_2_46 ⟨by unfold zR; omega, fun y => absurd y (by omega), fun _ => ⟨70 + 6 * i, zati (by omega) hx, zFi (by omega), C_become (k2 := 1) (zFi (by omega)) zF1 (by omega) (CFf (k := 0) A.1 f1) hn.2 fun Z6 C6 f6 => ih (i + 1) _ Z6 (by omega) (by omega) (fun c hc => by rw [f6 c (by unfold SQ at hc; omega), f1 c hc]) (z1.fr f6) (by rw [f6 46 (by omega)]; exact k5) (fun e => by rw [f6 62 (by omega)]; exact kl e) fun j hj => ?_⟩⟩
    by_cases e : j = i
    · subst e; exact C6
    · exact CF.keep (hf j (by omega)) fun c u v => f6 c (by omega)
theorem S_seek50 : ∀ (f : Nat) {i : Nat} {x : Int} {Z1 : zM} {Q : zM → Prop}, WX a → i + f = 4 → x = i → QW Z Z1 a 50 → ZA Z1 → (∀ Z2, QW Z Z2 a 50 → ZA Z2 → Q Z2) → TV (d + f + 4) 124 [.inr 50, .inr 25, .inl x] Z1 Q := by
  have hq : 50 ∈ zQu := by decide
  intro f
  induction f with
  | zero =>
    intro i x Z1 Q wx hi hx m z hQ
    exact w124_0_50 ⟨by unfold zR; omega, fun _ => hQ Z1 m z, fun _ => ⟨70 + 6 * i, zati (by omega) hx, zFi (by omega), V_50 wx m z (by omega) hx fun r Z2 hr m2 z2 => ⟨by unfold zR; omega, fun _ => hQ Z2 m2 z2, fun _ => ⟨by unfold zR; omega, fun y => absurd (show x = 4 by omega) y, fun _ => hQ Z2 m2 z2⟩⟩⟩⟩
  | succ f ihf =>
    intro i x Z1 Q wx hi hx m z hQ
    have hn : 0 ≤ a.1.1 ∧ a.1.1 ≤ 8 := wx.1.1.1
    have hW : 5 ≤ a.1.2.1 ∧ a.1.2.1 ≤ 6 := wx.1.1.2.1
    refine w124_0_50 ⟨by unfold zR; omega, fun _ => hQ Z1 m z, fun _ => ⟨70 + 6 * i, zati (by omega) hx, zFi (by omega), V_50 wx m z (by omega) hx fun r Z2 hr m2 z2 => ⟨by unfold zR; omega, fun _ => hQ Z2 m2 z2, fun _ => ⟨by unfold zR; omega, fun _ => ⟨70 + 6 * i, zati (by omega) hx, zFi (by omega), 70 + 6 * (i + 1), zati (by omega) (by omega), zFi (by omega), ?_⟩, fun _ => hQ Z2 m2 z2⟩⟩⟩⟩
    suffices H : ∀ (g : Nat) (x5 : Int) (Z1 : zM), a.1.2.1 - x5 < g → -1 ≤ x5 → x5 ≤ 6 → QW Z Z1 a 50 → ZA Z1 → TZ (d + f + 4 + 1) 124 36 [some (.inr 50), some (.inr 25), some (.inl x), some (.inr (70 + 6 * i)), some (.inr (70 + 6 * (i + 1))), some (.inl x5)] [] Z1 (zrv Q) from H 8 (-1) Z2 (by omega) (by decide) (by decide) m2 z2
    intro g
    induction g with
    | zero =>
      intro x5 Z1 y1 y2 y3 m1 z1
      obtain ⟨h1, P1, C1, wf1, b1⟩ := m1.2.1 i (by omega)
      have e6 : Z1 (70 + 6 * i) 6 = a.1.2.1 := C1.2.1
      exact w124_36_50 (zFi (by omega)) (zFi (by omega)) ⟨by unfold zR; omega, by unfold zR; omega, fun _ => hQ Z1 m1 z1, fun y => absurd (show Z1 (70 + 6 * i) 6 ≤ x5 by omega) y⟩
    | succ g ih =>
      intro x5 Z1 y1 y2 y3 m1 z1
      obtain ⟨h1, P1, C1, wf1, b1⟩ := m1.2.1 i (by omega)
      have e6 : Z1 (70 + 6 * i) 6 = a.1.2.1 := C1.2.1
      refine w124_36_50 (zFi (by omega)) (zFi (by omega)) ⟨by unfold zR; omega, by unfold zR; omega, fun _ => hQ Z1 m1 z1, fun y => ⟨by omega, fun Z5 e5 => ?_⟩⟩
      have m5 : QW Z Z5 a 50 := by subst e5; exact m1.up (by decide) (fun _ e => absurd e (by decide)) (fun e => absurd e (by decide))
      have z5 : ZA Z5 := by subst e5; exact z1.up (by unfold zR; omega)
      obtain ⟨h2, P2, C2, wf2, b2⟩ := m5.2.1 i (by omega)
      obtain ⟨h3, P3, C3, wf3, b3⟩ := m5.2.1 (i + 1) (by omega)
      refine C_sitAs (zFi (i := i + 1) (by omega)) (zFi (i := i) (by omega)) (by omega) ⟨C3.1, C3.2.1, fun b u v => ⟨(C3.2.2.2.1 b u v).1, (C3.2.2.2.1 b u v).2.1⟩, fun w u v => (C3.2.2.2.2 w u v).1⟩ C2 hn.2 fun Z6 C6 f6 => C_pass (zFi (i := i + 1) (by omega)) C6 wf2 (by omega) (by omega) fun Z7 C7 f7 => ?_
      have w7 : WF a.1.1 a.1.2.1 (h2 + 1) a.1.2.2.2.1 a.1.2.2.2.2.1 (gP a.1.1 a.1.2.1 h2 a.1.2.2.2.1 a.1.2.2.2.2.1 P2 x5 a.1.1.toNat).1 a.1.2.2.2.2.2.2 := gpass_wf (s := (a.1.1, a.1.2.1, h2, a.1.2.2.2.1, a.1.2.2.2.2.1, P2, a.1.2.2.2.2.2.2)) wf2 (by dsimp only; omega) (by dsimp only; omega)
      exact ihf (i := i + 1) wx (by omega) (by omega) (m5.step hq (by omega) (f6.trans f7) C7 w7 (by omega)) (z5.fr (f6.trans f7)) fun Z9 m9 z9 => ih _ Z9 (by omega) (by omega) (by omega) m9 z9
theorem S_open50 {Q : zM → Prop} (A : CX Z a) (wx : WX a) (f1 : frs SQ Z Z1) (h5 : 0 ≤ Z1 50 5 ∧ Z1 50 5 ≤ 4) (hl : 50 = 62 → 0 ≤ Z1 62 6 ∧ Z1 62 6 < a.1.1) (hQ : ∀ Z2, QW Z Z2 a 50 → ZA Z2 → Q Z2) : TV (d + 9) 125 [.inr 0, .inr 50] Z1 Q := by
  have hn : 0 ≤ a.1.1 ∧ a.1.1 ≤ 8 := wx.1.1.1
  have hh : 0 ≤ a.1.2.2.1 ∧ a.1.2.2.1 ≤ 999 := ⟨wx.1.1.2.2.1.1, wx.1.2⟩
  refine w125_0_50 (TZ.nq N469 ?_)
  have f2 : frs SQ Z (nq N469 Z1) := nq_frs f1 fun c h => by have := N469_i.mp h; unfold SQ; omega
  have k5 : 0 ≤ nq N469 Z1 50 5 ∧ nq N469 Z1 50 5 ≤ 4 := by
    unfold nq; rw [if_pos (by decide), znm_e (by unfold zR; omega)]; exact h5
  have kl : 50 = 62 → 0 ≤ nq N469 Z1 62 6 ∧ nq N469 Z1 62 6 < a.1.1 := fun e => by
    have := hl e
    unfold nq; rw [if_pos (by decide), znm_e (by unfold zR; omega)]; exact this
  have z2 : ZA (nq N469 Z1) := ZA.nq Z1
  generalize nq N469 Z1 = Z2 at f2 k5 kl z2
  suffices H : ∀ (f i : Nat) (x : Int) (Z1 : zM), i + f = 5 → x = i → frs SQ Z Z1 → ZA Z1 → (0 ≤ Z1 50 5 ∧ Z1 50 5 ≤ 4) → (50 = 62 → 0 ≤ Z1 62 6 ∧ Z1 62 6 < a.1.1) → (∀ j : Nat, j < i → CF (70 + 6 * j) Z1 a.1.1 a.1.2.1 a.1.2.2.1 a.1.2.2.2.1 a.1.2.2.2.2.1 a.1.2.2.2.2.2.1 a.1.2.2.2.2.2.2) → TZ (d + 9) 125 2 [some (.inr 0), some (.inr 50), some (.inl x)] [] Z1 (zrv Q) from H 5 0 0 Z2 rfl rfl f2 z2 k5 kl (fun j hj => absurd hj (Nat.not_lt_zero j))
  intro f
  induction f with
  | zero =>
    intro i x Z1 hi hx f1 z1 k5 kl hf
    exact w125_2_50 ⟨by unfold zR; omega, fun _ => S_seek50 (d := d) 4 (i := 0) wx rfl rfl ⟨f1, fun j hj => ⟨_, _, hf j (by omega), wx.1.1, by omega⟩, kl, k5⟩ z1 hQ, fun y => absurd (show 5 ≤ x by omega) y⟩
  | succ f ih =>
    intro i x Z1 hi hx f1 z1 k5 kl hf
    refine w125_2_50 ⟨by unfold zR; omega, fun y => absurd y (by omega), fun _ => ⟨70 + 6 * i, zati (by omega) hx, zFi (by omega), C_become (k2 := 1) (zFi (by omega)) zF1 (by omega) (CFf (k := 0) A.1 f1) hn.2 fun Z6 C6 f6 => ih (i + 1) _ Z6 (by omega) (by omega) (fun c hc => by rw [f6 c (by unfold SQ at hc; omega), f1 c hc]) (z1.fr f6) (by rw [f6 50 (by omega)]; exact k5) (fun e => by rw [f6 62 (by omega)]; exact kl e) fun j hj => ?_⟩⟩
    by_cases e : j = i
    · subst e; exact C6
    · exact CF.keep (hf j (by omega)) fun c u v => f6 c (by omega)
theorem S_seek54 : ∀ (f : Nat) {i : Nat} {x : Int} {Z1 : zM} {Q : zM → Prop}, WX a → i + f = 4 → x = i → QW Z Z1 a 54 → ZA Z1 → (∀ Z2, QW Z Z2 a 54 → ZA Z2 → Q Z2) → TV (d + f + 4) 124 [.inr 54, .inr 25, .inl x] Z1 Q := by
  have hq : 54 ∈ zQu := by decide
  intro f
  induction f with
  | zero =>
    intro i x Z1 Q wx hi hx m z hQ
    exact w124_0_54 ⟨by unfold zR; omega, fun _ => hQ Z1 m z, fun _ => ⟨70 + 6 * i, zati (by omega) hx, zFi (by omega), V_54 wx m z (by omega) hx fun r Z2 hr m2 z2 => ⟨by unfold zR; omega, fun _ => hQ Z2 m2 z2, fun _ => ⟨by unfold zR; omega, fun y => absurd (show x = 4 by omega) y, fun _ => hQ Z2 m2 z2⟩⟩⟩⟩
  | succ f ihf =>
    intro i x Z1 Q wx hi hx m z hQ
    have hn : 0 ≤ a.1.1 ∧ a.1.1 ≤ 8 := wx.1.1.1
    have hW : 5 ≤ a.1.2.1 ∧ a.1.2.1 ≤ 6 := wx.1.1.2.1
    refine w124_0_54 ⟨by unfold zR; omega, fun _ => hQ Z1 m z, fun _ => ⟨70 + 6 * i, zati (by omega) hx, zFi (by omega), V_54 wx m z (by omega) hx fun r Z2 hr m2 z2 => ⟨by unfold zR; omega, fun _ => hQ Z2 m2 z2, fun _ => ⟨by unfold zR; omega, fun _ => ⟨70 + 6 * i, zati (by omega) hx, zFi (by omega), 70 + 6 * (i + 1), zati (by omega) (by omega), zFi (by omega), ?_⟩, fun _ => hQ Z2 m2 z2⟩⟩⟩⟩
    suffices H : ∀ (g : Nat) (x5 : Int) (Z1 : zM), a.1.2.1 - x5 < g → -1 ≤ x5 → x5 ≤ 6 → QW Z Z1 a 54 → ZA Z1 → TZ (d + f + 4 + 1) 124 36 [some (.inr 54), some (.inr 25), some (.inl x), some (.inr (70 + 6 * i)), some (.inr (70 + 6 * (i + 1))), some (.inl x5)] [] Z1 (zrv Q) from H 8 (-1) Z2 (by omega) (by decide) (by decide) m2 z2
    intro g
    induction g with
    | zero =>
      intro x5 Z1 y1 y2 y3 m1 z1
      obtain ⟨h1, P1, C1, wf1, b1⟩ := m1.2.1 i (by omega)
      have e6 : Z1 (70 + 6 * i) 6 = a.1.2.1 := C1.2.1
      exact w124_36_54 (zFi (by omega)) (zFi (by omega)) ⟨by unfold zR; omega, by unfold zR; omega, fun _ => hQ Z1 m1 z1, fun y => absurd (show Z1 (70 + 6 * i) 6 ≤ x5 by omega) y⟩
    | succ g ih =>
      intro x5 Z1 y1 y2 y3 m1 z1
      obtain ⟨h1, P1, C1, wf1, b1⟩ := m1.2.1 i (by omega)
      have e6 : Z1 (70 + 6 * i) 6 = a.1.2.1 := C1.2.1
      refine w124_36_54 (zFi (by omega)) (zFi (by omega)) ⟨by unfold zR; omega, by unfold zR; omega, fun _ => hQ Z1 m1 z1, fun y => ⟨by omega, fun Z5 e5 => ?_⟩⟩
      have m5 : QW Z Z5 a 54 := by subst e5; exact m1.up (by decide) (fun _ e => absurd e (by decide)) (fun e => absurd e (by decide))
      have z5 : ZA Z5 := by subst e5; exact z1.up (by unfold zR; omega)
      obtain ⟨h2, P2, C2, wf2, b2⟩ := m5.2.1 i (by omega)
      obtain ⟨h3, P3, C3, wf3, b3⟩ := m5.2.1 (i + 1) (by omega)
      refine C_sitAs (zFi (i := i + 1) (by omega)) (zFi (i := i) (by omega)) (by omega) ⟨C3.1, C3.2.1, fun b u v => ⟨(C3.2.2.2.1 b u v).1, (C3.2.2.2.1 b u v).2.1⟩, fun w u v => (C3.2.2.2.2 w u v).1⟩ C2 hn.2 fun Z6 C6 f6 => C_pass (zFi (i := i + 1) (by omega)) C6 wf2 (by omega) (by omega) fun Z7 C7 f7 => ?_
      have w7 : WF a.1.1 a.1.2.1 (h2 + 1) a.1.2.2.2.1 a.1.2.2.2.2.1 (gP a.1.1 a.1.2.1 h2 a.1.2.2.2.1 a.1.2.2.2.2.1 P2 x5 a.1.1.toNat).1 a.1.2.2.2.2.2.2 := gpass_wf (s := (a.1.1, a.1.2.1, h2, a.1.2.2.2.1, a.1.2.2.2.2.1, P2, a.1.2.2.2.2.2.2)) wf2 (by dsimp only; omega) (by dsimp only; omega)
      exact ihf (i := i + 1) wx (by omega) (by omega) (m5.step hq (by omega) (f6.trans f7) C7 w7 (by omega)) (z5.fr (f6.trans f7)) fun Z9 m9 z9 => ih _ Z9 (by omega) (by omega) (by omega) m9 z9
theorem S_open54 {Q : zM → Prop} (A : CX Z a) (wx : WX a) (f1 : frs SQ Z Z1) (h5 : 0 ≤ Z1 54 5 ∧ Z1 54 5 ≤ 4) (hl : 54 = 62 → 0 ≤ Z1 62 6 ∧ Z1 62 6 < a.1.1) (hQ : ∀ Z2, QW Z Z2 a 54 → ZA Z2 → Q Z2) : TV (d + 9) 125 [.inr 0, .inr 54] Z1 Q := by
  have hn : 0 ≤ a.1.1 ∧ a.1.1 ≤ 8 := wx.1.1.1
  have hh : 0 ≤ a.1.2.2.1 ∧ a.1.2.2.1 ≤ 999 := ⟨wx.1.1.2.2.1.1, wx.1.2⟩
  refine w125_0_54 (TZ.nq N469 ?_)
  have f2 : frs SQ Z (nq N469 Z1) := nq_frs f1 fun c h => by have := N469_i.mp h; unfold SQ; omega
  have k5 : 0 ≤ nq N469 Z1 54 5 ∧ nq N469 Z1 54 5 ≤ 4 := by
    unfold nq; rw [if_pos (by decide), znm_e (by unfold zR; omega)]; exact h5
  have kl : 54 = 62 → 0 ≤ nq N469 Z1 62 6 ∧ nq N469 Z1 62 6 < a.1.1 := fun e => by
    have := hl e
    unfold nq; rw [if_pos (by decide), znm_e (by unfold zR; omega)]; exact this
  have z2 : ZA (nq N469 Z1) := ZA.nq Z1
  generalize nq N469 Z1 = Z2 at f2 k5 kl z2
  suffices H : ∀ (f i : Nat) (x : Int) (Z1 : zM), i + f = 5 → x = i → frs SQ Z Z1 → ZA Z1 → (0 ≤ Z1 54 5 ∧ Z1 54 5 ≤ 4) → (54 = 62 → 0 ≤ Z1 62 6 ∧ Z1 62 6 < a.1.1) → (∀ j : Nat, j < i → CF (70 + 6 * j) Z1 a.1.1 a.1.2.1 a.1.2.2.1 a.1.2.2.2.1 a.1.2.2.2.2.1 a.1.2.2.2.2.2.1 a.1.2.2.2.2.2.2) → TZ (d + 9) 125 2 [some (.inr 0), some (.inr 54), some (.inl x)] [] Z1 (zrv Q) from H 5 0 0 Z2 rfl rfl f2 z2 k5 kl (fun j hj => absurd hj (Nat.not_lt_zero j))
  intro f
  induction f with
  | zero =>
    intro i x Z1 hi hx f1 z1 k5 kl hf
    exact w125_2_54 ⟨by unfold zR; omega, fun _ => S_seek54 (d := d) 4 (i := 0) wx rfl rfl ⟨f1, fun j hj => ⟨_, _, hf j (by omega), wx.1.1, by omega⟩, kl, k5⟩ z1 hQ, fun y => absurd (show 5 ≤ x by omega) y⟩
  | succ f ih =>
    intro i x Z1 hi hx f1 z1 k5 kl hf
    refine w125_2_54 ⟨by unfold zR; omega, fun y => absurd y (by omega), fun _ => ⟨70 + 6 * i, zati (by omega) hx, zFi (by omega), C_become (k2 := 1) (zFi (by omega)) zF1 (by omega) (CFf (k := 0) A.1 f1) hn.2 fun Z6 C6 f6 => ih (i + 1) _ Z6 (by omega) (by omega) (fun c hc => by rw [f6 c (by unfold SQ at hc; omega), f1 c hc]) (z1.fr f6) (by rw [f6 54 (by omega)]; exact k5) (fun e => by rw [f6 62 (by omega)]; exact kl e) fun j hj => ?_⟩⟩
    by_cases e : j = i
    · subst e; exact C6
    · exact CF.keep (hf j (by omega)) fun c u v => f6 c (by omega)
theorem S_seek58 : ∀ (f : Nat) {i : Nat} {x : Int} {Z1 : zM} {Q : zM → Prop}, WX a → i + f = 4 → x = i → QW Z Z1 a 58 → ZA Z1 → (∀ Z2, QW Z Z2 a 58 → ZA Z2 → Q Z2) → TV (d + f + 4) 124 [.inr 58, .inr 25, .inl x] Z1 Q := by
  have hq : 58 ∈ zQu := by decide
  intro f
  induction f with
  | zero =>
    intro i x Z1 Q wx hi hx m z hQ
    exact w124_0_58 ⟨by unfold zR; omega, fun _ => hQ Z1 m z, fun _ => ⟨70 + 6 * i, zati (by omega) hx, zFi (by omega), V_58 wx m z (by omega) hx fun r Z2 hr m2 z2 => ⟨by unfold zR; omega, fun _ => hQ Z2 m2 z2, fun _ => ⟨by unfold zR; omega, fun y => absurd (show x = 4 by omega) y, fun _ => hQ Z2 m2 z2⟩⟩⟩⟩
  | succ f ihf =>
    intro i x Z1 Q wx hi hx m z hQ
    have hn : 0 ≤ a.1.1 ∧ a.1.1 ≤ 8 := wx.1.1.1
    have hW : 5 ≤ a.1.2.1 ∧ a.1.2.1 ≤ 6 := wx.1.1.2.1
    refine w124_0_58 ⟨by unfold zR; omega, fun _ => hQ Z1 m z, fun _ => ⟨70 + 6 * i, zati (by omega) hx, zFi (by omega), V_58 wx m z (by omega) hx fun r Z2 hr m2 z2 => ⟨by unfold zR; omega, fun _ => hQ Z2 m2 z2, fun _ => ⟨by unfold zR; omega, fun _ => ⟨70 + 6 * i, zati (by omega) hx, zFi (by omega), 70 + 6 * (i + 1), zati (by omega) (by omega), zFi (by omega), ?_⟩, fun _ => hQ Z2 m2 z2⟩⟩⟩⟩
    suffices H : ∀ (g : Nat) (x5 : Int) (Z1 : zM), a.1.2.1 - x5 < g → -1 ≤ x5 → x5 ≤ 6 → QW Z Z1 a 58 → ZA Z1 → TZ (d + f + 4 + 1) 124 36 [some (.inr 58), some (.inr 25), some (.inl x), some (.inr (70 + 6 * i)), some (.inr (70 + 6 * (i + 1))), some (.inl x5)] [] Z1 (zrv Q) from H 8 (-1) Z2 (by omega) (by decide) (by decide) m2 z2
    intro g
    induction g with
    | zero =>
      intro x5 Z1 y1 y2 y3 m1 z1
      obtain ⟨h1, P1, C1, wf1, b1⟩ := m1.2.1 i (by omega)
      have e6 : Z1 (70 + 6 * i) 6 = a.1.2.1 := C1.2.1
      exact w124_36_58 (zFi (by omega)) (zFi (by omega)) ⟨by unfold zR; omega, by unfold zR; omega, fun _ => hQ Z1 m1 z1, fun y => absurd (show Z1 (70 + 6 * i) 6 ≤ x5 by omega) y⟩
    | succ g ih =>
      intro x5 Z1 y1 y2 y3 m1 z1
      obtain ⟨h1, P1, C1, wf1, b1⟩ := m1.2.1 i (by omega)
      have e6 : Z1 (70 + 6 * i) 6 = a.1.2.1 := C1.2.1
      refine w124_36_58 (zFi (by omega)) (zFi (by omega)) ⟨by unfold zR; omega, by unfold zR; omega, fun _ => hQ Z1 m1 z1, fun y => ⟨by omega, fun Z5 e5 => ?_⟩⟩
      have m5 : QW Z Z5 a 58 := by subst e5; exact m1.up (by decide) (fun _ e => absurd e (by decide)) (fun e => absurd e (by decide))
      have z5 : ZA Z5 := by subst e5; exact z1.up (by unfold zR; omega)
      obtain ⟨h2, P2, C2, wf2, b2⟩ := m5.2.1 i (by omega)
      obtain ⟨h3, P3, C3, wf3, b3⟩ := m5.2.1 (i + 1) (by omega)
      refine C_sitAs (zFi (i := i + 1) (by omega)) (zFi (i := i) (by omega)) (by omega) ⟨C3.1, C3.2.1, fun b u v => ⟨(C3.2.2.2.1 b u v).1, (C3.2.2.2.1 b u v).2.1⟩, fun w u v => (C3.2.2.2.2 w u v).1⟩ C2 hn.2 fun Z6 C6 f6 => C_pass (zFi (i := i + 1) (by omega)) C6 wf2 (by omega) (by omega) fun Z7 C7 f7 => ?_
      have w7 : WF a.1.1 a.1.2.1 (h2 + 1) a.1.2.2.2.1 a.1.2.2.2.2.1 (gP a.1.1 a.1.2.1 h2 a.1.2.2.2.1 a.1.2.2.2.2.1 P2 x5 a.1.1.toNat).1 a.1.2.2.2.2.2.2 := gpass_wf (s := (a.1.1, a.1.2.1, h2, a.1.2.2.2.1, a.1.2.2.2.2.1, P2, a.1.2.2.2.2.2.2)) wf2 (by dsimp only; omega) (by dsimp only; omega)
      exact ihf (i := i + 1) wx (by omega) (by omega) (m5.step hq (by omega) (f6.trans f7) C7 w7 (by omega)) (z5.fr (f6.trans f7)) fun Z9 m9 z9 => ih _ Z9 (by omega) (by omega) (by omega) m9 z9
theorem S_open58 {Q : zM → Prop} (A : CX Z a) (wx : WX a) (f1 : frs SQ Z Z1) (h5 : 0 ≤ Z1 58 5 ∧ Z1 58 5 ≤ 4) (hl : 58 = 62 → 0 ≤ Z1 62 6 ∧ Z1 62 6 < a.1.1) (hQ : ∀ Z2, QW Z Z2 a 58 → ZA Z2 → Q Z2) : TV (d + 9) 125 [.inr 0, .inr 58] Z1 Q := by
  have hn : 0 ≤ a.1.1 ∧ a.1.1 ≤ 8 := wx.1.1.1
  have hh : 0 ≤ a.1.2.2.1 ∧ a.1.2.2.1 ≤ 999 := ⟨wx.1.1.2.2.1.1, wx.1.2⟩
  refine w125_0_58 (TZ.nq N469 ?_)
  have f2 : frs SQ Z (nq N469 Z1) := nq_frs f1 fun c h => by have := N469_i.mp h; unfold SQ; omega
  have k5 : 0 ≤ nq N469 Z1 58 5 ∧ nq N469 Z1 58 5 ≤ 4 := by
    unfold nq; rw [if_pos (by decide), znm_e (by unfold zR; omega)]; exact h5
  have kl : 58 = 62 → 0 ≤ nq N469 Z1 62 6 ∧ nq N469 Z1 62 6 < a.1.1 := fun e => by
    have := hl e
    unfold nq; rw [if_pos (by decide), znm_e (by unfold zR; omega)]; exact this
  have z2 : ZA (nq N469 Z1) := ZA.nq Z1
  generalize nq N469 Z1 = Z2 at f2 k5 kl z2
  suffices H : ∀ (f i : Nat) (x : Int) (Z1 : zM), i + f = 5 → x = i → frs SQ Z Z1 → ZA Z1 → (0 ≤ Z1 58 5 ∧ Z1 58 5 ≤ 4) → (58 = 62 → 0 ≤ Z1 62 6 ∧ Z1 62 6 < a.1.1) → (∀ j : Nat, j < i → CF (70 + 6 * j) Z1 a.1.1 a.1.2.1 a.1.2.2.1 a.1.2.2.2.1 a.1.2.2.2.2.1 a.1.2.2.2.2.2.1 a.1.2.2.2.2.2.2) → TZ (d + 9) 125 2 [some (.inr 0), some (.inr 58), some (.inl x)] [] Z1 (zrv Q) from H 5 0 0 Z2 rfl rfl f2 z2 k5 kl (fun j hj => absurd hj (Nat.not_lt_zero j))
  intro f
  induction f with
  | zero =>
    intro i x Z1 hi hx f1 z1 k5 kl hf
    exact w125_2_58 ⟨by unfold zR; omega, fun _ => S_seek58 (d := d) 4 (i := 0) wx rfl rfl ⟨f1, fun j hj => ⟨_, _, hf j (by omega), wx.1.1, by omega⟩, kl, k5⟩ z1 hQ, fun y => absurd (show 5 ≤ x by omega) y⟩
  | succ f ih =>
    intro i x Z1 hi hx f1 z1 k5 kl hf
    refine w125_2_58 ⟨by unfold zR; omega, fun y => absurd y (by omega), fun _ => ⟨70 + 6 * i, zati (by omega) hx, zFi (by omega), C_become (k2 := 1) (zFi (by omega)) zF1 (by omega) (CFf (k := 0) A.1 f1) hn.2 fun Z6 C6 f6 => ih (i + 1) _ Z6 (by omega) (by omega) (fun c hc => by rw [f6 c (by unfold SQ at hc; omega), f1 c hc]) (z1.fr f6) (by rw [f6 58 (by omega)]; exact k5) (fun e => by rw [f6 62 (by omega)]; exact kl e) fun j hj => ?_⟩⟩
    by_cases e : j = i
    · subst e; exact C6
    · exact CF.keep (hf j (by omega)) fun c u v => f6 c (by omega)
theorem S_seek62 : ∀ (f : Nat) {i : Nat} {x : Int} {Z1 : zM} {Q : zM → Prop}, WX a → i + f = 4 → x = i → QW Z Z1 a 62 → ZA Z1 → (∀ Z2, QW Z Z2 a 62 → ZA Z2 → Q Z2) → TV (d + f + 4) 124 [.inr 62, .inr 25, .inl x] Z1 Q := by
  have hq : 62 ∈ zQu := by decide
  intro f
  induction f with
  | zero =>
    intro i x Z1 Q wx hi hx m z hQ
    exact w124_0_62 ⟨by unfold zR; omega, fun _ => hQ Z1 m z, fun _ => ⟨70 + 6 * i, zati (by omega) hx, zFi (by omega), V_62 wx m z (by omega) hx fun r Z2 hr m2 z2 => ⟨by unfold zR; omega, fun _ => hQ Z2 m2 z2, fun _ => ⟨by unfold zR; omega, fun y => absurd (show x = 4 by omega) y, fun _ => hQ Z2 m2 z2⟩⟩⟩⟩
  | succ f ihf =>
    intro i x Z1 Q wx hi hx m z hQ
    have hn : 0 ≤ a.1.1 ∧ a.1.1 ≤ 8 := wx.1.1.1
    have hW : 5 ≤ a.1.2.1 ∧ a.1.2.1 ≤ 6 := wx.1.1.2.1
    refine w124_0_62 ⟨by unfold zR; omega, fun _ => hQ Z1 m z, fun _ => ⟨70 + 6 * i, zati (by omega) hx, zFi (by omega), V_62 wx m z (by omega) hx fun r Z2 hr m2 z2 => ⟨by unfold zR; omega, fun _ => hQ Z2 m2 z2, fun _ => ⟨by unfold zR; omega, fun _ => ⟨70 + 6 * i, zati (by omega) hx, zFi (by omega), 70 + 6 * (i + 1), zati (by omega) (by omega), zFi (by omega), ?_⟩, fun _ => hQ Z2 m2 z2⟩⟩⟩⟩
    suffices H : ∀ (g : Nat) (x5 : Int) (Z1 : zM), a.1.2.1 - x5 < g → -1 ≤ x5 → x5 ≤ 6 → QW Z Z1 a 62 → ZA Z1 → TZ (d + f + 4 + 1) 124 36 [some (.inr 62), some (.inr 25), some (.inl x), some (.inr (70 + 6 * i)), some (.inr (70 + 6 * (i + 1))), some (.inl x5)] [] Z1 (zrv Q) from H 8 (-1) Z2 (by omega) (by decide) (by decide) m2 z2
    intro g
    induction g with
    | zero =>
      intro x5 Z1 y1 y2 y3 m1 z1
      obtain ⟨h1, P1, C1, wf1, b1⟩ := m1.2.1 i (by omega)
      have e6 : Z1 (70 + 6 * i) 6 = a.1.2.1 := C1.2.1
      exact w124_36_62 (zFi (by omega)) (zFi (by omega)) ⟨by unfold zR; omega, by unfold zR; omega, fun _ => hQ Z1 m1 z1, fun y => absurd (show Z1 (70 + 6 * i) 6 ≤ x5 by omega) y⟩
    | succ g ih =>
      intro x5 Z1 y1 y2 y3 m1 z1
      obtain ⟨h1, P1, C1, wf1, b1⟩ := m1.2.1 i (by omega)
      have e6 : Z1 (70 + 6 * i) 6 = a.1.2.1 := C1.2.1
      refine w124_36_62 (zFi (by omega)) (zFi (by omega)) ⟨by unfold zR; omega, by unfold zR; omega, fun _ => hQ Z1 m1 z1, fun y => ⟨by omega, fun Z5 e5 => ?_⟩⟩
      have m5 : QW Z Z5 a 62 := by subst e5; exact m1.up (by decide) (fun _ e => absurd e (by decide)) (fun e => absurd e (by decide))
      have z5 : ZA Z5 := by subst e5; exact z1.up (by unfold zR; omega)
      obtain ⟨h2, P2, C2, wf2, b2⟩ := m5.2.1 i (by omega)
      obtain ⟨h3, P3, C3, wf3, b3⟩ := m5.2.1 (i + 1) (by omega)
      refine C_sitAs (zFi (i := i + 1) (by omega)) (zFi (i := i) (by omega)) (by omega) ⟨C3.1, C3.2.1, fun b u v => ⟨(C3.2.2.2.1 b u v).1, (C3.2.2.2.1 b u v).2.1⟩, fun w u v => (C3.2.2.2.2 w u v).1⟩ C2 hn.2 fun Z6 C6 f6 => C_pass (zFi (i := i + 1) (by omega)) C6 wf2 (by omega) (by omega) fun Z7 C7 f7 => ?_
      have w7 : WF a.1.1 a.1.2.1 (h2 + 1) a.1.2.2.2.1 a.1.2.2.2.2.1 (gP a.1.1 a.1.2.1 h2 a.1.2.2.2.1 a.1.2.2.2.2.1 P2 x5 a.1.1.toNat).1 a.1.2.2.2.2.2.2 := gpass_wf (s := (a.1.1, a.1.2.1, h2, a.1.2.2.2.1, a.1.2.2.2.2.1, P2, a.1.2.2.2.2.2.2)) wf2 (by dsimp only; omega) (by dsimp only; omega)
      exact ihf (i := i + 1) wx (by omega) (by omega) (m5.step hq (by omega) (f6.trans f7) C7 w7 (by omega)) (z5.fr (f6.trans f7)) fun Z9 m9 z9 => ih _ Z9 (by omega) (by omega) (by omega) m9 z9
theorem S_open62 {Q : zM → Prop} (A : CX Z a) (wx : WX a) (f1 : frs SQ Z Z1) (h5 : 0 ≤ Z1 62 5 ∧ Z1 62 5 ≤ 4) (hl : 62 = 62 → 0 ≤ Z1 62 6 ∧ Z1 62 6 < a.1.1) (hQ : ∀ Z2, QW Z Z2 a 62 → ZA Z2 → Q Z2) : TV (d + 9) 125 [.inr 0, .inr 62] Z1 Q := by
  have hn : 0 ≤ a.1.1 ∧ a.1.1 ≤ 8 := wx.1.1.1
  have hh : 0 ≤ a.1.2.2.1 ∧ a.1.2.2.1 ≤ 999 := ⟨wx.1.1.2.2.1.1, wx.1.2⟩
  refine w125_0_62 (TZ.nq N469 ?_)
  have f2 : frs SQ Z (nq N469 Z1) := nq_frs f1 fun c h => by have := N469_i.mp h; unfold SQ; omega
  have k5 : 0 ≤ nq N469 Z1 62 5 ∧ nq N469 Z1 62 5 ≤ 4 := by
    unfold nq; rw [if_pos (by decide), znm_e (by unfold zR; omega)]; exact h5
  have kl : 62 = 62 → 0 ≤ nq N469 Z1 62 6 ∧ nq N469 Z1 62 6 < a.1.1 := fun e => by
    have := hl e
    unfold nq; rw [if_pos (by decide), znm_e (by unfold zR; omega)]; exact this
  have z2 : ZA (nq N469 Z1) := ZA.nq Z1
  generalize nq N469 Z1 = Z2 at f2 k5 kl z2
  suffices H : ∀ (f i : Nat) (x : Int) (Z1 : zM), i + f = 5 → x = i → frs SQ Z Z1 → ZA Z1 → (0 ≤ Z1 62 5 ∧ Z1 62 5 ≤ 4) → (62 = 62 → 0 ≤ Z1 62 6 ∧ Z1 62 6 < a.1.1) → (∀ j : Nat, j < i → CF (70 + 6 * j) Z1 a.1.1 a.1.2.1 a.1.2.2.1 a.1.2.2.2.1 a.1.2.2.2.2.1 a.1.2.2.2.2.2.1 a.1.2.2.2.2.2.2) → TZ (d + 9) 125 2 [some (.inr 0), some (.inr 62), some (.inl x)] [] Z1 (zrv Q) from H 5 0 0 Z2 rfl rfl f2 z2 k5 kl (fun j hj => absurd hj (Nat.not_lt_zero j))
  intro f
  induction f with
  | zero =>
    intro i x Z1 hi hx f1 z1 k5 kl hf
    exact w125_2_62 ⟨by unfold zR; omega, fun _ => S_seek62 (d := d) 4 (i := 0) wx rfl rfl ⟨f1, fun j hj => ⟨_, _, hf j (by omega), wx.1.1, by omega⟩, kl, k5⟩ z1 hQ, fun y => absurd (show 5 ≤ x by omega) y⟩
  | succ f ih =>
    intro i x Z1 hi hx f1 z1 k5 kl hf
    refine w125_2_62 ⟨by unfold zR; omega, fun y => absurd y (by omega), fun _ => ⟨70 + 6 * i, zati (by omega) hx, zFi (by omega), C_become (k2 := 1) (zFi (by omega)) zF1 (by omega) (CFf (k := 0) A.1 f1) hn.2 fun Z6 C6 f6 => ih (i + 1) _ Z6 (by omega) (by omega) (fun c hc => by rw [f6 c (by unfold SQ at hc; omega), f1 c hc]) (z1.fr f6) (by rw [f6 62 (by omega)]; exact k5) (fun e => by rw [f6 62 (by omega)]; exact kl e) fun j hj => ?_⟩⟩
    by_cases e : j = i
    · subst e; exact C6
    · exact CF.keep (hf j (by omega)) fun c u v => f6 c (by omega)
theorem S_seek66 : ∀ (f : Nat) {i : Nat} {x : Int} {Z1 : zM} {Q : zM → Prop}, WX a → i + f = 4 → x = i → QW Z Z1 a 66 → ZA Z1 → (∀ Z2, QW Z Z2 a 66 → ZA Z2 → Q Z2) → TV (d + f + 4) 124 [.inr 66, .inr 25, .inl x] Z1 Q := by
  have hq : 66 ∈ zQu := by decide
  intro f
  induction f with
  | zero =>
    intro i x Z1 Q wx hi hx m z hQ
    exact w124_0_66 ⟨by unfold zR; omega, fun _ => hQ Z1 m z, fun _ => ⟨70 + 6 * i, zati (by omega) hx, zFi (by omega), V_66 wx m z (by omega) hx fun r Z2 hr m2 z2 => ⟨by unfold zR; omega, fun _ => hQ Z2 m2 z2, fun _ => ⟨by unfold zR; omega, fun y => absurd (show x = 4 by omega) y, fun _ => hQ Z2 m2 z2⟩⟩⟩⟩
  | succ f ihf =>
    intro i x Z1 Q wx hi hx m z hQ
    have hn : 0 ≤ a.1.1 ∧ a.1.1 ≤ 8 := wx.1.1.1
    have hW : 5 ≤ a.1.2.1 ∧ a.1.2.1 ≤ 6 := wx.1.1.2.1
    refine w124_0_66 ⟨by unfold zR; omega, fun _ => hQ Z1 m z, fun _ => ⟨70 + 6 * i, zati (by omega) hx, zFi (by omega), V_66 wx m z (by omega) hx fun r Z2 hr m2 z2 => ⟨by unfold zR; omega, fun _ => hQ Z2 m2 z2, fun _ => ⟨by unfold zR; omega, fun _ => ⟨70 + 6 * i, zati (by omega) hx, zFi (by omega), 70 + 6 * (i + 1), zati (by omega) (by omega), zFi (by omega), ?_⟩, fun _ => hQ Z2 m2 z2⟩⟩⟩⟩
    suffices H : ∀ (g : Nat) (x5 : Int) (Z1 : zM), a.1.2.1 - x5 < g → -1 ≤ x5 → x5 ≤ 6 → QW Z Z1 a 66 → ZA Z1 → TZ (d + f + 4 + 1) 124 36 [some (.inr 66), some (.inr 25), some (.inl x), some (.inr (70 + 6 * i)), some (.inr (70 + 6 * (i + 1))), some (.inl x5)] [] Z1 (zrv Q) from H 8 (-1) Z2 (by omega) (by decide) (by decide) m2 z2
    intro g
    induction g with
    | zero =>
      intro x5 Z1 y1 y2 y3 m1 z1
      obtain ⟨h1, P1, C1, wf1, b1⟩ := m1.2.1 i (by omega)
      have e6 : Z1 (70 + 6 * i) 6 = a.1.2.1 := C1.2.1
      exact w124_36_66 (zFi (by omega)) (zFi (by omega)) ⟨by unfold zR; omega, by unfold zR; omega, fun _ => hQ Z1 m1 z1, fun y => absurd (show Z1 (70 + 6 * i) 6 ≤ x5 by omega) y⟩
    | succ g ih =>
      intro x5 Z1 y1 y2 y3 m1 z1
      obtain ⟨h1, P1, C1, wf1, b1⟩ := m1.2.1 i (by omega)
      have e6 : Z1 (70 + 6 * i) 6 = a.1.2.1 := C1.2.1
      refine w124_36_66 (zFi (by omega)) (zFi (by omega)) ⟨by unfold zR; omega, by unfold zR; omega, fun _ => hQ Z1 m1 z1, fun y => ⟨by omega, fun Z5 e5 => ?_⟩⟩
      have m5 : QW Z Z5 a 66 := by subst e5; exact m1.up (by decide) (fun _ e => absurd e (by decide)) (fun e => absurd e (by decide))
      have z5 : ZA Z5 := by subst e5; exact z1.up (by unfold zR; omega)
      obtain ⟨h2, P2, C2, wf2, b2⟩ := m5.2.1 i (by omega)
      obtain ⟨h3, P3, C3, wf3, b3⟩ := m5.2.1 (i + 1) (by omega)
      refine C_sitAs (zFi (i := i + 1) (by omega)) (zFi (i := i) (by omega)) (by omega) ⟨C3.1, C3.2.1, fun b u v => ⟨(C3.2.2.2.1 b u v).1, (C3.2.2.2.1 b u v).2.1⟩, fun w u v => (C3.2.2.2.2 w u v).1⟩ C2 hn.2 fun Z6 C6 f6 => C_pass (zFi (i := i + 1) (by omega)) C6 wf2 (by omega) (by omega) fun Z7 C7 f7 => ?_
      have w7 : WF a.1.1 a.1.2.1 (h2 + 1) a.1.2.2.2.1 a.1.2.2.2.2.1 (gP a.1.1 a.1.2.1 h2 a.1.2.2.2.1 a.1.2.2.2.2.1 P2 x5 a.1.1.toNat).1 a.1.2.2.2.2.2.2 := gpass_wf (s := (a.1.1, a.1.2.1, h2, a.1.2.2.2.1, a.1.2.2.2.2.1, P2, a.1.2.2.2.2.2.2)) wf2 (by dsimp only; omega) (by dsimp only; omega)
      exact ihf (i := i + 1) wx (by omega) (by omega) (m5.step hq (by omega) (f6.trans f7) C7 w7 (by omega)) (z5.fr (f6.trans f7)) fun Z9 m9 z9 => ih _ Z9 (by omega) (by omega) (by omega) m9 z9
theorem S_open66 {Q : zM → Prop} (A : CX Z a) (wx : WX a) (f1 : frs SQ Z Z1) (h5 : 0 ≤ Z1 66 5 ∧ Z1 66 5 ≤ 4) (hl : 66 = 62 → 0 ≤ Z1 62 6 ∧ Z1 62 6 < a.1.1) (hQ : ∀ Z2, QW Z Z2 a 66 → ZA Z2 → Q Z2) : TV (d + 9) 125 [.inr 0, .inr 66] Z1 Q := by
  have hn : 0 ≤ a.1.1 ∧ a.1.1 ≤ 8 := wx.1.1.1
  have hh : 0 ≤ a.1.2.2.1 ∧ a.1.2.2.1 ≤ 999 := ⟨wx.1.1.2.2.1.1, wx.1.2⟩
  refine w125_0_66 (TZ.nq N469 ?_)
  have f2 : frs SQ Z (nq N469 Z1) := nq_frs f1 fun c h => by have := N469_i.mp h; unfold SQ; omega
  have k5 : 0 ≤ nq N469 Z1 66 5 ∧ nq N469 Z1 66 5 ≤ 4 := by
    unfold nq; rw [if_pos (by decide), znm_e (by unfold zR; omega)]; exact h5
  have kl : 66 = 62 → 0 ≤ nq N469 Z1 62 6 ∧ nq N469 Z1 62 6 < a.1.1 := fun e => by
    have := hl e
    unfold nq; rw [if_pos (by decide), znm_e (by unfold zR; omega)]; exact this
  have z2 : ZA (nq N469 Z1) := ZA.nq Z1
  generalize nq N469 Z1 = Z2 at f2 k5 kl z2
  suffices H : ∀ (f i : Nat) (x : Int) (Z1 : zM), i + f = 5 → x = i → frs SQ Z Z1 → ZA Z1 → (0 ≤ Z1 66 5 ∧ Z1 66 5 ≤ 4) → (66 = 62 → 0 ≤ Z1 62 6 ∧ Z1 62 6 < a.1.1) → (∀ j : Nat, j < i → CF (70 + 6 * j) Z1 a.1.1 a.1.2.1 a.1.2.2.1 a.1.2.2.2.1 a.1.2.2.2.2.1 a.1.2.2.2.2.2.1 a.1.2.2.2.2.2.2) → TZ (d + 9) 125 2 [some (.inr 0), some (.inr 66), some (.inl x)] [] Z1 (zrv Q) from H 5 0 0 Z2 rfl rfl f2 z2 k5 kl (fun j hj => absurd hj (Nat.not_lt_zero j))
  intro f
  induction f with
  | zero =>
    intro i x Z1 hi hx f1 z1 k5 kl hf
    exact w125_2_66 ⟨by unfold zR; omega, fun _ => S_seek66 (d := d) 4 (i := 0) wx rfl rfl ⟨f1, fun j hj => ⟨_, _, hf j (by omega), wx.1.1, by omega⟩, kl, k5⟩ z1 hQ, fun y => absurd (show 5 ≤ x by omega) y⟩
  | succ f ih =>
    intro i x Z1 hi hx f1 z1 k5 kl hf
    refine w125_2_66 ⟨by unfold zR; omega, fun y => absurd y (by omega), fun _ => ⟨70 + 6 * i, zati (by omega) hx, zFi (by omega), C_become (k2 := 1) (zFi (by omega)) zF1 (by omega) (CFf (k := 0) A.1 f1) hn.2 fun Z6 C6 f6 => ih (i + 1) _ Z6 (by omega) (by omega) (fun c hc => by rw [f6 c (by unfold SQ at hc; omega), f1 c hc]) (z1.fr f6) (by rw [f6 66 (by omega)]; exact k5) (fun e => by rw [f6 62 (by omega)]; exact kl e) fun j hj => ?_⟩⟩
    by_cases e : j = i
    · subst e; exact C6
    · exact CF.keep (hf j (by omega)) fun c u v => f6 c (by omega)
theorem sq50 {q2 : Nat} {Z2 : zM} (f : frs SQ Z Z1) (hq : 46 ≤ q2 ∧ q2 ≤ 69) (h : ∀ c, c ≠ q2 → Z2 c = Z1 c) : frs SQ Z Z2 := fun c hc => by
  rw [h c (fun e => hc (by subst e; unfold SQ; omega)), f c hc]
theorem T_feeding {x1 x2 : Int} (A : CX Z a) (wx : WX a) (h1 : zR x1) (h2 : zR x2) : TI (d + 10) 126 [.inr 0, .inl x1, .inl x2] Z (QC Z a (geith (gund x2 (-1)) (gout x1 1 4))) := by
  have g := geith_b (gb4 (x := x2) (lo := -1)) (gb3 (x := x1) (lo := 1) (hi := 4))
  exact w126_0 (C_under h2 (by decide) (C_outside h1 (by decide) (by decide) (C_either (zR9 gb4) ⟨zR9 g, fun c => S_50 (by decide) fun Z1 k1 k2 => S_open46 A wx (sq50 (frs.refl _ _) (by decide) k1) (by omega) (fun e => absurd e (by decide)) fun Z2 m z => ⟨h2, fun _ => S_56 (by decide) m z h2 fun r => qok A c m.1, fun _ => S_55 (by decide) z fun r => qok A c m.1⟩, fun c => C_refuse (by omega) (qno A c g)⟩)))
theorem T_highest {x1 : Int} (A : CX Z a) (wx : WX a) (h1 : zR x1) : TI (d + 10) 127 [.inr 0, .inl x1] Z (QC Z a (gout x1 0 4)) :=
  w127_0 (C_outside h1 (by decide) (by decide) ⟨zR9 gb3, fun c => S_50 (by decide) fun Z1 k1 k2 => S_open50 A wx (sq50 (frs.refl _ _) (by decide) k1) (by omega) (fun e => absurd e (by decide)) fun Z2 m z => qok A c m.1, fun c => C_refuse (by have := @gb3 x1 0 4; omega) (qno A c gb3)⟩)
theorem T_plays {x1 : Int} (A : CX Z a) (wx : WX a) (h1 : zR x1) : TI (d + 10) 128 [.inr 0, .inl x1] Z (QC Z a (geith (gund x1 (-1)) (gunfit a 63))) := by
  have g := geith_b (gb4 (x := x1) (lo := -1)) (gunfit_b (a := a) (x := 63))
  exact w128_0 (C_under h1 (by decide) (C_unfit A (by decide) (C_either (zR9 gb4) ⟨zR9 g, fun c => S_50 (by decide) fun Z1 k1 k2 => S_51 (by decide) fun Z3 k3 => S_open54 A wx (sq50 (sq50 (frs.refl _ _) (by decide) k1) (by decide) k3) (by rw [k3 54 (by decide)]; omega) (fun e => absurd e (by decide)) fun Z2 m z => ⟨h1, fun _ => S_56 (by decide) m z h1 fun r => qok A c m.1, fun _ => ⟨z 54 4 (by decide) (by decide), fun _ => qok A c m.1, fun _ => qok A c m.1⟩⟩, fun c => C_refuse (by omega) (qno A c g)⟩)))
theorem T_whoMoved {x1 : Int} (A : CX Z a) (wx : WX a) (h1 : zR x1) : TI (d + 10) 129 [.inr 0, .inl x1] Z (QC Z a (geith (gunk x1 2) (gunfit a 6))) := by
  have g := geith_b (gb2 (x := x1) (m := 2)) (gunfit_b (a := a) (x := 6))
  exact w129_0 (C_unknown h1 (by decide) (C_unfit A (by decide) (C_either (zR9 gb2) ⟨zR9 g, fun c => S_50 (by decide) fun Z1 k1 k2 => S_51 (by decide) fun Z3 k3 => S_open58 A wx (sq50 (sq50 (frs.refl _ _) (by decide) k1) (by decide) k3) (by rw [k3 58 (by decide)]; omega) (fun e => absurd e (by decide)) fun Z2 m z => ⟨h1, fun _ => ⟨h1, fun _ => S_55 (by decide) z fun r => qok A c m.1, fun _ => qok A c m.1⟩, fun _ => qok A c m.1⟩, fun c => C_refuse (by omega) (qno A c g)⟩)))
def clured (a : gX) (x1 x2 x3 : Int) : Int := geith (gin a.1.1 x1) (geith (gin a.1.2.1 x2) (gund x3 (-1)))
theorem T_lured {x1 x2 x3 : Int} (A : CX Z a) (wx : WX a) (h1 : zR x1) (h2 : zR x2) (h3 : zR x3) : TI (d + 10) 130 [.inr 0, .inl x1, .inl x2, .inl x3] Z (QC Z a (clured a x1 x2 x3)) := by
  have hn : 0 ≤ a.1.1 ∧ a.1.1 ≤ 8 := wx.1.1.1
  have hW : 5 ≤ a.1.2.1 ∧ a.1.2.1 ≤ 6 := wx.1.1.2.1
  have g2 := geith_b (gb1 (W := a.1.2.1) (w := x2)) (gb4 (x := x3) (lo := -1))
  have g := geith_b (gb1 (W := a.1.1) (w := x1)) g2
  refine w130_0 (C_noBird h1 A.1.1 (by unfold zR; omega) (C_noWire h2 A.1.2.1 (by unfold zR; omega) (C_under h3 (by decide) (C_either (zR9 gb1) (C_either (zR9 gb1) ⟨zR9 g, fun c => S_50 (by decide) fun Z1 k1 k2 Z14 e14 Z15 e15 => ?_, fun c => C_refuse (by omega) (qno A c g)⟩)))))
  have c1 := gin_0.mp (geith_0.mp c).1
  refine S_open62 A wx (fun q hq => ?_) ?_ (fun _ => ?_) fun Z2 m z => ⟨h3, fun _ => S_56 (by decide) m z h3 fun r => qok A c m.1, fun _ => S_55 (by decide) z fun r => qok A c m.1⟩
  · have n62 : q ≠ 62 := fun e => hq (by subst e; unfold SQ; omega)
    subst e15 e14; funext p
    rw [zup_cell _ _ _ _ n62, zup_cell _ _ _ _ n62, k1 q n62]
  · subst e15 e14
    rw [zup_place _ _ _ _ (by decide), zup_place _ _ _ _ (by decide), k2]; decide
  · subst e15 e14
    rw [zup_place _ _ _ _ (by decide), zup_same]; exact c1
theorem T_gather {x1 : Int} (A : CX Z a) (wx : WX a) (h1 : zR x1) : TI (d + 10) 131 [.inr 0, .inl x1] Z (QC Z a (gout x1 1 6)) := by
  refine w131_0 (C_outside h1 (by decide) (by decide) ⟨zR9 gb3, fun c => S_50 (by decide) fun Z1 k1 k2 Z6 e6 => S_open66 A wx (sq50 (sq50 (frs.refl _ _) (by decide) k1) (q2 := 66) (by decide) fun c hc => ?_) ?_ (fun e => absurd e (by decide)) fun Z2 m z => S_55 (by decide) z fun r => qok A c m.1, fun c => C_refuse (by have := @gb3 x1 1 6; omega) (qno A c gb3)⟩)
  · subst e6; funext p; rw [zup_cell _ _ _ _ hc]
  · subst e6; rw [zup_place _ _ _ _ (by decide), k2]; decide
end
