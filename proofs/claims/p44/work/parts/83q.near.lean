/-! LOOKS with their very answers: near -/
def gsc (C T : Int → Int) : Nat → Int
  | 0 => 0
  | m + 1 => gsc C T m + T m * C m
theorem gsc_sum {n : Int} {P T : Int → Int} : ∀ m : Nat, gsum n P T m = gsc (fun w => cnt P w n.toNat) T m
  | 0 => rfl
  | m + 1 => by
    show gsum n P T m + T m * cnt P m n.toNat = gsc (fun w => cnt P w n.toNat) T m + T m * cnt P m n.toNat
    rw [gsc_sum m]
def gshift (C : Int → Int) (x y : Int) : Int → Int := fun w => C w + ((if y = w then 1 else 0) - (if x = w then 1 else 0))
theorem gshift_cnt {n b to : Int} {P : Int → Int} (hb : 0 ≤ b ∧ b < n) : (fun w => cnt (gup P b to) w n.toNat) = gshift (fun w => cnt P w n.toNat) (P b) to := by
  funext w
  show cnt (gup P b to) w n.toNat = cnt P w n.toNat + _
  rw [cnt_up hb.1, if_pos (by omega)]
/-- one bird's move from w to a wire beside it -/
def gmove (W : Int) (C : Int → Int) (w to : Int) : Prop := (0 ≤ w ∧ w < W) ∧ (to = w - 1 ∨ to = w + 1) ∧ 0 < C w ∧ (0 ≤ to ∧ to < W) ∧ C to < 4
def gmoveb (W : Int) (C : Int → Int) (w to : Int) : Bool := decide (0 ≤ w) && decide (w < W) && (decide (to = w - 1) || decide (to = w + 1)) && decide (0 < C w) && decide (0 ≤ to) && decide (to < W) && decide (C to < 4)
theorem gmoveb_iff {W w to : Int} {C : Int → Int} : gmoveb W C w to = true ↔ gmove W C w to := by
  unfold gmoveb gmove
  simp only [Bool.and_eq_true, Bool.or_eq_true, decide_eq_true_eq]
  constructor
  · rintro ⟨⟨⟨⟨⟨⟨h1, h2⟩, h3⟩, h4⟩, h5⟩, h6⟩, h7⟩; exact ⟨⟨h1, h2⟩, h3, h4, ⟨h5, h6⟩, h7⟩
  · rintro ⟨⟨h1, h2⟩, h3, h4, ⟨h5, h6⟩, h7⟩; exact ⟨⟨⟨⟨⟨⟨h1, h2⟩, h3⟩, h4⟩, h5⟩, h6⟩, h7⟩
def gshowC (W : Int) (T C : Int → Int) : Int := (gsc C T W.toNat).tmod 12
/-- by exactly so many moves h is shown -/
def gN (W : Int) (T : Int → Int) (h : Int) : Nat → (Int → Int) → Bool
  | 0, C => decide (gshowC W T C = h)
  | n + 1, C => ([0, 1, 2, 3, 4, 5] : List Int).any fun w => (gmoveb W C w (w - 1) && gN W T h n (gshift C w (w - 1))) || (gmoveb W C w (w + 1) && gN W T h n (gshift C w (w + 1)))
theorem gN_s {W h : Int} {T C : Int → Int} (hW : W ≤ 6) {n : Nat} : gN W T h (n + 1) C = true ↔ ∃ w to, gmove W C w to ∧ gN W T h n (gshift C w to) = true := by
  have e0 : gN W T h (n + 1) C = ([0, 1, 2, 3, 4, 5] : List Int).any fun w => (gmoveb W C w (w - 1) && gN W T h n (gshift C w (w - 1))) || (gmoveb W C w (w + 1) && gN W T h n (gshift C w (w + 1))) := rfl
  rw [e0, List.any_eq_true]
  constructor
  · rintro ⟨w, hw, h⟩
    rw [Bool.or_eq_true, Bool.and_eq_true, Bool.and_eq_true, gmoveb_iff, gmoveb_iff] at h
    rcases h with ⟨h1, h2⟩ | ⟨h1, h2⟩
    · exact ⟨w, w - 1, h1, h2⟩
    · exact ⟨w, w + 1, h1, h2⟩
  · rintro ⟨w, to, h1, h2⟩
    have b := h1.1
    refine ⟨w, ?_, ?_⟩
    · simp only [List.mem_cons, List.not_mem_nil, or_false]; omega
    · rw [Bool.or_eq_true, Bool.and_eq_true, Bool.and_eq_true, gmoveb_iff, gmoveb_iff]
      rcases h1.2.1 with e | e
      · rw [e] at h1 h2; exact Or.inl ⟨h1, h2⟩
      · rw [e] at h1 h2; exact Or.inr ⟨h1, h2⟩
def gC0 (a : gX) : Int → Int := fun w => cnt a.1.2.2.2.2.2.1 w a.1.1.toNat
def gNa (a : gX) (h : Int) (n : Nat) : Bool := gN a.1.2.1 a.1.2.2.2.2.2.2 h n (gC0 a)
def vNear (a : gX) (h : Int) : Int := if gNa a h 0 = true then 0 else if gNa a h 1 = true then 1 else if gNa a h 2 = true then 2 else if gNa a h 3 = true then 3 else -9
/-- r is the fewest moves, l at most; a million: none -/
def IsD (W : Int) (T : Int → Int) (h : Int) (C : Int → Int) (l : Nat) (r : Int) : Prop := (r = 1000000 ∧ ∀ n : Nat, n ≤ l → ¬ gN W T h n C = true) ∨ (∃ k : Nat, r = k ∧ k ≤ l ∧ gN W T h k C = true ∧ ∀ n : Nat, n < k → ¬ gN W T h n C = true)
/-- the same, of the moves in D as the first -/
def LowD (W : Int) (T : Int → Int) (h : Int) (C : Int → Int) (l : Nat) (D : Int → Int → Prop) (r : Int) : Prop := (r = 1000000 ∧ ∀ w to, gmove W C w to → D w to → ∀ n : Nat, n ≤ l → ¬ gN W T h n (gshift C w to) = true) ∨ (∃ k : Nat, r = (k : Int) + 1 ∧ k ≤ l ∧ (∃ w to, gmove W C w to ∧ gN W T h k (gshift C w to) = true) ∧ ∀ w to, gmove W C w to → D w to → ∀ n : Nat, n < k → ¬ gN W T h n (gshift C w to) = true)
theorem LowD.le {W h r : Int} {T C : Int → Int} {l : Nat} {D D' : Int → Int → Prop} (x : LowD W T h C l D r) (m : ∀ w to, gmove W C w to → D' w to → D w to) : LowD W T h C l D' r := by
  rcases x with ⟨h1, h2⟩ | ⟨k, h1, h2, h3, h4⟩
  · exact Or.inl ⟨h1, fun w to g d => h2 w to g (m w to g d)⟩
  · exact Or.inr ⟨k, h1, h2, h3, fun w to g d => h4 w to g (m w to g d)⟩
theorem LowD.up {W h r r' x y : Int} {T C : Int → Int} {l : Nat} {D D' : Int → Int → Prop} (q : LowD W T h C l D r) (hl : l ≤ 1000) (g : gmove W C x y) (i : IsD W T h (gshift C x y) l r') (m : ∀ w to, gmove W C w to → D' w to → D w to ∨ (w = x ∧ to = y)) : LowD W T h C l D' (min r (1 + r')) := by
  rcases q with ⟨h1, h2⟩ | ⟨k, h1, h2, h3, h4⟩
  · rcases i with ⟨i1, i2⟩ | ⟨k', i1, i2, i3, i4⟩
    · refine Or.inl ⟨by omega, fun w to g' d' n hn => ?_⟩
      rcases m w to g' d' with d | ⟨e1, e2⟩
      · exact h2 w to g' d n hn
      · rw [e1, e2]; exact i2 n hn
    · refine Or.inr ⟨k', by omega, i2, ⟨x, y, g, i3⟩, fun w to g' d' n hn => ?_⟩
      rcases m w to g' d' with d | ⟨e1, e2⟩
      · exact h2 w to g' d n (by omega)
      · rw [e1, e2]; exact i4 n hn
  · rcases i with ⟨i1, i2⟩ | ⟨k', i1, i2, i3, i4⟩
    · refine Or.inr ⟨k, by omega, h2, h3, fun w to g' d' n hn => ?_⟩
      rcases m w to g' d' with d | ⟨e1, e2⟩
      · exact h4 w to g' d n hn
      · rw [e1, e2]; exact i2 n (by omega)
    · by_cases c : k ≤ k'
      · refine Or.inr ⟨k, by omega, h2, h3, fun w to g' d' n hn => ?_⟩
        rcases m w to g' d' with d | ⟨e1, e2⟩
        · exact h4 w to g' d n hn
        · rw [e1, e2]; exact i4 n (by omega)
      · refine Or.inr ⟨k', by omega, i2, ⟨x, y, g, i3⟩, fun w to g' d' n hn => ?_⟩
        rcases m w to g' d' with d | ⟨e1, e2⟩
        · exact h4 w to g' d n (by omega)
        · rw [e1, e2]; exact i4 n hn
theorem LowD.end {W h r : Int} {T C : Int → Int} {l : Nat} {D : Int → Int → Prop} (hW : W ≤ 6) (q : LowD W T h C l D r) (hD : ∀ w to, gmove W C w to → D w to) (h0 : ¬ gN W T h 0 C = true) : IsD W T h C (l + 1) r := by
  rcases q with ⟨h1, h2⟩ | ⟨k, h1, h2, ⟨w, to, h3, h3'⟩, h4⟩
  · refine Or.inl ⟨h1, fun n hn => ?_⟩
    cases n with
    | zero => exact h0
    | succ n =>
      intro t
      obtain ⟨w, to, g, t⟩ := (gN_s hW).mp t
      exact h2 w to g (hD w to g) n (by omega) t
  · refine Or.inr ⟨k + 1, by omega, by omega, (gN_s hW).mpr ⟨w, to, h3, h3'⟩, fun n hn => ?_⟩
    cases n with
    | zero => exact h0
    | succ n =>
      intro t
      obtain ⟨w, to, g, t⟩ := (gN_s hW).mp t
      exact h4 w to g (hD w to g) n (by omega) t
def NW (Z1 : zM) (W : Int) (T C : Int → Int) : Prop := Z1 19 6 = W ∧ (5 ≤ W ∧ W ≤ 6) ∧ ∀ w, 0 ≤ w → w < 6 → (Z1 24 w = T w ∧ 0 ≤ T w ∧ T w ≤ 11) ∧ (Z1 23 w = C w ∧ 0 ≤ C w ∧ C w ≤ 8)
section
variable {d : Nat} {Z Z1 Z2 : zM} {a : gX} {s : gS} {i : Int}
theorem gsc_b {T C : Int → Int} (h : ∀ w, 0 ≤ w → w < 6 → (0 ≤ T w ∧ T w ≤ 11) ∧ 0 ≤ C w ∧ C w ≤ 8) : ∀ m : Nat, m ≤ 6 → 0 ≤ gsc C T m ∧ gsc C T m ≤ 88 * m
  | 0, _ => by unfold gsc; omega
  | m + 1, hm => by
    have ih := gsc_b h m (by omega)
    have b := h m (by omega) (by omega)
    have := mulb b.1.1 b.1.2 b.2.1 b.2.2
    unfold gsc
    omega
theorem NW_shows {W : Int} {T C : Int → Int} {Q : Int → zM → Prop} (v : NW Z1 W T C) (hQ : Q (gshowC W T C) Z1) : TI d 22 [.inr 19] Z1 Q := by
  obtain ⟨e6, hW, b⟩ := v
  have bb := gsc_b (T := T) (C := C) (fun w h1 h2 => ⟨(b w h1 h2).1.2, (b w h1 h2).2.2⟩)
  refine w22_0 zF19 ?_
  suffices H : ∀ (f m : Nat) (x2 : Int), x2 = m → f = W.toNat - m → m ≤ W.toNat → TZ d 22 4 [some (.inr 19), some (.inl (gsc C T m)), some (.inl x2)] [] Z1 (zri Q) from H _ 0 0 rfl rfl (by omega)
  intro f
  induction f with
  | zero =>
    intro m x2 e y1 y2
    have em : m = W.toNat := by omega
    subst em
    have := bb W.toNat (by omega)
    exact w22_4 zF19 ⟨by unfold zR; omega, by unfold zR; omega, fun _ => ⟨by unfold zR; omega, hQ⟩, fun y => absurd (show Z1 19 6 ≤ x2 by omega) y⟩
  | succ f ih =>
    intro m x2 e y1 y2
    have c := b x2 (by omega) (by omega)
    have st : gsc C T (m + 1) = gsc C T m + T m * C m := rfl
    have := ih (m + 1) (x2 + 1) (by omega) (by omega) (by omega)
    rw [st, ← e] at this
    refine w22_4 zF19 ⟨by unfold zR; omega, by unfold zR; omega, fun c => by omega, fun y => ⟨by omega, by omega, ?_⟩⟩
    show TZ d 22 4 [some (.inr 19), some (.inl (gsc C T m + Z1 24 x2 * Z1 23 x2)), some (.inl (x2 + 1))] [] Z1 (zri Q)
    rw [c.1.1, c.2.1]; exact this
theorem NW_room {W w : Int} {T C : Int → Int} {Q : Int → zM → Prop} (v : NW Z1 W T C) (hw : zR w) (h1 : (0 ≤ w ∧ w < W) ∧ C w < 4 → Q 1 Z1) (h0 : ¬ ((0 ≤ w ∧ w < W) ∧ C w < 4) → Q 0 Z1) : TI d 17 [.inr 19, .inl w] Z1 Q := by
  obtain ⟨e6, hW, b⟩ := v
  refine w17_0 zF19 ⟨hw, fun _ => h0 (by omega), fun p => ⟨hw, by unfold zR; omega, fun _ => h0 (by omega), fun q => ⟨by omega, ?_⟩⟩⟩
  have c := b w (by omega) (by omega)
  show zR (Z1 23 w) ∧ (4 ≤ Z1 23 w → Q 0 Z1) ∧ (¬ 4 ≤ Z1 23 w → Q 1 Z1)
  rw [c.2.1]
  exact ⟨by unfold zR; omega, fun _ => h0 (by omega), fun _ => h1 (by omega)⟩
theorem F_moves {x1 W : Int} {T : Int → Int} (h1 : zR x1) : ∀ (l : Nat) {Z1 : zM} {C : Int → Int} {Q : Int → zM → Prop}, l ≤ 3 → NW Z1 W T C → (∀ r, 0 ≤ r → r ≤ 1000000 → IsD W T x1 C l r → Q r Z1) → TI (d + l + 1) 134 [.inr 19, .inl x1, .inl (l : Int)] Z1 Q
  | 0, Z1, C, Q, hl, v, hQ => by
    obtain ⟨e6, hW, b⟩ := id v
    have bb := gsc_b (T := T) (C := C) (fun w h1 h2 => ⟨(b w h1 h2).1.2, (b w h1 h2).2.2⟩) W.toNat (by omega)
    have sb : 0 ≤ gshowC W T C ∧ gshowC W T C < 12 := by
      unfold gshowC
      rw [Int.tmod_eq_emod_of_nonneg bb.1]; omega
    refine w134_0 zF19 (NW_shows v ⟨by unfold zR; omega, h1, fun c => ⟨by decide, fun y => absurd y (by decide), fun _ => hQ _ (by decide) (by decide) (Or.inl ⟨rfl, fun n hn => ?_⟩)⟩, fun c => hQ _ (by decide) (by decide) (Or.inr ⟨0, rfl, Nat.le_refl _, ?_, fun n hn => by omega⟩)⟩)
    · rw [show n = 0 by omega]
      unfold gN
      rw [decide_eq_false c]; decide
    · unfold gN
      exact decide_eq_true (by omega)
  | l + 1, Z1, C, Q, hl, v, hQ => by
    obtain ⟨e6, hW, b⟩ := id v
    have bb := gsc_b (T := T) (C := C) (fun w h1 h2 => ⟨(b w h1 h2).1.2, (b w h1 h2).2.2⟩) W.toNat (by omega)
    have sb : 0 ≤ gshowC W T C ∧ gshowC W T C < 12 := by
      unfold gshowC
      rw [Int.tmod_eq_emod_of_nonneg bb.1]; omega
    refine w134_0 zF19 (NW_shows v ⟨by unfold zR; omega, h1, fun c => ⟨by unfold zR; omega, fun h0 => ?_, fun y => by omega⟩, fun c => hQ _ (by decide) (by decide) (Or.inr ⟨0, rfl, by omega, by unfold gN; exact decide_eq_true (by omega), fun n hn => by omega⟩)⟩)
    have n0 : ¬ gN W T x1 0 C = true := by
      unfold gN
      rw [decide_eq_false c]; decide
    suffices H : ∀ (g : Nat) (x3 x4 : Int) (o5 : Option zV), g = (W - x4).toNat → 0 ≤ x4 → x4 ≤ W → 0 ≤ x3 → x3 ≤ 1000000 → LowD W T x1 C l (fun w _ => w < x4) x3 → TZ (d + l + 1 + 1) 134 25 [some (.inr 19), some (.inl x1), some (.inl ((l + 1 : Nat) : Int)), some (.inl x3), some (.inl x4), o5] [] Z1 (zri Q) from H _ 1000000 0 none rfl (by decide) (by omega) (by decide) (by decide) (Or.inl ⟨rfl, fun w to g q => by have := g.1; omega⟩)
    intro g
    induction g with
    | zero =>
      intro x3 x4 o5 eg y1 y2 y3 y4 lo
      refine w134_25 zF19 ⟨by unfold zR; omega, by unfold zR; omega, fun _ => ⟨by unfold zR; omega, ?_⟩, fun y => absurd (show Z1 19 6 ≤ x4 by omega) y⟩
      rw [show min x3 1000000 = x3 by omega]
      exact hQ _ y3 y4 (LowD.end (by omega) lo (fun w to g => by have := g.1; omega) n0)
    | succ g ih =>
      intro x3 x4 o5 eg y1 y2 y3 y4 lo
      refine w134_25 zF19 ⟨by unfold zR; omega, by unfold zR; omega, fun c => by omega, fun y => ?_⟩
      have c4 := (b x4 y1 (by omega)).2
      -- one step to the wire x5
      have one : ∀ (x3 x5 : Int), (x5 = x4 - 1 ∨ x5 = x4 + 1) → 0 ≤ x3 → x3 ≤ 1000000 → LowD W T x1 C l (fun w to => w < x4 ∨ (w = x4 ∧ to < x5)) x3 → (∀ x3, 0 ≤ x3 → x3 ≤ 1000000 → LowD W T x1 C l (fun w to => w < x4 ∨ (w = x4 ∧ to < x5 + 2)) x3 → TZ (d + l + 1 + 1) 134 40 [some (.inr 19), some (.inl x1), some (.inl ((l + 1 : Nat) : Int)), some (.inl x3), some (.inl x4), some (.inl (x5 + 2))] [] Z1 (zri Q)) → TZ (d + l + 1 + 1) 134 40 [some (.inr 19), some (.inl x1), some (.inl ((l + 1 : Nat) : Int)), some (.inl x3), some (.inl x4), some (.inl x5)] [] Z1 (zri Q) := by
        intro x3 x5 z1 z3 z4 lo k
        have skip : ¬ gmove W C x4 x5 → LowD W T x1 C l (fun w to => w < x4 ∨ (w = x4 ∧ to < x5 + 2)) x3 := fun n => lo.le fun w to g d => by
          rcases d with d | ⟨d1, d2⟩
          · exact Or.inl d
          · have g2 := g.2.1
            by_cases e : to = x5
            · rw [d1, e] at g; exact absurd g n
            · exact Or.inr ⟨d1, by omega⟩
        refine w134_40 zF19 ⟨by unfold zR; omega, by unfold zR; omega, fun c => by omega, fun z => ⟨by omega, ?_⟩⟩
        show zR (Z1 23 x4) ∧ (Z1 23 x4 ≤ 0 → _) ∧ (¬ Z1 23 x4 ≤ 0 → _)
        rw [c4.1]
        refine ⟨by unfold zR; omega, fun p => k x3 z3 z4 (skip fun g => by have := g.2.2.1; omega), fun p => NW_room v (by unfold zR; omega) (fun q => ⟨by decide, fun t => absurd t (by decide), fun _ => ?_⟩) (fun q => ⟨by decide, fun _ => k x3 z3 z4 (skip fun g => q ⟨g.2.2.2.1, g.2.2.2.2⟩), fun t => absurd rfl t⟩)⟩
        have gm : gmove W C x4 x5 := ⟨by omega, z1, by omega, q.1, q.2⟩
        have ne : x4 ≠ x5 := by omega
        refine w19_0 zF19 ⟨by omega, by omega, fun Z3 e3 => ⟨by omega, by omega, fun Z6 e6' => ?_⟩⟩
        have c5 := (b x5 q.1.1 (by omega)).2
        have v6 : NW Z6 W T (gshift C x4 x5) := by
          refine ⟨?_, hW, fun w w1 w2 => ?_⟩
          · rw [e6', e3, zup_cell _ _ _ _ (by decide), zup_cell _ _ _ _ (by decide)]; exact e6
          · have cw := b w w1 w2
            have k1 : Z6 24 w = Z1 24 w := by rw [e6', e3, zup_cell _ _ _ _ (by decide), zup_cell _ _ _ _ (by decide)]
            rw [k1]
            refine ⟨cw.1, ?_⟩
            have e7 : Z6 23 w = gshift C x4 x5 w := by
              rw [e6', e3]
              unfold gshift
              by_cases w5 : w = x5
              · subst w5
                rw [show (19 : Nat) + 4 = 23 from rfl, zup_same, zup_place _ _ _ _ (Ne.symm ne), c5.1, if_pos rfl, if_neg ne]; omega
              · rw [zup_place _ _ _ _ w5, if_neg (fun e => w5 e.symm)]
                by_cases w4 : w = x4
                · subst w4
                  rw [show (19 : Nat) + 4 = 23 from rfl, zup_same, c4.1, if_pos rfl]; omega
                · rw [zup_place _ _ _ _ w4, if_neg (fun e => w4 e.symm), cw.2.1]; omega
            refine ⟨e7, ?_⟩
            unfold gshift
            have q2 := q.2
            by_cases w5 : x5 = w
            · subst w5
              rw [if_pos rfl, if_neg ne]; omega
            · rw [if_neg w5]
              by_cases w4 : x4 = w
              · subst w4
                rw [if_pos rfl]; omega
              · rw [if_neg w4]; omega
        rw [show ((l + 1 : Nat) : Int) - 1 = (l : Int) by omega]
        refine F_moves h1 l (by omega) v6 fun r r1 r2 ri => ⟨by unfold zR; omega, by unfold zR; omega, w19_0 zF19 ⟨by omega, by omega, fun Z8 e8 => ⟨by omega, by omega, fun Z9 e9 => ?_⟩⟩⟩
        rw [shift_id ne e3 e6' e8 e9]
        refine k _ (by omega) (by omega) (LowD.up lo (by omega) gm ri fun w to g d => ?_)
        have g2 := g.2.1
        rcases d with d | ⟨d1, d2⟩
        · exact Or.inl (Or.inl d)
        · by_cases e : to = x5
          · exact Or.inr ⟨d1, e⟩
          · exact Or.inl (Or.inr ⟨d1, by omega⟩)
      refine one x3 (x4 - 1) (Or.inl rfl) y3 y4 (lo.le fun w to g d => by have := g.2.1; omega) fun x3 z3 z4 lo2 => ?_
      rw [show x4 - 1 + 2 = x4 + 1 by omega] at lo2 ⊢
      refine one x3 (x4 + 1) (Or.inr rfl) z3 z4 lo2 fun x3 z3 z4 lo3 => ?_
      exact w134_40 zF19 ⟨by unfold zR; omega, by unfold zR; omega, fun _ => ih _ _ _ (by omega) (by omega) (by omega) z3 z4 (lo3.le fun w to g d => by have := g.2.1; omega), fun z => absurd (show x4 + 1 < x4 + 1 + 2 by omega) z⟩
theorem MF.nw (m : MF Z Z1 a.1) (wx : WX a) : NW Z1 a.1.2.1 a.1.2.2.2.2.2.2 (gC0 a) := by
  have hn : 0 ≤ a.1.1 ∧ a.1.1 ≤ 8 := wx.1.1.1
  refine ⟨m.2.2.1, wx.1.1.2.1, fun w w1 w2 => ?_⟩
  have e := m.2.2.2.2.2 w w1 w2
  have c := cnt_b a.1.2.2.2.2.2.1 w a.1.1.toNat
  refine ⟨⟨e.1, wx.1.1.2.2.2.2 w w1 w2⟩, e.2, ?_⟩
  show 0 ≤ cnt a.1.2.2.2.2.2.1 w a.1.1.toNat ∧ cnt a.1.2.2.2.2.2.1 w a.1.1.toNat ≤ 8
  omega
theorem X_near {x1 : Int} (A : CX Z a) (wx : WX a) (h1 : zR x1) : TI (d + 6) 133 [.inr 0, .inl x1] Z (PostC Z (oq a (gout x1 0 11) (vNear a x1))) := by
  refine w133_0 (C_outside h1 (by decide) (by decide) ⟨zR9 gb3, fun c => ?_, fun c => C_refuse (by have := @gb3 x1 0 11; omega) (PRq A c gb3)⟩)
  refine F_think A wx (frs.refl _ _) fun Z' m _ => ⟨rfl, F_moves (d := d + 1) h1 3 (by decide) (m.nw wx) fun r r1 r2 ri => ?_⟩
  have ok := PQ (v := vNear a x1) A c m.1
  have ev : vNear a x1 = if 1000000 ≤ r then -9 else r := by
    unfold vNear gNa
    rcases ri with ⟨i1, i2⟩ | ⟨k, i1, i2, i3, i4⟩
    · rw [if_neg (i2 0 (by decide)), if_neg (i2 1 (by decide)), if_neg (i2 2 (by decide)), if_neg (i2 3 (by decide)), if_pos (by omega)]
    · rw [if_neg (show ¬ 1000000 ≤ r by omega)]
      rcases (show k = 0 ∨ k = 1 ∨ k = 2 ∨ k = 3 by omega) with e | e | e | e <;> subst e
      · rw [if_pos i3]; omega
      · rw [if_neg (i4 0 (by decide)), if_pos i3]; omega
      · rw [if_neg (i4 0 (by decide)), if_neg (i4 1 (by decide)), if_pos i3]; omega
      · rw [if_neg (i4 0 (by decide)), if_neg (i4 1 (by decide)), if_neg (i4 2 (by decide)), if_pos i3]; omega
  refine ⟨by unfold zR; omega, fun c2 => ?_, fun c2 => ?_⟩
  · rw [ev, if_pos c2] at ok ⊢; exact ok
  · rw [ev, if_neg c2] at ok ⊢; exact ok
/-! the reference: moves of birds, by number -/
def gmk (n W : Int) : Nat → Int → (Int → Int) → Option (Int → Int)
  | 0, _, P => some P
  | m + 1, k, P =>
    let b := k % 16 / 2
    let to := P b + (if k % 2 = 0 then -1 else 1)
    if b < n ∧ roomb P n W to = true then gmk n W m (k / 16) (gup P b to) else none
theorem WF.up {n W h b x : Int} {K F P T : Int → Int} (wf : WF n W h K F P T) (hx : 0 ≤ x ∧ x < W) : WF n W h K F (gup P b x) T := by
  refine ⟨wf.1, wf.2.1, wf.2.2.1, fun c c1 c2 => ?_, wf.2.2.2.2⟩
  have w := wf.2.2.2.1 c c1 c2
  refine ⟨w.1, w.2.1, ?_⟩
  by_cases e : c = b
  · subst e; rw [gup_same]; exact hx
  · rw [gup_ne _ _ e]; exact w.2.2
/-- by exactly m birds' moves, told by some number, h is shown: as by moves from wire to wire -/
theorem gmk_N {n W h H : Int} {K F T : Int → Int} (hW : W ≤ 6) : ∀ (m : Nat) (P : Int → Int), WF n W H K F P T → ((∃ k : Int, 0 ≤ k ∧ k < 16 ^ m ∧ ∃ P', gmk n W m k P = some P' ∧ gshow n W P' T = h) ↔ gN W T h m (fun w => cnt P w n.toNat) = true)
  | 0, P, wf => by
    unfold gN gshowC
    rw [decide_eq_true_eq, ← gsc_sum]
    constructor
    · rintro ⟨k, h1, h2, P', h3, h4⟩
      have e : P = P' := Option.some.inj h3
      rw [e]; exact h4
    · intro h
      exact ⟨0, by decide, by decide, P, rfl, h⟩
  | m + 1, P, wf => by
    have hn := wf.1
    rw [gN_s hW]
    constructor
    · rintro ⟨k, h1, h2, P', h3, h4⟩
      have st : gmk n W (m + 1) k P = if k % 16 / 2 < n ∧ roomb P n W (P (k % 16 / 2) + (if k % 2 = 0 then -1 else 1)) = true then gmk n W m (k / 16) (gup P (k % 16 / 2) (P (k % 16 / 2) + (if k % 2 = 0 then -1 else 1))) else none := rfl
      rw [st] at h3
      by_cases c : k % 16 / 2 < n ∧ roomb P n W (P (k % 16 / 2) + (if k % 2 = 0 then -1 else 1)) = true
      · rw [if_pos c] at h3
        have rr := roomb_iff.mp c.2
        have r1 := rr.1
        have r2 := rr.2.1
        have r3 := rr.2.2
        have hb : 0 ≤ k % 16 / 2 ∧ k % 16 / 2 < n := by omega
        have pw := (wf.2.2.2.1 _ hb.1 hb.2).2.2
        refine ⟨P (k % 16 / 2), P (k % 16 / 2) + (if k % 2 = 0 then -1 else 1), ⟨pw, ?_, ?_, ⟨r1, r2⟩, r3⟩, ?_⟩
        · split <;> omega
        · exact (cnt_pos n.toNat).mpr ⟨_, hb.1, by omega, rfl⟩
        · rw [← gshift_cnt hb]
          refine (gmk_N hW m _ (wf.up ⟨r1, r2⟩)).mp ⟨k / 16, by omega, ?_, P', h3, h4⟩
          have e : (16 : Int) ^ (m + 1) = 16 ^ m * 16 := Int.pow_succ 16 m
          omega
      · rw [if_neg c] at h3
        cases h3
    · rintro ⟨w, to, g, t⟩
      obtain ⟨b, b1, b2, b3⟩ := (cnt_pos n.toNat).mp g.2.2.1
      have hb : 0 ≤ b ∧ b < n := ⟨b1, by omega⟩
      subst b3
      rw [← gshift_cnt hb] at t
      obtain ⟨k, k1, k2, P', k3, k4⟩ := (gmk_N hW m _ (wf.up g.2.2.2.1)).mpr t
      have e : (16 : Int) ^ (m + 1) = 16 ^ m * 16 := Int.pow_succ 16 m
      have g2 := g.2.1
      refine ⟨2 * b + (if to = P b - 1 then 0 else 1) + 16 * k, by split <;> omega, by split <;> omega, P', ?_, k4⟩
      unfold gmk
      dsimp only
      have q1 : (2 * b + (if to = P b - 1 then 0 else 1) + 16 * k) % 16 / 2 = b := by split <;> omega
      have q2 : (2 * b + (if to = P b - 1 then 0 else 1) + 16 * k) / 16 = k := by split <;> omega
      have q3 : P b + (if (2 * b + (if to = P b - 1 then 0 else 1) + 16 * k) % 2 = 0 then -1 else 1) = to := by
        by_cases c : to = P b - 1
        · rw [if_pos c, if_pos (by omega)]; omega
        · rw [if_neg c, if_neg (by omega)]; omega
      rw [q1, q2, q3, if_pos ⟨hb.2, roomb_iff.mpr ⟨g.2.2.2.1.1, g.2.2.2.1.2, g.2.2.2.2⟩⟩]
      exact k3
theorem G_229 {n W h x1 x2 : Int} {K F P T : Int → Int} {Q : Int → zM → Prop} (wx : WX a) (m : QE Z Z1 a (n, W, h, K, F, P, T)) (wf : WF n W h K F P T) (h1 : 0 ≤ x1 ∧ x1 ≤ 70000) (h2 : 0 ≤ x2 ∧ x2 ≤ 4) (hy : ∀ P' Z2, gmk n W x2.toNat x1 P = some P' → WF n W h K F P' T → QE Z Z2 a (n, W, h, K, F, P', T) → Q 1 Z2) (hn : ∀ P' Z2, gmk n W x2.toNat x1 P = none → QE Z Z2 a (n, W, h, K, F, P', T) → Q 0 Z2) : TI (d + 3) 229 [.inr 100, .inl x1, .inl x2] Z1 Q := by
  refine w229_0 ?_
  suffices H : ∀ (f : Nat) (x3 x4 : Int) (o5 o6 : Option zV) (P2 : Int → Int) (Z1 : zM), f = (x2 - x4).toNat → 0 ≤ x4 → x4 ≤ x2 → 0 ≤ x3 → x3 ≤ 70000 → QE Z Z1 a (n, W, h, K, F, P2, T) → WF n W h K F P2 T → gmk n W f x3 P2 = gmk n W x2.toNat x1 P → TZ (d + 3) 229 5 [some (.inr 100), some (.inl x1), some (.inl x2), some (.inl x3), some (.inl x4), o5, o6] [] Z1 (zri Q) from H _ x1 0 none none P Z1 rfl (by decide) (by omega) h1.1 h1.2 m wf (by rw [Int.sub_zero])
  intro f
  induction f with
  | zero =>
    intro x3 x4 o5 o6 P2 Z1 ef y1 y2 y3 y4 k w hv
    exact w229_5 ⟨by unfold zR; omega, by unfold zR; omega, fun _ => hy P2 Z1 hv.symm w k, fun c => absurd (show x2 ≤ x4 by omega) c⟩
  | succ f ih =>
    intro x3 x4 o5 o6 P2 Z1 ef y1 y2 y3 y4 k w hv
    have e5 : Z1 100 5 = n := k.1.1.1
    have hn8 := w.1
    have hW := w.2.1
    have t1 : Int.tmod x3 16 = x3 % 16 := Int.tmod_eq_emod_of_nonneg y3
    have t2 : Int.tdiv (x3 % 16) 2 = x3 % 16 / 2 := Int.tdiv_eq_ediv_of_nonneg (by omega)
    have t3 : Int.tmod x3 2 = x3 % 2 := Int.tmod_eq_emod_of_nonneg y3
    have t4 : Int.tdiv x3 16 = x3 / 16 := Int.tdiv_eq_ediv_of_nonneg y3
    have st : gmk n W (f + 1) x3 P2 = if x3 % 16 / 2 < n ∧ roomb P2 n W (P2 (x3 % 16 / 2) + (if x3 % 2 = 0 then -1 else 1)) = true then gmk n W f (x3 / 16) (gup P2 (x3 % 16 / 2) (P2 (x3 % 16 / 2) + (if x3 % 2 = 0 then -1 else 1))) else none := rfl
    rw [st] at hv
    refine w229_5 ?_
    rw [t1, t2, t3, t4, e5]
    refine ⟨by unfold zR; omega, by unfold zR; omega, fun c => by omega, fun _ => ⟨by unfold zR; omega, by unfold zR; omega, by unfold zR; omega, by unfold zR; omega, fun c => ?_, fun c => hn P2 Z1 (by rw [← hv, if_neg (fun x => c x.1)]) k⟩⟩
    have es : Z1 105 (x3 % 16 / 2) = P2 (x3 % 16 / 2) := (k.1.1.2.2.2.1 _ (by omega) c).2.2
    have pw := (w.2.2.2.1 (x3 % 16 / 2) (by omega) c).2.2
    rw [es]
    have body : ∀ e : Int, (e = -1 ∨ e = 1) → (if x3 % 2 = 0 then (-1 : Int) else 1) = e → TI (d + 2) 227 [.inr 100, .inl (x3 % 16 / 2), .inl (P2 (x3 % 16 / 2) + e)] Z1 (fun r14 Z13 => zR r14 ∧ (r14 ≠ 0 → ((0 ≤ x3 % 16 / 2 ∧ x3 % 16 / 2 < 8) ∧ ∀ Z18, Z18 = zup Z13 105 (x3 % 16 / 2) (P2 (x3 % 16 / 2) + e) → zR x3 ∧ TZ (d + 3) 229 5 [some (.inr 100), some (.inl x1), some (.inl x2), some (.inl (x3 / 16)), some (.inl (x4 + 1)), some (.inl (x3 % 16 / 2)), some (.inl (P2 (x3 % 16 / 2) + e))] [] Z18 (zri Q))) ∧ (¬ r14 ≠ 0 → Q 0 Z13)) := by
      intro e he ee
      rw [ee] at hv
      refine R_move (n := n) (W := W) (h := h) (K := K) (F := F) (P := P2) (T := T) k.1.1 w.pb (by unfold zR; omega) (by unfold zR; omega) (fun r => ⟨by decide, fun _ => ⟨by omega, fun Z18 e18 => ⟨by unfold zR; omega, ?_⟩⟩, fun q => absurd (show (1 : Int) ≠ 0 by decide) q⟩) (fun r => ⟨by decide, fun q => absurd rfl q, fun _ => hn P2 Z1 (by rw [← hv, if_neg (fun x => r x.2)]) k⟩)
      have rr := roomb_iff.mp r
      rw [if_pos ⟨c, r⟩] at hv
      have fr : fR SP Z1 Z18 := by subst e18; exact fR_up (show SP 105 (x3 % 16 / 2) by unfold SP; rfl)
      have k2 : QE Z Z18 a (n, W, h, K, F, gup P2 (x3 % 16 / 2) (P2 (x3 % 16 / 2) + e), T) := ⟨k.1.step2 wx (by subst e18; exact RF.sit k.1.1 (by omega)) fr, fun q hq => by rw [← k.2 q hq]; exact funext fun p => fr q p (by unfold SP; omega)⟩
      exact ih _ _ _ _ _ _ (by omega) (by omega) (by omega) (by omega) (by omega) k2 (w.up ⟨rr.1, rr.2.1⟩) hv
    refine ⟨by omega, by unfold zR; omega, by unfold zR; omega, fun q => body 1 (Or.inr rfl) (if_neg q), fun q => body (-1) (Or.inl rfl) (if_pos (by omega))⟩
theorem G_230 {x1 x2 : Int} {Q : Int → zM → Prop} (m : QS Z Z1 a) (wx : WX a) (h1 : zR x1) (h2 : 0 ≤ x2 ∧ x2 ≤ 3) (hy : gNa a x1 x2.toNat = true → ∀ Z2, QS Z Z2 a → Q 1 Z2) (hn : ¬ gNa a x1 x2.toNat = true → ∀ Z2, QS Z Z2 a → Q 0 Z2) : TI (d + 4) 230 [.inr 100, .inl x1, .inl x2] Z1 Q := by
  have hW : 5 ≤ a.1.2.1 ∧ a.1.2.1 ≤ 6 := wx.1.1.2.1
  have key := gmk_N (n := a.1.1) (W := a.1.2.1) (h := x1) (H := a.1.2.2.1) (K := a.1.2.2.2.1) (F := a.1.2.2.2.2.1) (T := a.1.2.2.2.2.2.2) (by omega) x2.toNat a.1.2.2.2.2.2.1 wx.1.1
  have last : ∀ (f : Nat) (x3 x4 : Int) (o5 : Option zV) (Z1 : zM), x3 = 16 ^ x2.toNat → x3 ≤ 70000 → f = (x3 - x4).toNat → 0 ≤ x4 → x4 ≤ x3 → QS Z Z1 a → (∀ k : Int, 0 ≤ k → k < x4 → ∀ P', gmk a.1.1 a.1.2.1 x2.toNat k a.1.2.2.2.2.2.1 = some P' → ¬ gshow a.1.1 a.1.2.1 P' a.1.2.2.2.2.2.2 = x1) → TZ (d + 4) 230 25 [some (.inr 100), some (.inl x1), some (.inl x2), some (.inl x3), some (.inl x4), o5] [] Z1 (zri Q) := by
    intro f
    induction f with
    | zero =>
      intro x3 x4 o5 Z1 e3 b3 ef y1 y2 l no
      refine w230_25 ⟨by unfold zR; omega, by unfold zR; omega, fun _ => hn (fun t => ?_) Z1 l, fun c => absurd (show x3 ≤ x4 by omega) c⟩
      obtain ⟨k, k1, k2, P', k3, k4⟩ := key.mpr t
      exact no k k1 (by omega) P' k3 k4
    | succ f ih =>
      intro x3 x4 o5 Z1 e3 b3 ef y1 y2 l no
      have nx : ∀ Z4, QS Z Z4 a → (∀ P', gmk a.1.1 a.1.2.1 x2.toNat x4 a.1.2.2.2.2.2.1 = some P' → ¬ gshow a.1.1 a.1.2.1 P' a.1.2.2.2.2.2.2 = x1) → TZ (d + 4) 230 25 [some (.inr 100), some (.inl x1), some (.inl x2), some (.inl x3), some (.inl (x4 + 1)), some (.inl 0)] [] Z4 (zri Q) := fun Z4 l4 n4 => ih x3 (x4 + 1) _ Z4 e3 b3 (by omega) (by omega) (by omega) l4 fun k k1 k2 P' => by
        by_cases e : k = x4
        · rw [e]; exact n4 P'
        · exact no k k1 (by omega) P'
      refine w230_25 ⟨by unfold zR; omega, by unfold zR; omega, fun c => by omega, fun _ => G_thinks l wx fun Z2 k s => G_229 wx k wx.1.1 (by omega) (by omega) (fun P' Z3 g w k3 => ⟨by decide, fun q => absurd q (by decide), fun _ => ?_⟩) (fun P' Z3 g k3 => ⟨by decide, fun _ => G_forgets k3 wx fun Z4 l4 _ => nx Z4 l4 fun P' e => ?_, fun q => absurd rfl q⟩)⟩
      · have sb : 0 ≤ gshow a.1.1 a.1.2.1 P' a.1.2.2.2.2.2.2 ∧ gshow a.1.1 a.1.2.1 P' a.1.2.2.2.2.2.2 < 12 := gshow_b w
        refine R_shown (n := a.1.1) (W := a.1.2.1) (h := a.1.2.2.1) (K := a.1.2.2.2.1) (F := a.1.2.2.2.2.1) (P := P') (T := a.1.2.2.2.2.2.2) k3.1.1 w ⟨by unfold zR; omega, h1, fun q => G_forgets k3 wx fun Z4 l4 _ => nx Z4 l4 fun P2 e => ?_, fun q => G_forgets k3 wx fun Z4 l4 _ => hy (key.mp ⟨x4, y1, by omega, P', g, by omega⟩) Z4 l4⟩
        rw [g] at e
        rw [← Option.some.inj e]; exact q
      · rw [g] at e; cases e
  refine w230_0 ?_
  suffices H : ∀ (f m : Nat) (x3 x4 : Int), x4 = m → f = (x2 - x4).toNat → x4 ≤ x2 → x3 = 16 ^ m → TZ (d + 4) 230 5 [some (.inr 100), some (.inl x1), some (.inl x2), some (.inl x3), some (.inl x4), none] [] Z1 (zri Q) from H _ 0 1 0 rfl rfl (by omega) rfl
  have pw : ∀ m : Nat, (m : Int) ≤ 3 → 1 ≤ (16 : Int) ^ m ∧ (16 : Int) ^ m ≤ 4096 := fun m hm => by
    rcases (show m = 0 ∨ m = 1 ∨ m = 2 ∨ m = 3 by omega) with e | e | e | e <;> subst e <;> decide
  intro f
  induction f with
  | zero =>
    intro m' x3 x4 e y1 y2 e3
    have em : m' = x2.toNat := by omega
    subst em
    have p := pw x2.toNat (by omega)
    exact w230_5 ⟨by unfold zR; omega, by unfold zR; omega, fun _ => last _ x3 0 none Z1 e3 (by omega) rfl (by decide) (by omega) m (fun k k1 k2 => by omega), fun c => absurd (show x2 ≤ x4 by omega) c⟩
  | succ f ih =>
    intro m' x3 x4 e y1 y2 e3
    exact w230_5 ⟨by unfold zR; omega, by unfold zR; omega, fun c => by omega, fun _ => ih (m' + 1) _ _ (by omega) (by omega) (by omega) (by rw [e3]; exact (Int.pow_succ 16 m').symm)⟩
theorem Y_near {x1 : Int} (A : RX Z a) (wx : WX a) (h1 : zR x1) : TI (d + 5) 231 [.inr 100, .inl x1] Z (PostR Z (oq a (gout x1 0 11) (vNear a x1))) := by
  have m := QS.refl A
  refine w231_0 (R_bound h1 (by decide) (by decide) ⟨zR9 gb3, fun c => ?_, fun c => G_no m wx rfl (go_n c)⟩)
  have one : ∀ (x3 : Int) (Z1 : zM), 0 ≤ x3 → x3 ≤ 3 → QS Z Z1 a → (gNa a x1 x3.toNat = true → vNear a x1 = x3) → (¬ gNa a x1 x3.toNat = true → ∀ Z2, QS Z Z2 a → TZ (d + 5) 231 20 [some (.inr 100), some (.inl x1), some (.inl (gout x1 0 11)), some (.inl (x3 + 1))] [] Z2 (zri (PostR Z (oq a (gout x1 0 11) (vNear a x1))))) → TZ (d + 5) 231 20 [some (.inr 100), some (.inl x1), some (.inl (gout x1 0 11)), some (.inl x3)] [] Z1 (zri (PostR Z (oq a (gout x1 0 11) (vNear a x1)))) := by
    intro x3 Z1 y1 y2 l hy hn
    refine w231_20 ⟨by unfold zR; omega, fun c => by omega, fun _ => G_230 l wx h1 (by omega) (fun t Z2 l2 => ⟨by decide, fun q => absurd q (by decide), fun _ => ?_⟩) (fun t Z2 l2 => ⟨by decide, fun _ => hn t Z2 l2, fun q => absurd rfl q⟩)⟩
    have ok := G_ok (v := vNear a x1) l2 c
    rw [hy t] at ok ⊢; exact ok
  unfold vNear at one ⊢
  refine one 0 Z (by decide) (by decide) m (fun t => if_pos t) fun n0 Z2 l2 => one 1 Z2 (by decide) (by decide) l2 (fun t => ?_) fun n1 Z3 l3 => one 2 Z3 (by decide) (by decide) l3 (fun t => ?_) fun n2 Z4 l4 => one 3 Z4 (by decide) (by decide) l4 (fun t => ?_) fun n3 Z5 l5 => w231_20 ⟨by decide, fun _ => ?_, fun c => absurd (show (4 : Int) ≤ 3 + 1 by decide) c⟩
  · have n0 : ¬ gNa a x1 0 = true := n0
    rw [if_neg n0]; exact if_pos t
  · have n0 : ¬ gNa a x1 0 = true := n0
    have n1 : ¬ gNa a x1 1 = true := n1
    rw [if_neg n0, if_neg n1]; exact if_pos t
  · have n0 : ¬ gNa a x1 0 = true := n0
    have n1 : ¬ gNa a x1 1 = true := n1
    have n2 : ¬ gNa a x1 2 = true := n2
    rw [if_neg n0, if_neg n1, if_neg n2]; exact if_pos t
  · have n0 : ¬ gNa a x1 0 = true := n0
    have n1 : ¬ gNa a x1 1 = true := n1
    have n2 : ¬ gNa a x1 2 = true := n2
    have n3 : ¬ gNa a x1 3 = true := n3
    rw [if_neg n0, if_neg n1, if_neg n2, if_neg n3]
    exact G_ok l5 c
end
