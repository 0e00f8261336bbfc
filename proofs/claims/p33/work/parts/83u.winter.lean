/-! LOOKS with their very answers: winter -/
def gmid (x y z : Int) : Int := max (min x y) (min (max x y) z)
def gnx (n : Int) (V : Int → Int) (i : Int) : Int := if 3 ≤ n then gmid (V (if i ≤ 0 then n - 1 else i - 1)) (V i) (V (if n ≤ i + 1 then 0 else i + 1)) else V i
/-- thoughts behind k rounds -/
def gwk (a : gX) : Nat → Int → Int
  | 0, i => a.2.2.2.2.1.2 i % 12
  | k + 1, i => gnx a.2.2.2.2.1.1 (gwk a k) i
def gqt (a : gX) (k : Nat) : Bool := gsq (gnx a.2.2.2.2.1.1 (gwk a k)) (gwk a k) a.2.2.2.2.1.1.toNat
def gwR (a : gX) : Nat → Nat → Nat
  | 0, k => k
  | f + 1, k => if gqt a k = true then k else gwR a f (k + 1)
def gwn (a : gX) (k : Nat) : Nat → Int
  | 0 => 0
  | m + 1 => zbit 4 (gwn a k m) (zbit 6 1 (gwk a k m))
def gwA0 (a : gX) : Int := if gqt a (gwR a 20 0) = true then (gwR a 20 0 : Int) else -9
def gwA1 (a : gX) : Int := zcnt (gwn a (gwR a 20 0) a.2.2.2.2.1.1.toNat) 31
def vWinter (a : gX) (x1 : Int) : Int := if x1 = 0 then gwA0 a else gwA1 a
/-- thoughts are hours -/
def TH (n : Int) (V : Int → Int) : Prop := ∀ j, 0 ≤ j → j < n → 0 ≤ V j ∧ V j ≤ 11
theorem gnx_b {n : Int} {V : Int → Int} (h : TH n V) : TH n (gnx n V) := fun j h1 h2 => by
  unfold gnx
  have b := h j h1 h2
  split
  · have p := h (if j ≤ 0 then n - 1 else j - 1) (by split <;> omega) (by split <;> omega)
    have q := h (if n ≤ j + 1 then 0 else j + 1) (by split <;> omega) (by split <;> omega)
    unfold gmid
    omega
  · exact b
theorem gnx_congr {n : Int} {V V' : Int → Int} (h : ∀ j, 0 ≤ j → j < n → V j = V' j) {i : Int} (h1 : 0 ≤ i) (h2 : i < n) : gnx n V i = gnx n V' i := by
  unfold gnx
  rw [h i h1 h2, h (if i ≤ 0 then n - 1 else i - 1) (by split <;> omega) (by split <;> omega), h (if n ≤ i + 1 then 0 else i + 1) (by split <;> omega) (by split <;> omega)]
theorem gwk_b {a : gX} (hr : ∀ j, 0 ≤ j → j < a.2.2.2.2.1.1 → 0 ≤ a.2.2.2.2.1.2 j ∧ a.2.2.2.2.1.2 j ≤ 99) : ∀ k : Nat, TH a.2.2.2.2.1.1 (gwk a k)
  | 0 => fun j h1 h2 => by unfold gwk; omega
  | k + 1 => gnx_b (gwk_b hr k)
theorem gwR_b {a : gX} : ∀ f k : Nat, k ≤ gwR a f k ∧ gwR a f k ≤ k + f
  | 0, k => by unfold gwR; omega
  | f + 1, k => by
    have := gwR_b (a := a) f (k + 1)
    unfold gwR
    split <;> omega
theorem gwR_q {a : gX} : ∀ f k : Nat, gwR a f k < k + f → gqt a (gwR a f k) = true
  | 0, k, h => by have := gwR_b (a := a) 0 k; omega
  | f + 1, k, h => by
    unfold gwR at h ⊢
    by_cases c : gqt a k = true
    · rw [if_pos c]; exact c
    · rw [if_neg c] at h ⊢
      exact gwR_q f (k + 1) (by omega)
theorem gwn_b {a : gX} {k : Nat} (ht : TH a.2.2.2.2.1.1 (gwk a k)) (i : Nat) (hi : 12 ≤ i) : ∀ m : Nat, m ≤ a.2.2.2.2.1.1.toNat → zb (gwn a k m) i = false
  | 0, _ => zb_0 _
  | m + 1, hm => by
    have b := ht m (by omega) (by omega)
    show zb (zbit 4 (gwn a k m) (zbit 6 1 (gwk a k m))) i = false
    rw [zb_or, gwn_b ht i hi m (by omega), zb_one (by omega), decide_eq_false (by omega)]; rfl
theorem gwn_r {a : gX} {k : Nat} : ∀ m : Nat, zR (gwn a k m)
  | 0 => by unfold gwn; decide
  | m + 1 => by
    show zR (zbit 4 _ _)
    exact zbit_r _ _ _
section
variable {d : Nat} {Z Z1 Z2 : zM} {a : gX} {s : gS} {i : Int}
theorem rowV (A : CX Z a) : ∀ j, 0 ≤ j → j < a.2.2.2.2.1.1 → 0 ≤ a.2.2.2.2.1.2 j ∧ a.2.2.2.2.1.2 j ≤ 99 := fun j h1 h2 => (A.2.2.2.2.1.2.2 j h1 h2).2
theorem F_61 {V : Int → Int} {Q : Int → zM → Prop} (A : CX Z a) (f1 : frs SQ Z Z1) (ht : TH a.2.2.2.2.1.1 V) (hv : ∀ j, 0 ≤ j → j < a.2.2.2.2.1.1 → Z1 41 j = V j) (hQ : ∀ Z', frs SQ Z Z' → (∀ j, 0 ≤ j → j < a.2.2.2.2.1.1 → Z' 41 j = V j ∧ Z' 42 j = gnx a.2.2.2.2.1.1 V j) → Q (if gsq (gnx a.2.2.2.2.1.1 V) V a.2.2.2.2.1.1.toNat = true then 0 else 1) Z') : TI (d + 2) 61 [.inr 39] Z1 Q := by
  refine w61_0 ?_
  have rb0 := (rowR A (frs.refl SQ Z)).2.1
  suffices H : ∀ (f m : Nat) (x2 : Int) (o3 o4 : Option zV) (Z1 : zM), x2 = m → f = a.2.2.2.2.1.1.toNat - m → m ≤ a.2.2.2.2.1.1.toNat → frs SQ Z Z1 → (∀ j, 0 ≤ j → j < a.2.2.2.2.1.1 → Z1 41 j = V j) → (∀ j, 0 ≤ j → j < x2 → Z1 42 j = gnx a.2.2.2.2.1.1 V j) → TZ (d + 2) 61 4 [some (.inr 39), some (.inl (if gsq (gnx a.2.2.2.2.1.1 V) V m = true then 0 else 1)), some (.inl x2), o3, o4] [] Z1 (zri Q) from H _ 0 0 none none Z1 rfl rfl (by omega) f1 hv (fun j j1 j2 => by omega)
  intro f
  induction f with
  | zero =>
    intro m x2 o3 o4 Z1 e y1 y2 f1 hv g
    obtain ⟨r1, rb, r3⟩ := rowR A f1
    refine w61_4 ?_
    rw [r1]
    refine ⟨by unfold zR; omega, by unfold zR; omega, fun _ => ⟨by split; exact Or.inl rfl; exact Or.inr rfl, ?_⟩, fun y => absurd (show a.2.2.2.2.1.1 ≤ x2 by omega) y⟩
    rw [show m = a.2.2.2.2.1.1.toNat by omega]
    exact hQ Z1 f1 fun j j1 j2 => ⟨hv j j1 j2, g j j1 (by omega)⟩
  | succ f ih =>
    intro m x2 o3 o4 Z1 e y1 y2 f1 hv g
    obtain ⟨r1, rb, r3⟩ := rowR A f1
    have vb := fun j (j1 : 0 ≤ j) (j2 : j < a.2.2.2.2.1.1) => ht j j1 j2
    have zv : ∀ j, 0 ≤ j → j < a.2.2.2.2.1.1 → zR (Z1 41 j) := fun j j1 j2 => by rw [hv j j1 j2]; have := vb j j1 j2; unfold zR; omega
    have nb := gnx_b ht x2 (by omega) (by omega)
    have st : gsq (gnx a.2.2.2.2.1.1 V) V (m + 1) = (gsq (gnx a.2.2.2.2.1.1 V) V m && decide (gnx a.2.2.2.2.1.1 V m = V m)) := rfl
    rw [← e] at st
    have t : ∀ (p r v : Int), v = gnx a.2.2.2.2.1.1 V x2 → ∀ Z17, Z17 = zup Z1 42 x2 v →
        zR (if gsq (gnx a.2.2.2.2.1.1 V) V m = true then 0 else 1) ∧
        ((if gsq (gnx a.2.2.2.2.1.1 V) V m = true then (0 : Int) else 1) ≠ 0 → TZ (d + 2) 61 4 [some (.inr 39), some (.inl 1), some (.inl (x2 + 1)), some (.inl p), some (.inl r)] [] Z17 (zri Q)) ∧
        (¬ (if gsq (gnx a.2.2.2.2.1.1 V) V m = true then (0 : Int) else 1) ≠ 0 → ((0 ≤ x2 ∧ x2 < 12) ∧ (0 ≤ x2 ∧ x2 < 12) ∧ zR (Z17 42 x2) ∧ zR (Z17 41 x2) ∧
          ((Z17 42 x2) = (Z17 41 x2) → TZ (d + 2) 61 4 [some (.inr 39), some (.inl 0), some (.inl (x2 + 1)), some (.inl p), some (.inl r)] [] Z17 (zri Q)) ∧
          (¬ (Z17 42 x2) = (Z17 41 x2) → TZ (d + 2) 61 4 [some (.inr 39), some (.inl 1), some (.inl (x2 + 1)), some (.inl p), some (.inl r)] [] Z17 (zri Q)))) := by
      intro p r v hv2 Z17 e17
      have f5 : frs SQ Z Z17 := fun q hq => by
        subst e17; funext i
        rw [zup_cell _ _ _ _ (fun h => hq (by subst h; unfold SQ; omega)), f1 q hq]
      have c41 : ∀ j, Z17 41 j = Z1 41 j := fun j => by rw [e17, zup_cell _ _ _ _ (by decide)]
      have c42 : Z17 42 x2 = gnx a.2.2.2.2.1.1 V x2 := by rw [e17, zup_same, hv2]
      have k := ih (m + 1) (x2 + 1) (some (.inl p)) (some (.inl r)) Z17 (by omega) (by omega) (by omega) f5 (fun j j1 j2 => by rw [c41]; exact hv j j1 j2) (fun j j1 j2 => by
        by_cases ej : j = x2
        · rw [ej]; exact c42
        · rw [e17, zup_place _ _ _ _ ej]; exact g j j1 (by omega))
      rw [st] at k
      refine ⟨by split <;> decide, fun q => ?_, fun q => ⟨by omega, by omega, ?_, ?_, fun q2 => ?_, fun q2 => ?_⟩⟩
      · cases h : gsq (gnx a.2.2.2.2.1.1 V) V m
        · rw [h] at k; exact k
        · rw [h] at q; exact absurd rfl q
      · rw [c42]; unfold zR; omega
      · rw [c41]; exact zv x2 (by omega) (by omega)
      · rw [c42, c41, hv x2 (by omega) (by omega)] at q2
        cases h : gsq (gnx a.2.2.2.2.1.1 V) V m
        · rw [h] at q; exact absurd (by decide) q
        · rw [h, decide_eq_true q2] at k; exact k
      · rw [c42, c41, hv x2 (by omega) (by omega)] at q2
        cases h : gsq (gnx a.2.2.2.2.1.1 V) V m
        · rw [h] at q; exact absurd (by decide) q
        · rw [h, decide_eq_false q2] at k; exact k
    have big : ∀ (jp jr : Int), (0 ≤ jp ∧ jp < a.2.2.2.2.1.1) → (0 ≤ jr ∧ jr < a.2.2.2.2.1.1) → jp = (if x2 ≤ 0 then a.2.2.2.2.1.1 - 1 else x2 - 1) → jr = (if a.2.2.2.2.1.1 ≤ x2 + 1 then 0 else x2 + 1) → zR a.2.2.2.2.1.1 ∧
        (3 ≤ a.2.2.2.2.1.1 → ((0 ≤ x2 ∧ x2 < 12) ∧
          TI (d + 1) 62 [.inl (Z1 41 jp), .inl (Z1 41 x2), .inl (Z1 41 jr)] Z1 (fun r15 Z14 => (0 ≤ x2 ∧ x2 < 12) ∧
            ∀ Z17, Z17 = zup Z14 42 x2 r15 →
            zR (if gsq (gnx a.2.2.2.2.1.1 V) V m = true then 0 else 1) ∧
            ((if gsq (gnx a.2.2.2.2.1.1 V) V m = true then (0 : Int) else 1) ≠ 0 → TZ (d + 2) 61 4 [some (.inr 39), some (.inl 1), some (.inl (x2 + 1)), some (.inl (Z1 41 jp)), some (.inl (Z1 41 jr))] [] Z17 (zri Q)) ∧
            (¬ (if gsq (gnx a.2.2.2.2.1.1 V) V m = true then (0 : Int) else 1) ≠ 0 → ((0 ≤ x2 ∧ x2 < 12) ∧ (0 ≤ x2 ∧ x2 < 12) ∧ zR (Z17 42 x2) ∧ zR (Z17 41 x2) ∧
              ((Z17 42 x2) = (Z17 41 x2) → TZ (d + 2) 61 4 [some (.inr 39), some (.inl 0), some (.inl (x2 + 1)), some (.inl (Z1 41 jp)), some (.inl (Z1 41 jr))] [] Z17 (zri Q)) ∧
              (¬ (Z17 42 x2) = (Z17 41 x2) → TZ (d + 2) 61 4 [some (.inr 39), some (.inl 1), some (.inl (x2 + 1)), some (.inl (Z1 41 jp)), some (.inl (Z1 41 jr))] [] Z17 (zri Q))))))) ∧
        (¬ 3 ≤ a.2.2.2.2.1.1 → ((0 ≤ x2 ∧ x2 < 12) ∧ (0 ≤ x2 ∧ x2 < 12) ∧
            ∀ Z27, Z27 = zup Z1 42 x2 (Z1 41 x2) →
            zR (if gsq (gnx a.2.2.2.2.1.1 V) V m = true then 0 else 1) ∧
            ((if gsq (gnx a.2.2.2.2.1.1 V) V m = true then (0 : Int) else 1) ≠ 0 → TZ (d + 2) 61 4 [some (.inr 39), some (.inl 1), some (.inl (x2 + 1)), some (.inl (Z1 41 jp)), some (.inl (Z1 41 jr))] [] Z27 (zri Q)) ∧
            (¬ (if gsq (gnx a.2.2.2.2.1.1 V) V m = true then (0 : Int) else 1) ≠ 0 → ((0 ≤ x2 ∧ x2 < 12) ∧ (0 ≤ x2 ∧ x2 < 12) ∧ zR (Z27 42 x2) ∧ zR (Z27 41 x2) ∧
              ((Z27 42 x2) = (Z27 41 x2) → TZ (d + 2) 61 4 [some (.inr 39), some (.inl 0), some (.inl (x2 + 1)), some (.inl (Z1 41 jp)), some (.inl (Z1 41 jr))] [] Z27 (zri Q)) ∧
              (¬ (Z27 42 x2) = (Z27 41 x2) → TZ (d + 2) 61 4 [some (.inr 39), some (.inl 1), some (.inl (x2 + 1)), some (.inl (Z1 41 jp)), some (.inl (Z1 41 jr))] [] Z27 (zri Q)))))) := by
      intro jp jr hp hr ep er
      have b1 := zv jp hp.1 hp.2
      have b2 := zv x2 (by omega) (by omega)
      have b3 := zv jr hr.1 hr.2
      have q1 := hv jp hp.1 hp.2
      have q2 := hv x2 (by omega) (by omega)
      have q3 := hv jr hr.1 hr.2
      refine ⟨by unfold zR; omega, fun c3 => ⟨by omega, w62_0 ⟨b1, b2, b1, b2, by unfold zR at *; omega, b3, by unfold zR at *; omega, by unfold zR at *; omega, by omega, t _ _ _ ?_⟩⟩, fun c3 => ⟨by omega, by omega, t _ _ _ ?_⟩⟩
      · unfold gnx
        rw [if_pos c3, ← ep, ← er, q1, q2, q3]; rfl
      · unfold gnx
        rw [if_neg c3, q2]
    refine w61_4 ?_
    rw [r1]
    refine ⟨by unfold zR; omega, by unfold zR; omega, fun c => by omega, fun y => ⟨by unfold zR; omega, fun c => ⟨by omega, by unfold zR; omega, by unfold zR; omega, fun e => ?_, fun e => ⟨by omega, ?_⟩⟩, fun c => ⟨by omega, by unfold zR; omega, by unfold zR; omega, fun e => ?_, fun e => ⟨by omega, ?_⟩⟩⟩⟩
    · exact big (a.2.2.2.2.1.1 - 1) 0 (by omega) (by omega) (by rw [if_pos c]) (by rw [if_pos e])
    · exact big (a.2.2.2.2.1.1 - 1) (x2 + 1) (by omega) (by omega) (by rw [if_pos c]) (by rw [if_neg e])
    · exact big (x2 - 1) 0 (by omega) (by omega) (by rw [if_neg c]) (by rw [if_pos e])
    · exact big (x2 - 1) (x2 + 1) (by omega) (by omega) (by rw [if_neg c]) (by rw [if_neg e])
theorem F_60 {Q : Int → zM → Prop} (A : CX Z a) (hQ : ∀ Z', frs SQ Z Z' → (∀ j, 0 ≤ j → j < a.2.2.2.2.1.1 → Z' 41 j = gwk a (gwR a 20 0) j) → Q (gwA0 a) Z') : TI (d + 3) 60 [.inr 39] Z Q := by
  have kb := gwk_b (rowV A)
  have last : ∀ (f k : Nat) (x2 : Int) (Z1 : zM), x2 = k → f = 20 - k → k ≤ 20 → gwR a f k = gwR a 20 0 → frs SQ Z Z1 → (∀ j, 0 ≤ j → j < a.2.2.2.2.1.1 → Z1 41 j = gwk a k j ∧ Z1 42 j = gnx a.2.2.2.2.1.1 (gwk a k) j) → TZ (d + 3) 60 38 [some (.inr 39), some (.inl (if gqt a k = true then 0 else 1)), some (.inl x2)] [] Z1 (zri Q) := by
    intro f
    induction f with
    | zero =>
      intro k x2 Z1 e y1 y2 hr f1 hv
      have hr : k = gwR a 20 0 := hr
      have ok := hQ Z1 f1 (by rw [← hr]; exact fun j j1 j2 => (hv j j1 j2).1)
      unfold gwA0 at ok
      rw [← hr] at ok
      refine w60_38 ⟨by split <;> decide, fun c => ⟨by split <;> decide, fun _ => ?_, fun q => absurd c q⟩, fun c => ⟨by unfold zR; omega, fun _ => ⟨by split <;> decide, fun q => absurd q c, fun _ => ?_⟩, fun q => absurd (show 20 ≤ x2 by omega) q⟩⟩
      · cases h : gqt a k
        · rw [h] at c; exact absurd c (by decide)
        · rw [if_pos h, ← e] at ok; exact ok
      · cases h : gqt a k
        · rw [if_neg (by rw [h]; decide)] at ok; exact ok
        · rw [h] at c; exact absurd rfl c
    | succ f ih =>
      intro k x2 Z1 e y1 y2 hr f1 hv
      refine w60_38 ⟨by split <;> decide, fun c => ⟨by split <;> decide, fun _ => ?_, fun q => absurd c q⟩, fun c => ⟨by unfold zR; omega, fun q => by omega, fun q Z9 e9 => ?_⟩⟩
      · have h : gqt a k = true := by
          cases h : gqt a k
          · rw [h] at c; exact absurd c (by decide)
          · rfl
        have hr : k = gwR a 20 0 := by
          have st : gwR a (f + 1) k = if gqt a k = true then k else gwR a f (k + 1) := rfl
          rw [st, if_pos h] at hr; exact hr
        have ok := hQ Z1 f1 (by rw [← hr]; exact fun j j1 j2 => (hv j j1 j2).1)
        unfold gwA0 at ok
        rw [← hr, if_pos h, ← e] at ok; exact ok
      · have h : ¬ gqt a k = true := fun h => c (by rw [if_pos h])
        have hr : gwR a f (k + 1) = gwR a 20 0 := by
          have st : gwR a (f + 1) k = if gqt a k = true then k else gwR a f (k + 1) := rfl
          rw [st, if_neg h] at hr; exact hr
        have f9 : frs SQ Z Z9 := fun q hq => by
          subst e9; funext p; unfold zcpy
          rw [if_neg (fun h => hq (by subst h; unfold SQ; omega)), f1 q hq]
        have rb := (rowR A (frs.refl SQ Z)).2.1
        have v9 : ∀ j, 0 ≤ j → j < a.2.2.2.2.1.1 → Z9 41 j = gwk a (k + 1) j := fun j j1 j2 => by
          subst e9
          show (if (41 : Nat) = 41 then (if 0 ≤ j ∧ j < 12 then Z1 42 j else Z1 41 j) else Z1 41 j) = _
          rw [if_pos rfl, if_pos ⟨j1, by omega⟩]; exact (hv j j1 j2).2
        exact F_61 A f9 (kb (k + 1)) v9 fun Z' f' hv' => ih (k + 1) (x2 + 1) Z' (by omega) (by omega) (by omega) hr f' hv'
  refine w60_0 ?_
  have rb0 := (rowR A (frs.refl SQ Z)).2.1
  suffices H : ∀ (f : Nat) (x1 : Int) (Z1 : zM), f = (a.2.2.2.2.1.1 - x1).toNat → 0 ≤ x1 → x1 ≤ a.2.2.2.2.1.1 → frs SQ Z Z1 → (∀ j, 0 ≤ j → j < x1 → Z1 41 j = gwk a 0 j) → TZ (d + 3) 60 2 [some (.inr 39), some (.inl x1), none] [] Z1 (zri Q) from H _ 0 Z rfl (by decide) rb0.1 (frs.refl _ _) (fun j j1 j2 => by omega)
  intro f
  induction f with
  | zero =>
    intro x1 Z1 ef y1 y2 f1 hv
    obtain ⟨r1, rb, r3⟩ := rowR A f1
    refine w60_2 ?_
    rw [r1]
    exact ⟨by unfold zR; omega, by unfold zR; omega, fun _ => F_61 A f1 (kb 0) (fun j j1 j2 => hv j j1 (by omega)) fun Z' f' hv' => last 20 0 0 Z' rfl rfl (by decide) rfl f' hv', fun y => absurd (show a.2.2.2.2.1.1 ≤ x1 by omega) y⟩
  | succ f ih =>
    intro x1 Z1 ef y1 y2 f1 hv
    obtain ⟨r1, rb, r3⟩ := rowR A f1
    have row : Z1 40 x1 = a.2.2.2.2.1.2 x1 := ((A.frame (Z' := Z1) fun q hq => f1 q (by unfold SQ; omega)).2.2.2.2.1.2.2 x1 y1 (by omega)).1
    have rv := rowV A x1 y1 (by omega)
    refine w60_2 ?_
    rw [r1]
    refine ⟨by unfold zR; omega, by unfold zR; omega, fun c => by omega, fun y => ⟨by omega, r3 _ y1 (by omega), by omega, fun Z9 e9 => ih _ Z9 (by omega) (by omega) (by omega) (fun q hq => by
      subst e9; funext p
      rw [zup_cell _ _ _ _ (fun h => hq (by subst h; unfold SQ; omega)), f1 q hq]) fun j j1 j2 => ?_⟩⟩
    rw [e9]
    by_cases ej : j = x1
    · rw [ej, zup_same, row]
      exact Int.tmod_eq_emod_of_nonneg rv.1
    · rw [zup_place _ _ _ _ ej]; exact hv j j1 (by omega)
theorem F_63 {k : Nat} {Q : Int → zM → Prop} (A : CX Z a) (f1 : frs SQ Z Z1) (hv : ∀ j, 0 ≤ j → j < a.2.2.2.2.1.1 → Z1 41 j = gwk a k j) (hQ : Q (zcnt (gwn a k a.2.2.2.2.1.1.toNat) 31) Z1) : TI (d + 1) 63 [.inr 39] Z1 Q := by
  obtain ⟨r1, rb, r3⟩ := rowR A f1
  have ht := gwk_b (rowV A) k
  have bd := zb_bound (n := 12) (by decide) (gwn_r (a := a) (k := k) a.2.2.2.2.1.1.toNat) (fun i hi => gwn_b ht i hi _ (Nat.le_refl _))
  have bd2 : (gwn a k a.2.2.2.2.1.1.toNat).toNat < 4096 := bd.2
  refine w63_0 ?_
  suffices H : ∀ (f m : Nat) (x2 : Int), x2 = m → f = a.2.2.2.2.1.1.toNat - m → m ≤ a.2.2.2.2.1.1.toNat → TZ (d + 1) 63 4 [some (.inr 39), some (.inl (gwn a k m)), some (.inl x2)] [] Z1 (zri Q) from H _ 0 0 rfl rfl (by omega)
  intro f
  induction f with
  | zero =>
    intro m x2 e y1 y2
    have em : m = a.2.2.2.2.1.1.toNat := by omega
    subst em
    exact w63_4 ⟨by unfold zR; omega, by unfold zR; omega, fun _ => C_bits (by omega) hQ, fun y => absurd (show Z1 39 3 ≤ x2 by omega) y⟩
  | succ f ih =>
    intro m x2 e y1 y2
    have v := hv x2 (by omega) (by omega)
    refine w63_4 ⟨by unfold zR; omega, by unfold zR; omega, fun c => by omega, fun y => ⟨by omega, ?_⟩⟩
    rw [v, e]
    have := ih (m + 1) (x2 + 1) (by omega) (by omega) (by omega)
    rw [e] at this
    exact this
theorem X_winter {x1 : Int} (A : CX Z a) (wx : WX a) (h1 : zR x1) : TI (d + 4) 148 [.inr 0, .inl x1] Z (PostC Z (oq a (cwinter a x1) (vWinter a x1))) := by
  obtain ⟨r1, rb, r3⟩ := rowR A (frs.refl SQ Z)
  have cb : -6 ≤ cwinter a x1 ∧ cwinter a x1 ≤ 0 := by
    unfold cwinter
    refine geith_b gb2 ?_
    split <;> decide
  refine w148_0 (C_unknown h1 (by decide) ?_)
  rw [r1]
  have go : ∀ c, c = cwinter a x1 → zR c ∧
      (c = 0 → TI (d + 3) 60 [.inr 39] Z (fun r10 Z9 => zR x1 ∧ (x1 ≠ 0 → TI (d + 3) 63 [.inr 39] Z9 (fun r14 Z13 => PostC Z (oq a (cwinter a x1) (vWinter a x1)) r14 Z13)) ∧ (¬ x1 ≠ 0 → PostC Z (oq a (cwinter a x1) (vWinter a x1)) r10 Z9))) ∧
      (¬ c = 0 → TI (d + 3) 71 [.inr 0, .inl c] Z (fun r16 Z15 => PostC Z (oq a (cwinter a x1) (vWinter a x1)) r16 Z15)) := by
    intro c e
    subst e
    refine ⟨zR9 cb, fun c => F_60 A fun Z' f' hv => ⟨h1, fun q => F_63 A f' hv ?_, fun q => ?_⟩, fun c => C_refuse (by omega) (PRq A c cb)⟩
    · have ok := PQ (v := vWinter a x1) A c f'
      unfold vWinter at ok ⊢
      rw [if_neg q] at ok ⊢; exact ok
    · have ok := PQ (v := vWinter a x1) A c f'
      unfold vWinter at ok ⊢
      rw [if_pos (by omega)] at ok ⊢; exact ok
  refine ⟨by unfold zR; omega, fun y => C_either (zR9 gb2) (go _ ?_), fun y => C_either (zR9 gb2) (go _ ?_)⟩
  · unfold cwinter; rw [if_pos y]
  · unfold cwinter; rw [if_neg y]
theorem G_249 {x0 x1 x2 : Int} {Q : Int → zM → Prop} (h0 : 0 ≤ x0 ∧ x0 ≤ 11) (h1 : 0 ≤ x1 ∧ x1 ≤ 11) (h2 : 0 ≤ x2 ∧ x2 ≤ 11) (hQ : Q (gmid x2 x0 x1) Z1) : TI (d + 1) 249 [.inl x0, .inl x1, .inl x2] Z1 Q := by
  refine w249_0 (R_lesser (by unfold zR; omega) (by unfold zR; omega) (R_lesser (by unfold zR; omega) (by unfold zR; omega) (R_lesser (by unfold zR; omega) (by unfold zR; omega) (R_lesser (by unfold zR; omega) (by unfold zR; omega) ?_))))
  have e : x0 + x1 + x2 - min x0 (min x1 x2) - -min (-x0) (min (-x1) (-x2)) = gmid x2 x0 x1 := by
    unfold gmid
    omega
  rw [e]; exact hQ
theorem G_250 {V : Int → Int} {Q : Int → zM → Prop} (m : QS Z Z1 a) (wx : WX a) (hV : TH a.2.2.2.2.1.1 V) (hv : ∀ j, 0 ≤ j → j < a.2.2.2.2.1.1 → Z1 120 j = V j) (hQ : ∀ Z2, QS Z Z2 a → (∀ j, 0 ≤ j → j < a.2.2.2.2.1.1 → Z2 120 j = gnx a.2.2.2.2.1.1 V j) → Q (if gsq (gnx a.2.2.2.2.1.1 V) V a.2.2.2.2.1.1.toNat = true then 0 else 1) Z2) : TI (d + 2) 250 [.inr 100] Z1 Q := by
  have rb := m.row.1
  have nb := gnx_b hV
  have last : ∀ (f k : Nat) (x2 : Int) (Z1 : zM), x2 = k → f = a.2.2.2.2.1.1.toNat - k → k ≤ a.2.2.2.2.1.1.toNat → QS Z Z1 a → (∀ j, 0 ≤ j → j < a.2.2.2.2.1.1 → Z1 120 j = (if j < x2 then gnx a.2.2.2.2.1.1 V j else V j) ∧ Z1 121 j = gnx a.2.2.2.2.1.1 V j) → TZ (d + 2) 250 83 [some (.inr 100), some (.inl (if gsq (gnx a.2.2.2.2.1.1 V) V k = true then 0 else 1)), some (.inl x2)] [] Z1 (zri Q) := by
    intro f
    induction f with
    | zero =>
      intro k x2 Z1 e y1 y2 l h
      have e26 := l.now.2.2.2
      refine w250_83 ?_
      rw [e26]
      refine ⟨by unfold zR; omega, by unfold zR; omega, fun _ => ⟨by split; exact Or.inl rfl; exact Or.inr rfl, ?_⟩, fun c => absurd (show a.2.2.2.2.1.1 ≤ x2 by omega) c⟩
      rw [show k = a.2.2.2.2.1.1.toNat by omega]
      exact hQ Z1 l fun j j1 j2 => by rw [(h j j1 j2).1, if_pos (by omega)]
    | succ f ih =>
      intro k x2 Z1 e y1 y2 l h
      have e26 := l.now.2.2.2
      have h2 := h x2 (by omega) (by omega)
      rw [if_neg (by omega)] at h2
      have b1 := hV x2 (by omega) (by omega)
      have b2 := nb x2 (by omega) (by omega)
      have st : gsq (gnx a.2.2.2.2.1.1 V) V (k + 1) = (gsq (gnx a.2.2.2.2.1.1 V) V k && decide (gnx a.2.2.2.2.1.1 V k = V k)) := rfl
      rw [← e] at st
      refine w250_83 ?_
      rw [e26]
      have nx : ∀ Z12, Z12 = zup Z1 120 x2 (Z1 121 x2) → TZ (d + 2) 250 83 [some (.inr 100), some (.inl (if gsq (gnx a.2.2.2.2.1.1 V) V (k + 1) = true then 0 else 1)), some (.inl (x2 + 1))] [] Z12 (zri Q) := by
        intro Z12 e12
        refine ih (k + 1) _ Z12 (by omega) (by omega) (by omega) (by subst e12; exact l.up wx (by unfold scq; omega)) fun j j1 j2 => ?_
        rw [e12]
        refine ⟨?_, by rw [zup_cell _ _ _ _ (by decide)]; exact (h j j1 j2).2⟩
        by_cases ej : j = x2
        · rw [ej, zup_same, if_pos (by omega)]; exact h2.2
        · rw [zup_place _ _ _ _ ej, (h j j1 j2).1]
          by_cases c : j < x2
          · rw [if_pos c, if_pos (by omega)]
          · rw [if_neg c, if_neg (by omega)]
      rw [st] at nx
      rw [h2.1, h2.2]
      rw [h2.2] at nx
      refine ⟨by unfold zR; omega, by unfold zR; omega, fun c => by omega, fun c => ⟨by omega, by omega, by unfold zR; omega, by unfold zR; omega, fun q => ⟨by omega, by omega, fun Z12 e12 => ?_⟩, fun q => ⟨by omega, by omega, fun Z12 e12 => ?_⟩⟩⟩
      · have := nx Z12 e12
        rw [decide_eq_true q, Bool.and_true] at this
        cases hh : gsq (gnx a.2.2.2.2.1.1 V) V k <;> (rw [hh] at this; exact this)
      · have := nx Z12 e12
        rw [decide_eq_false q, Bool.and_false] at this
        cases hh : gsq (gnx a.2.2.2.2.1.1 V) V k <;> exact this
  refine w250_0 ?_
  suffices H : ∀ (f : Nat) (x2 : Int) (Z1 : zM), f = (a.2.2.2.2.1.1 - x2).toNat → 0 ≤ x2 → x2 ≤ a.2.2.2.2.1.1 → QS Z Z1 a → (∀ j, 0 ≤ j → j < a.2.2.2.2.1.1 → Z1 120 j = V j) → (∀ j, 0 ≤ j → j < x2 → Z1 121 j = gnx a.2.2.2.2.1.1 V j) → TZ (d + 2) 250 4 [some (.inr 100), some (.inl 0), some (.inl x2)] [] Z1 (zri Q) from H _ 0 Z1 rfl (by decide) rb.1 m hv (fun j j1 j2 => by omega)
  intro f
  induction f with
  | zero =>
    intro x2 Z1 ef y1 y2 l h g
    have e26 := l.now.2.2.2
    refine w250_4 ?_
    rw [e26]
    exact ⟨by unfold zR; omega, by unfold zR; omega, fun _ => last _ 0 0 Z1 rfl rfl (by omega) l (fun j j1 j2 => ⟨by rw [if_neg (by omega)]; exact h j j1 j2, g j j1 (by omega)⟩), fun c => absurd (show a.2.2.2.2.1.1 ≤ x2 by omega) c⟩
  | succ f ih =>
    intro x2 Z1 ef y1 y2 l h g
    have e26 := l.now.2.2.2
    have nx : ∀ v Z12, v = gnx a.2.2.2.2.1.1 V x2 → Z12 = zup Z1 121 x2 v → TZ (d + 2) 250 4 [some (.inr 100), some (.inl 0), some (.inl (x2 + 1))] [] Z12 (zri Q) := by
      intro v Z12 hv2 e12
      refine ih _ Z12 (by omega) (by omega) (by omega) (by subst e12; exact l.up wx (by unfold scq; omega)) (fun j j1 j2 => by rw [e12, zup_cell _ _ _ _ (by decide)]; exact h j j1 j2) (fun j j1 j2 => ?_)
      rw [e12]
      by_cases ej : j = x2
      · rw [ej, zup_same, hv2]
      · rw [zup_place _ _ _ _ ej]; exact g j j1 (by omega)
    refine w250_4 ?_
    rw [e26]
    refine ⟨by unfold zR; omega, by unfold zR; omega, fun c => by omega, fun c => ⟨by unfold zR; omega, fun c3 => ?_, fun c3 => ⟨by omega, by omega, fun Z19 e19 => nx _ Z19 ?_ e19⟩⟩⟩
    · have t1 : Int.tmod (x2 + 1) a.2.2.2.2.1.1 = (x2 + 1) % a.2.2.2.2.1.1 := Int.tmod_eq_emod_of_nonneg (by omega)
      have t2 : Int.tmod (x2 + a.2.2.2.2.1.1 - 1) a.2.2.2.2.1.1 = (x2 + a.2.2.2.2.1.1 - 1) % a.2.2.2.2.1.1 := Int.tmod_eq_emod_of_nonneg (by omega)
      have p1 : (x2 + 1) % a.2.2.2.2.1.1 = if a.2.2.2.2.1.1 ≤ x2 + 1 then 0 else x2 + 1 := by
        by_cases q : a.2.2.2.2.1.1 ≤ x2 + 1
        · rw [if_pos q, show x2 + 1 = a.2.2.2.2.1.1 by omega, Int.emod_self]
        · rw [if_neg q, Int.emod_eq_of_lt (by omega) (by omega)]
      have p2 : (x2 + a.2.2.2.2.1.1 - 1) % a.2.2.2.2.1.1 = if x2 ≤ 0 then a.2.2.2.2.1.1 - 1 else x2 - 1 := by
        by_cases q : x2 ≤ 0
        · rw [if_pos q, show x2 + a.2.2.2.2.1.1 - 1 = a.2.2.2.2.1.1 - 1 by omega, Int.emod_eq_of_lt (by omega) (by omega)]
        · rw [if_neg q, show x2 + a.2.2.2.2.1.1 - 1 = (x2 - 1) + a.2.2.2.2.1.1 by omega, Int.add_emod_right, Int.emod_eq_of_lt (by omega) (by omega)]
      rw [t1, t2, p1, p2]
      have i1 : 0 ≤ (if a.2.2.2.2.1.1 ≤ x2 + 1 then 0 else x2 + 1) ∧ (if a.2.2.2.2.1.1 ≤ x2 + 1 then 0 else x2 + 1) < a.2.2.2.2.1.1 := by split <;> omega
      have i2 : 0 ≤ (if x2 ≤ 0 then a.2.2.2.2.1.1 - 1 else x2 - 1) ∧ (if x2 ≤ 0 then a.2.2.2.2.1.1 - 1 else x2 - 1) < a.2.2.2.2.1.1 := by split <;> omega
      have en : gnx a.2.2.2.2.1.1 V x2 = gmid (V (if x2 ≤ 0 then a.2.2.2.2.1.1 - 1 else x2 - 1)) (V x2) (V (if a.2.2.2.2.1.1 ≤ x2 + 1 then 0 else x2 + 1)) := by
        unfold gnx
        rw [if_pos c3]
      generalize (if a.2.2.2.2.1.1 ≤ x2 + 1 then 0 else x2 + 1) = jr at *
      generalize (if x2 ≤ 0 then a.2.2.2.2.1.1 - 1 else x2 - 1) = jp at *
      rw [h x2 y1 (by omega), h jr i1.1 i1.2, h jp i2.1 i2.2]
      exact ⟨by omega, by unfold zR; omega, by omega, by omega, by unfold zR; omega, by omega, by omega, G_249 (hV x2 y1 (by omega)) (hV _ i1.1 i1.2) (hV _ i2.1 i2.2) ⟨by omega, fun Z16 e16 => nx _ Z16 en.symm e16⟩⟩
    · unfold gnx
      rw [if_neg c3]
      exact h x2 y1 (by omega)
theorem Y_winter {x1 : Int} (A : RX Z a) (wx : WX a) (h1 : zR x1) : TI (d + 3) 251 [.inr 100, .inl x1] Z (PostR Z (oq a (cwinter a x1) (vWinter a x1))) := by
  have m := QS.refl A
  obtain ⟨rb, rv⟩ := m.row
  have e26 := m.now.2.2.2
  have rV : ∀ j, 0 ≤ j → j < a.2.2.2.2.1.1 → 0 ≤ a.2.2.2.2.1.2 j ∧ a.2.2.2.2.1.2 j ≤ 99 := fun j j1 j2 => by
    have := rv j j1 j2
    rw [← this.1]; exact this.2
  have kb := gwk_b rV
  refine w251_0 (R_isIn h1 (by decide) (by decide) (fun i => ?_) (fun i => ⟨by decide, fun e => absurd rfl e, fun _ => G_no m wx (by unfold cwinter; rw [gu2 i]; rfl) (by decide)⟩))
  rw [e26]
  refine ⟨by decide, fun _ => ⟨by unfold zR; omega, fun nz => ?_, fun nz => G_no m wx (by unfold cwinter; rw [ge0 (gunk_0.mpr i), if_neg nz]) (by decide)⟩, fun e => absurd (show (1 : Int) ≠ 0 by decide) e⟩
  have hc : cwinter a x1 = 0 := by unfold cwinter; rw [ge0 (gunk_0.mpr i), if_pos nz]
  have ht := kb (gwR a 20 0)
  have hi := fun i (hi : 12 ≤ i) => gwn_b ht i hi a.2.2.2.2.1.1.toNat (Nat.le_refl _)
  have c12 : zcnt (gwn a (gwR a 20 0) a.2.2.2.2.1.1.toNat) 31 = zcnt (gwn a (gwR a 20 0) a.2.2.2.2.1.1.toNat) 12 := zcnt_hi (n := 12) (fun i h => hi i h) 19
  have p131 : ∀ (f k : Nat) (x2 x6 : Int) (Z1 : zM), x6 = k → f = 12 - k → k ≤ 12 → QS Z Z1 a → (∀ j, 0 ≤ j → j < a.2.2.2.2.1.1 → Z1 120 j = gwk a (gwR a 20 0) j) → TZ (d + 3) 251 131 [some (.inr 100), some (.inl x1), some (.inl x2), some (.inl (gwR a 20 0 : Int)), some (.inl (gwn a (gwR a 20 0) a.2.2.2.2.1.1.toNat)), some (.inl (zcnt (gwn a (gwR a 20 0) a.2.2.2.2.1.1.toNat) k)), some (.inl x6)] [] Z1 (zri (PostR Z (oq a (cwinter a x1) (vWinter a x1)))) := by
    intro f
    induction f with
    | zero =>
      intro k x2 x6 Z1 e y1 y2 l h
      have ek : k = 12 := by omega
      subst ek
      have Rb := gwR_b (a := a) 20 0
      refine w251_131 ⟨by unfold zR; omega, fun _ => ⟨h1, fun q => ⟨by unfold zR; omega, fun q2 => ?_, fun q2 => G_250 l wx ht h fun Z2 l2 h2 => ⟨by split <;> decide, fun q3 => ?_, fun q3 => ?_⟩⟩, fun q => ?_⟩, fun y => absurd (show 12 ≤ x6 by omega) y⟩
      · have ok := G_ok (v := vWinter a x1) l hc
        unfold vWinter gwA0 at ok ⊢
        rw [if_pos (by omega), if_pos (gwR_q 20 0 (by omega))] at ok ⊢; exact ok
      · have ok := G_ok (v := vWinter a x1) l2 hc
        have qt : gqt a (gwR a 20 0) = true := by
          cases hh : gqt a (gwR a 20 0)
          · have hh : gsq (gnx a.2.2.2.2.1.1 (gwk a (gwR a 20 0))) (gwk a (gwR a 20 0)) a.2.2.2.2.1.1.toNat = false := hh
            rw [hh] at q3; exact absurd q3 (by decide)
          · rfl
        unfold vWinter gwA0 at ok ⊢
        rw [if_pos (by omega), if_pos qt] at ok ⊢; exact ok
      · have ok := G_ok (v := vWinter a x1) l2 hc
        have qt : ¬ gqt a (gwR a 20 0) = true := fun hh => by
          have hh : gsq (gnx a.2.2.2.2.1.1 (gwk a (gwR a 20 0))) (gwk a (gwR a 20 0)) a.2.2.2.2.1.1.toNat = true := hh
          rw [if_pos hh] at q3; exact q3 rfl
        unfold vWinter gwA0 at ok ⊢
        rw [if_pos (by omega), if_neg qt] at ok ⊢; exact ok
      · have ok := G_ok (v := vWinter a x1) l hc
        unfold vWinter gwA1 at ok ⊢
        rw [if_neg (by omega), c12] at ok ⊢; exact ok
    | succ f ih =>
      intro k x2 x6 Z1 e y1 y2 l h
      refine w251_131 ⟨by unfold zR; omega, fun c => by omega, fun _ => ?_⟩
      have := ih (k + 1) x2 (x6 + 1) Z1 (by omega) (by omega) (by omega) l h
      have st : zcnt (gwn a (gwR a 20 0) a.2.2.2.2.1.1.toNat) (k + 1) = zcnt (gwn a (gwR a 20 0) a.2.2.2.2.1.1.toNat) k + (if zb (gwn a (gwR a 20 0) a.2.2.2.2.1.1.toNat) k = true then 1 else 0) := rfl
      rw [st] at this
      rw [zb_test (by omega), show x6.toNat = k by omega]
      exact this
  have p99 : ∀ (f k : Nat) (x2 x6 : Int) (Z1 : zM), x6 = k → f = a.2.2.2.2.1.1.toNat - k → k ≤ a.2.2.2.2.1.1.toNat → QS Z Z1 a → (∀ j, 0 ≤ j → j < a.2.2.2.2.1.1 → Z1 120 j = gwk a (gwR a 20 0) j) → TZ (d + 3) 251 99 [some (.inr 100), some (.inl x1), some (.inl x2), some (.inl (gwR a 20 0 : Int)), some (.inl (gwn a (gwR a 20 0) k)), some (.inl 0), some (.inl x6)] [] Z1 (zri (PostR Z (oq a (cwinter a x1) (vWinter a x1)))) := by
    intro f
    induction f with
    | zero =>
      intro k x2 x6 Z1 e y1 y2 l h
      have e2 := l.now.2.2.2
      have ek : k = a.2.2.2.2.1.1.toNat := by omega
      subst ek
      exact w251_99 ⟨by unfold zR; omega, by unfold zR; omega, fun _ => p131 12 0 _ 0 Z1 rfl rfl (by decide) l h, fun c => absurd (show Z1 100 26 ≤ x6 by omega) c⟩
    | succ f ih =>
      intro k x2 x6 Z1 e y1 y2 l h
      have e2 := l.now.2.2.2
      have v := h x6 (by omega) (by omega)
      refine w251_99 ⟨by unfold zR; omega, by unfold zR; omega, fun c => by omega, fun _ => ⟨by omega, ?_⟩⟩
      rw [v, e]
      have := ih (k + 1) x2 (x6 + 1) Z1 (by omega) (by omega) (by omega) l h
      rw [e] at this
      exact this
  have p71 : ∀ (f k : Nat) (x2 x3 : Int) (Z1 : zM), x3 = k → f = 20 - k → k ≤ 20 → gwR a f k = gwR a 20 0 → QS Z Z1 a → (∀ j, 0 ≤ j → j < a.2.2.2.2.1.1 → Z1 120 j = gwk a k j) → TZ (d + 3) 251 71 [some (.inr 100), some (.inl x1), some (.inl x2), some (.inl x3), none, none, none] [] Z1 (zri (PostR Z (oq a (cwinter a x1) (vWinter a x1)))) := by
    intro f
    induction f with
    | zero =>
      intro k x2 x3 Z1 e y1 y2 hr l h
      have hr : k = gwR a 20 0 := hr
      rw [hr] at h e
      refine w251_71 ⟨by unfold zR; omega, fun _ => ?_, fun c => absurd (show 20 ≤ x3 by omega) c⟩
      rw [e]
      exact p99 _ 0 _ 0 Z1 rfl rfl (by omega) l h
    | succ f ih =>
      intro k x2 x3 Z1 e y1 y2 hr l h
      have st : gwR a (f + 1) k = if gqt a k = true then k else gwR a f (k + 1) := rfl
      rw [st] at hr
      refine w251_71 ⟨by unfold zR; omega, fun c => by omega, fun _ => G_250 l wx (kb k) h fun Z2 l2 h2 => ⟨by split <;> decide, fun q => ?_, fun q => ?_⟩⟩
      · have qt : gqt a k = true := by
          cases hh : gqt a k
          · have hh : gsq (gnx a.2.2.2.2.1.1 (gwk a k)) (gwk a k) a.2.2.2.2.1.1.toNat = false := hh
            rw [hh] at q; exact absurd q (by decide)
          · rfl
        rw [if_pos qt] at hr
        have h3 : ∀ j, 0 ≤ j → j < a.2.2.2.2.1.1 → Z2 120 j = gwk a (gwR a 20 0) j := fun j j1 j2 => by
          rw [h2 j j1 j2, ← hr]
          exact (gsq_iff _).mp qt j j1 (by omega)
        rw [e, hr]
        exact p99 _ 0 _ 0 Z2 rfl rfl (by omega) l2 h3
      · have qt : ¬ gqt a k = true := fun hh => by
          have hh : gsq (gnx a.2.2.2.2.1.1 (gwk a k)) (gwk a k) a.2.2.2.2.1.1.toNat = true := hh
          rw [if_pos hh] at q; exact q rfl
        rw [if_neg qt] at hr
        exact ih (k + 1) _ (x3 + 1) Z2 (by omega) (by omega) (by omega) hr l2 h2
  suffices H : ∀ (f : Nat) (x3 : Int) (Z1 : zM), f = (a.2.2.2.2.1.1 - x3).toNat → 0 ≤ x3 → x3 ≤ a.2.2.2.2.1.1 → QS Z Z1 a → (∀ j, 0 ≤ j → j < x3 → Z1 120 j = gwk a 0 j) → TZ (d + 3) 251 40 [some (.inr 100), some (.inl x1), some (.inl 0), some (.inl x3), none, none, none] [] Z1 (zri (PostR Z (oq a (cwinter a x1) (vWinter a x1)))) from H _ 0 Z rfl (by decide) rb.1 m (fun j j1 j2 => by omega)
  intro f
  induction f with
  | zero =>
    intro x3 Z1 ef y1 y2 l h
    have e2 := l.now.2.2.2
    exact w251_40 ⟨by unfold zR; omega, by unfold zR; omega, fun _ => p71 20 0 _ 0 Z1 rfl rfl (by decide) rfl l (fun j j1 j2 => h j j1 (by omega)), fun c => absurd (show Z1 100 26 ≤ x3 by omega) c⟩
  | succ f ih =>
    intro x3 Z1 ef y1 y2 l h
    have e2 := l.now.2.2.2
    have r := l.row.2 x3 y1 (by omega)
    refine w251_40 ⟨by unfold zR; omega, by unfold zR; omega, fun c => by omega, fun _ => ⟨by omega, by have := r.2; unfold zR; omega, by omega, fun Z7 e7 => ih _ Z7 (by omega) (by omega) (by omega) (by subst e7; exact l.up wx (by unfold scq; omega)) fun j j1 j2 => ?_⟩⟩
    rw [e7]
    by_cases ej : j = x3
    · rw [ej, zup_same, Int.tmod_eq_emod_of_nonneg r.2.1, r.1]; rfl
    · rw [zup_place _ _ _ _ ej]; exact h j j1 (by omega)
end
