/-! THE REFERENCE's TOWN: statement by statement, then done -/
theorem gstmt_w4 {L p : Int} {t : Int → Int} {s s' : gS} (wf : WFs s) (h4 : W4 s.1 s.2.2.2.2.2.1) (h : gstmt L t p s = some s') : W4 s'.1 s'.2.2.2.2.2.1 := by
  obtain ⟨n, W, h0, K, F, P, T⟩ := s
  have hn : 0 ≤ n ∧ n ≤ 8 := wf.1
  have h4 : W4 n P := h4
  have hg : ∀ x, W4 n (ghang n W P x) := fun x => by
    unfold ghang
    split
    · exact gC_w4 h4 _ (by omega)
    · exact h4
  have hp : ∀ (fl : Int) (q : gS), q.1 = n → W4 q.1 q.2.2.2.2.2.1 → W4 (gpass fl q).1 (gpass fl q).2.2.2.2.2.1 := fun fl q e h => gP_w4 (n := q.1) h q.1.toNat (by omega)
  have hgh : ∀ (m : Nat), W4 (ghours (-1) m (n, W, h0, K, F, P, T)).1 (ghours (-1) m (n, W, h0, K, F, P, T)).2.2.2.2.2.1 := by
    intro m
    induction m with
    | zero => exact h4
    | succ m ih => exact hp (-1) _ (ghours_h m _).2.2 ih
  unfold gstmt at h
  dsimp only at h
  split at h
  · split at h
    · next hc => cases h; exact gadd_w4 hn.1 h4 (roomb_iff.mp hc.2.2).2.2
    · cases h
  · split at h
    · split at h
      · cases h; exact gC_w4 h4 _ (by omega)
      · cases h
    · split at h
      · split at h
        · cases h; exact hp _ (n, W, h0, K, F, P, T) rfl h4
        · cases h
      · split at h
        · cases h; exact gH_w4 h4 _ (by omega)
        · split at h
          · split at h
            · cases h; exact hgh _
            · cases h
          · split at h
            · cases h; exact gR_w4 h4 _ (by omega)
            · split at h
              · split at h
                · cases h; exact h4
                · cases h
              · cases h; exact hg _
def SC (q : Nat) (p : Int) : Prop := (102 ≤ q ∧ q ≤ 105) ∨ (q = 100 ∧ (p = 5 ∨ p = 6 ∨ p = 7))
theorem SH_SC {q : Nat} {p : Int} (h : SH q p) : SC q p := by unfold SH at h; unfold SC; omega
section
variable {d : Nat} {Z : zM} {L : Int} {t : Int → Int}
theorem R_goes {m fl : Int} {s : gS} {Q : zM → Prop} (A : RFs Z s) (wf : WFs s) (hf : -1 ≤ fl ∧ fl < s.2.1) (hm : 0 ≤ m ∧ m ≤ 1000) (hh : s.2.2.1 + m ≤ 1000000) (hQ : ∀ Z', RFs Z' (ghours fl m.toNat s) → fR SH Z Z' → Q Z') : TV (d + 4) 189 [.inr 100, .inl m, .inl fl] Z Q := by
  have wh := wf.2.2.1
  refine w189_0 ?_
  suffices H : ∀ i : Nat, i ≤ m.toNat → ∀ Z1 : zM, RFs Z1 (ghours fl i s) → fR SH Z Z1 → TZ (d + 4) 189 2 [some (.inr 100), some (.inl m), some (.inl fl), some (.inl (i : Int))] [] Z1 (zrv Q) from H 0 (Nat.zero_le _) Z A (fR.refl _ _)
  intro i hi
  refine zdown (P := fun i => ∀ Z1 : zM, RFs Z1 (ghours fl i s) → fR SH Z Z1 → TZ (d + 4) 189 2 [some (.inr 100), some (.inl m), some (.inl fl), some (.inl (i : Int))] [] Z1 (zrv Q)) (n := m.toNat) ?_ ?_ i hi
  · intro Z1 A1 f1
    exact w189_2 ⟨by unfold zR; omega, by unfold zR; omega, fun _ => hQ Z1 A1 f1, fun x => absurd (show m ≤ (m.toNat : Int) by omega) x⟩
  · intro i hi ih Z1 A1 f1
    have e := ghours_h (fl := fl) i s
    refine w189_2 ⟨by unfold zR; omega, by unfold zR; omega, fun x => absurd x (by omega), fun _ => ?_⟩
    exact R_goes1 A1 (ghours_wf wf hf i (by omega)) (by rw [e.2.1]; exact hf) (by rw [e.1]; omega) fun Z' A2 f2 => ih Z' A2 (f1.trans f2)
theorem R_cHours {m fl : Int} {s : gS} {Q : Int → zM → Prop} (A : RFs Z s) (wf : WFs s) (hf : -1 ≤ fl ∧ fl < s.2.1) (hh : s.2.2.1 ≤ 999) (hm : 0 ≤ m ∧ m ≤ 9) (h1 : s.2.2.1 + m ≤ 999 → ∀ Z', RFs Z' (ghours fl m.toNat s) → fR SH Z Z' → Q 1 Z') (h0 : ¬ s.2.2.1 + m ≤ 999 → Q 0 Z) : TI (d + 5) 169 [.inr 100, .inl m, .inl fl] Z Q := by
  have e7 : Z 100 7 = s.2.2.1 := A.2.2.1
  have wh := wf.2.2.1
  refine w169_0 ?_
  rw [e7]
  exact ⟨by unfold zR; omega, fun c => R_goes A wf hf (by omega) (by omega) (h1 c), h0⟩
theorem R_cBird {k kd fg w : Int} {s : gS} {Q : Int → zM → Prop} (A : RFs Z s) (wf : WFs s) (hk : 0 ≤ k ∧ k < 48) (t1 : Z 109 (3 * k) = kd) (t2 : Z 109 (3 * k + 1) = fg) (t3 : Z 109 (3 * k + 2) = w) (b1 : 0 ≤ kd ∧ kd ≤ 9) (b3 : 0 ≤ w ∧ w ≤ 9) (h1 : (0 ≤ kd ∧ kd ≤ 5) ∧ s.1 < 8 ∧ roomb s.2.2.2.2.2.1 s.1 s.2.1 w = true → ∀ Z', RFs Z' (gadd kd fg w s) → fR SC Z Z' → Q 1 Z') (h0 : ¬ ((0 ≤ kd ∧ kd ≤ 5) ∧ s.1 < 8 ∧ roomb s.2.2.2.2.2.1 s.1 s.2.1 w = true) → Q 0 Z) : TI (d + 2) 168 [.inr 100, .inl (3 * k)] Z Q := by
  obtain ⟨n, W, h, K, F, P, T⟩ := s
  have A0 : RF Z n W h K F P T := A
  have wf0 : WF n W h K F P T := wf
  have e5 := A0.1
  have e6 := A0.2.1
  have hn := wf0.1
  have hW := wf0.2.1
  dsimp only at h1 h0
  refine w168_0 ?_
  rw [t1, t3]
  refine ⟨by omega, by unfold zR; omega, fun c => h0 (by omega), fun c => ⟨by omega, R_isWire e6 (by unfold zR; omega) (by unfold zR; omega) (fun c2 => ?_) (fun c2 => ?_)⟩⟩
  · rw [e5, t3]
    refine ⟨by decide, fun y => absurd y (by decide), fun _ => ⟨by unfold zR; omega, fun c3 => h0 (by omega), fun c3 => ⟨by omega, R_room A0 wf0.pb (by unfold zR; omega) (fun r => ?_) (fun r => ?_)⟩⟩⟩
    · refine ⟨by decide, fun _ => ⟨by omega, by omega, by omega, ?_⟩, fun y => absurd (show (1 : Int) ≠ 0 by decide) y⟩
      rw [t1, t2, t3]
      refine R_adds A0 (by omega) fun Z' A' f' => h1 ⟨by omega, by omega, roomb_iff.mpr ⟨c2.1, c2.2, r⟩⟩ Z' A' (f'.mono fun q p h => ?_)
      unfold SC; omega
    · exact ⟨by decide, fun y => absurd rfl y, fun _ => h0 fun y => r (roomb_iff.mp y.2.2).2.2⟩
  · exact ⟨by decide, fun _ => h0 fun y => c2 ⟨(roomb_iff.mp y.2.2).1, (roomb_iff.mp y.2.2).2.1⟩, fun y => absurd rfl y⟩
theorem R_comes {k p : Int} {s : gS} {Q : Int → zM → Prop} (A : RFs Z s) (wf : WFs s) (h4 : W4 s.1 s.2.2.2.2.2.1) (hh : s.2.2.1 ≤ 999) (hk : 0 ≤ k ∧ k < 48) (hz : -1 ≤ tl L t p ∧ tl L t p ≤ 255) (e : Z 107 k = tl L t p) (D : PD L t Z k p) (ok : okst L t p) (h1 : ∀ s', gstmt L t p s = some s' → ∀ Z', RFs Z' s' → fR SC Z Z' → Q 1 Z') (h0 : gstmt L t p s = none → Q 0 Z) : TI (d + 6) 170 [.inr 100, .inl k] Z Q := by
  obtain ⟨o1, o2, o3⟩ := ok
  obtain ⟨D1, D2, D3⟩ := D
  have d1 := td_b (L := L) (t := t) (p := p + 1)
  have d2 := td_b (L := L) (t := t) (p := p + 2)
  have d3 := td_b (L := L) (t := t) (p := p + 3)
  have hW : 5 ≤ s.2.1 ∧ s.2.1 ≤ 6 := wf.2.1
  have e6 : Z 100 6 = s.2.1 := A.2.1
  unfold gstmt at h1 h0
  refine w170_0 ?_
  rw [e]
  refine ⟨by omega, by omega, by unfold zR; omega, fun c => ?_, fun c => ?_, fun c => ?_, fun c => ?_, fun c => ?_, fun c => ?_, fun c => ?_, fun c => ?_⟩
  · have et : tn (tl L t p) = 3 := by rw [c]; rfl
    have x1 := o2 1 (by decide) (by omega)
    have x2 := o2 2 (by decide) (by omega)
    have x3 := o2 3 (by decide) (by omega)
    obtain ⟨t1, t2, t3⟩ := D1 c
    rw [if_pos c] at h1 h0
    refine R_cBird A wf hk t1 t2 t3 (by omega) (by omega) (fun x Z' A' f' => ⟨Or.inr rfl, ?_⟩) (fun x => ⟨Or.inl rfl, ?_⟩)
    · rw [if_pos x] at h1
      exact h1 _ rfl Z' A' f'
    · rw [if_neg x] at h0
      exact h0 rfl
  · have et : tn (tl L t p) = 1 := by rw [c]; rfl
    have x1 := o2 1 (by decide) (by omega)
    rw [D2 (by omega)]
    rw [if_neg (by omega), if_pos c] at h1 h0
    refine R_isWire e6 (by unfold zR; omega) (by unfold zR; omega) (fun x => ?_) (fun x => ?_)
    · rw [if_pos x] at h1
      obtain ⟨n, W, h, K, F, P, T⟩ := s
      exact ⟨by decide, fun _ => R_cats0 A wf x fun Z' A' f' => h1 _ rfl Z' A' (f'.mono fun q p h => by unfold SP at h; unfold SC; omega), fun y => absurd (show (1 : Int) ≠ 0 by decide) y⟩
    · rw [if_neg x] at h0
      exact ⟨by decide, fun y => absurd rfl y, fun _ => h0 rfl⟩
  · have et : tn (tl L t p) = 1 := by rw [c]; rfl
    have x1 := o2 1 (by decide) (by omega)
    rw [D2 (by omega)]
    rw [if_neg (by omega), if_neg (by omega), if_pos c] at h1 h0
    refine R_isWire e6 (by unfold zR; omega) (by unfold zR; omega) (fun x => ?_) (fun x => ?_)
    · refine ⟨by decide, fun y => absurd y (by decide), fun _ => R_cHours A wf (by omega) hh (by decide) (fun y Z' A' f' => ⟨by decide, fun z => absurd z (by decide), fun _ => ?_⟩) (fun y => ⟨by decide, fun _ => ?_, fun z => absurd rfl z⟩)⟩
      · rw [if_pos ⟨x, y⟩] at h1
        exact h1 _ rfl Z' A' (f'.mono fun _ _ h => SH_SC h)
      · rw [if_neg (fun z => y z.2)] at h0
        exact h0 rfl
    · rw [if_neg (fun z => x z.1)] at h0
      exact ⟨by decide, fun _ => h0 rfl, fun z => absurd rfl z⟩
  · rw [if_neg (by omega), if_neg (by omega), if_neg (by omega), if_pos c] at h1
    obtain ⟨n, W, h, K, F, P, T⟩ := s
    exact R_hawk0 A wf h4 fun Z' A' f' => h1 _ rfl Z' A' (f'.mono fun q p h => by unfold SP at h; unfold SC; omega)
  · have et : tn (tl L t p) = 1 := by rw [c]; rfl
    have x1 := o2 1 (by decide) (by omega)
    rw [D2 (by omega)]
    rw [if_neg (by omega), if_neg (by omega), if_neg (by omega), if_neg (by omega), if_pos c] at h1 h0
    refine R_cHours A wf (by omega) hh (by omega) (fun y Z' A' f' => ⟨Or.inr rfl, ?_⟩) (fun y => ⟨Or.inl rfl, ?_⟩)
    · rw [if_pos y] at h1
      exact h1 _ rfl Z' A' (f'.mono fun _ _ h => SH_SC h)
    · rw [if_neg y] at h0
      exact h0 rfl
  · rw [if_neg (by omega), if_neg (by omega), if_neg (by omega), if_neg (by omega), if_neg (by omega), if_pos c] at h1
    obtain ⟨n, W, h, K, F, P, T⟩ := s
    exact R_rain0 A wf h4 fun Z' A' f' => h1 _ rfl Z' A' (f'.mono fun q p h => by unfold SP at h; unfold SC; omega)
  · have et : tn (tl L t p) = 3 := by rw [c]; rfl
    have x1 := o2 1 (by decide) (by omega)
    have x2 := o2 2 (by decide) (by omega)
    have x3 := o2 3 (by decide) (by omega)
    obtain ⟨t1, t2⟩ := D3 c
    rw [t1]
    rw [if_neg (by omega), if_neg (by omega), if_neg (by omega), if_neg (by omega), if_neg (by omega), if_neg (by omega), if_pos c] at h1 h0
    refine R_isWire e6 (by unfold zR; omega) (by unfold zR; omega) (fun x => ?_) (fun x => ?_)
    · rw [t2]
      refine ⟨by decide, fun y => absurd y (by decide), fun _ => ⟨by omega, by unfold zR; omega, fun y => ⟨by omega, by omega, fun Z1 z1 => ?_⟩, fun y => ?_⟩⟩
      · rw [if_pos ⟨x, by omega, y⟩] at h1
        obtain ⟨n, W, h, K, F, P, T⟩ := s
        refine h1 _ rfl Z1 ?_ (by subst z1; exact fR_up (Or.inl (by decide)))
        show RF Z1 n W h K F P (gup T (td L t (p + 1)) (10 * td L t (p + 2) + td L t (p + 3)))
        obtain ⟨e5, e6, e7, eb, ew⟩ := A
        subst z1
        refine ⟨by simpa [zup] using e5, by simpa [zup] using e6, by simpa [zup] using e7, fun b x y => by simpa [zup] using eb b x y, fun q x y => ?_⟩
        have := ew q x y
        by_cases eq : q = td L t (p + 1)
        · rw [eq, zup_same, gup_same]
        · rw [zup_place _ _ _ _ eq, gup_ne _ _ eq]; exact this
      · rw [if_neg (fun z => y z.2.2)] at h0
        exact h0 rfl
    · rw [if_neg (fun z => x z.1)] at h0
      exact ⟨by decide, fun _ => h0 rfl, fun z => absurd rfl z⟩
  · rw [if_neg (by omega), if_neg (by omega), if_neg (by omega), if_neg (by omega), if_neg (by omega), if_neg (by omega), if_neg (by omega)] at h1
    obtain ⟨n, W, h, K, F, P, T⟩ := s
    refine R_hangs0 A wf fun Z' A' f' => h1 _ rfl Z' ?_ (f'.mono fun q p h => by unfold SW at h; unfold SC; omega)
    show RF Z' n (if (if W = 6 then (0 : Int) else 1) = 1 then 6 else 5) h K F (ghang n W P (if W = 6 then 0 else 1)) T
    have : (if (if W = 6 then (0 : Int) else 1) = 1 then (6 : Int) else 5) = if W = 6 then 5 else 6 := by
      split <;> split <;> omega
    rw [this]
    exact A'
/-- where the STATEMENTS begin -/
def pos (L : Int) (t : Int → Int) : Nat → Int
  | 0 => 0
  | k + 1 => pos L t k + (tn (tl L t (pos L t k)) + 2)
def Parsed (L : Int) (t : Int → Int) (Z : zM) (k : Nat) : Prop := ∀ j : Nat, j < k → Z 107 j = tl L t (pos L t j) ∧ Z 108 j = pos L t j ∧ PD L t Z j (pos L t j) ∧ okst L t (pos L t j)
theorem tl_out {p : Int} (h : ¬ (0 ≤ p ∧ p < L)) : tl L t p = -1 := by unfold tl; rw [if_neg h]
theorem okst_in {p : Int} (ok : okst L t p) : 0 ≤ p ∧ p < L := by
  obtain ⟨o1, _, _⟩ := ok
  by_cases h : 0 ≤ p ∧ p < L
  · exact h
  · have : tl L t p = -1 := by unfold tl; rw [if_neg h]
    rw [this] at o1
    exact absurd o1 (by decide)
theorem Parsed.pos_b {k : Nat} (P : Parsed L t Z k) (hL : 0 ≤ L) : ∀ j : Nat, j ≤ k → 2 * (j : Int) ≤ pos L t j ∧ pos L t j ≤ L + 4
  | 0, _ => ⟨by show 2 * ((0 : Nat) : Int) ≤ 0; omega, by show (0 : Int) ≤ L + 4; omega⟩
  | j + 1, hj => by
    have ih := Parsed.pos_b P hL j (by omega)
    have o := (P j (by omega)).2.2.2
    have i := okst_in o
    have hn := tn_b (c := tl L t (pos L t j))
    have o1 := o.1
    show 2 * ((j + 1 : Nat) : Int) ≤ pos L t j + (tn (tl L t (pos L t j)) + 2) ∧ pos L t j + (tn (tl L t (pos L t j)) + 2) ≤ L + 4
    have o3 := o.2.2
    have : pos L t j + tn (tl L t (pos L t j)) + 1 < L := by
      by_cases h : 0 ≤ pos L t j + tn (tl L t (pos L t j)) + 1 ∧ pos L t j + tn (tl L t (pos L t j)) + 1 < L
      · exact h.2
      · have : tl L t (pos L t j + tn (tl L t (pos L t j)) + 1) = -1 := tl_out h
        omega
    omega
theorem Parsed.keep {Z' : zM} {k : Nat} (P : Parsed L t Z k) (h : ∀ q p, 107 ≤ q → q ≤ 109 → Z' q p = Z q p) : Parsed L t Z' k := by
  intro j hj
  obtain ⟨p1, p2, p3, p4⟩ := P j hj
  refine ⟨by rw [h _ _ (by decide) (by decide)]; exact p1, by rw [h _ _ (by decide) (by decide)]; exact p2, ?_, p4⟩
  unfold PD
  simp only [h 109 _ (by decide) (by decide)]
  exact p3
/-- scratch of TOWN -/
def SG (q : Nat) (p : Int) : Prop := (107 ≤ q ∧ q ≤ 109) ∨ (q = 100 ∧ (p = 13 ∨ p = 14))
theorem ph1 {Q : Int → zM → Prop} {Z0 : zM} (B0 : RT Z0 L t) : ∀ (f k : Nat) (Z : zM), (pos L t k < L ∨ k = 0) → L - pos L t k < f → fR SG Z0 Z → Z 100 13 = pos L t k → Z 100 14 = (k : Int) → Parsed L t Z k →
    (0 ≤ gOdd L t f (pos L t k) → ∀ Z', fR SG Z0 Z' → Q (-1000 - gOdd L t f (pos L t k)) (zup Z' 100 12 0)) →
    (gOdd L t f (pos L t k) < 0 → ∀ (N : Nat) (Z' : zM), 1 ≤ N → L ≤ pos L t N → fR SG Z0 Z' → Z' 100 14 = (N : Int) → Parsed L t Z' N → TV (d + 3) 174 [.inr 100, .inl 1, .inl 1] (zup Z' 100 12 0) (fun Z6 => TZ (d + 4) 171 86 [some (.inr 100), some (.inl 1), some (.inl 0)] [] Z6 (zri Q))) →
    TZ (d + 4) 171 12 [some (.inr 100), some (.inl 1), none] [] Z (zri Q)
  | 0, k, Z, hp, hf, f0, e13, e14, P, hB, hG => by
    have b := B0.2.1
    rcases hp with h | h
    · omega
    · subst h
      have : pos L t 0 = 0 := rfl
      omega
  | f + 1, k, Z, hp, hf, f0, e13, e14, P, hB, hG => by
    have B : RT Z L t := RT.keep B0 (f0 _ _ (by unfold SG; omega)) (funext fun x => f0 _ _ (by unfold SG; omega))
    have b := B.2.1
    have pb := P.pos_b b.1 k (Nat.le_refl _)
    have e12 := B.1
    have hn := tn_b (c := tl L t (pos L t k))
    have g1 := gs1_b (L := L) (t := t) (p := pos L t k) (by omega)
    rw [gOdd_s (by omega)] at hB hG
    have hk48 : (k : Int) < 48 := by
      rcases hp with h | h
      · omega
      · subst h; decide
    have ST : ∀ (C : TI (d + 3) 167 [.inr 100] Z (fun r11 Z10 => zR r11 ∧ (r11 = 0 → ∀ Z14, Z14 = zup Z10 100 14 (Z10 100 14 + 0) → TZ (d + 4) 171 12 [some (.inr 100), some (.inl r11), none] [] Z14 (zri Q)) ∧ (¬ r11 = 0 → ∀ Z15, Z15 = zup Z10 100 14 (Z10 100 14 + 1) → TZ (d + 4) 171 12 [some (.inr 100), some (.inl r11), none] [] Z15 (zri Q)))), TZ (d + 4) 171 12 [some (.inr 100), some (.inl 1), none] [] Z (zri Q) := by
      intro C
      refine w171_12 ⟨by decide, fun y => absurd y (by decide), fun _ => ?_⟩
      rw [e13, e12, e14]
      refine ⟨by unfold zR; omega, by unfold zR; omega, fun _ => C, fun y => ⟨by unfold zR; omega, fun z => ?_, fun _ => C⟩⟩
      rcases hp with h | h
      · exact absurd h y
      · omega
    refine ST (R_statement (d := d) B e13 e14 (by omega) (by omega) (fun g Z' h1 h2 h3 h4 h5 => ⟨by decide, fun y => absurd y (by decide), fun _ Z15 z15 => ?_⟩) (fun g Z' h1 h2 => ⟨by decide, fun _ Z14 z14 => ?_, fun y => absurd rfl y⟩))
    · have f' : fR SG Z0 Z' := f0.trans (h5.mono fun q p h => by unfold SDk SD at h; unfold SG; omega)
      have x14 : Z' 100 14 = (k : Int) := by rw [h5 _ _ (by unfold SDk SD; omega)]; exact e14
      have f15 : fR SG Z0 Z15 := by subst z15; exact f'.trans (fR_up (Or.inr ⟨rfl, Or.inr rfl⟩))
      have y13 : Z15 100 13 = pos L t (k + 1) := by subst z15; rw [zup_place _ _ _ _ (by decide)]; exact h1
      have y14 : Z15 100 14 = ((k + 1 : Nat) : Int) := by subst z15; rw [zup_same, x14]; omega
      have P' : Parsed L t Z15 (k + 1) := by
        have hP : Parsed L t Z' (k + 1) := by
          intro j hj
          by_cases e : j = k
          · subst e; exact ⟨h2, h3, h4, gs1_ok (by omega) g⟩
          · obtain ⟨p1, p2, p3, p4⟩ := P j (by omega)
            refine ⟨by rw [h5 _ _ (by unfold SDk SD; omega)]; exact p1, by rw [h5 _ _ (by unfold SDk SD; omega)]; exact p2, ?_, p4⟩
            unfold PD
            rw [h5 109 (3 * (j : Int)) (by unfold SDk SD; omega), h5 109 (3 * (j : Int) + 1) (by unfold SDk SD; omega), h5 109 (3 * (j : Int) + 2) (by unfold SDk SD; omega)]
            exact p3
        refine hP.keep fun q p q1 q2 => ?_
        subst z15; rw [zup_cell _ _ _ _ (by omega)]
      rw [if_neg (by omega)] at hB hG
      by_cases hl : pos L t (k + 1) < L
      · have hl' : pos L t k + (tn (tl L t (pos L t k)) + 2) < L := hl
        rw [if_pos hl'] at hB hG
        exact ph1 B0 f (k + 1) Z15 (Or.inl hl) (by have := (gs1_ok (by omega) g).1; show L - (pos L t k + (tn (tl L t (pos L t k)) + 2)) < f; omega) f15 y13 y14 P' hB hG
      · have hl' : ¬ pos L t k + (tn (tl L t (pos L t k)) + 2) < L := hl
        rw [if_neg hl'] at hG
        have hG := hG (by decide)
        have B15 : RT Z15 L t := RT.keep B0 (f15 _ _ (by unfold SG; omega)) (funext fun x => f15 _ _ (by unfold SG; omega))
        have pb' := P'.pos_b b.1 (k + 1) (Nat.le_refl _)
        refine w171_12 ⟨by decide, fun y => absurd y (by decide), fun _ => ?_⟩
        rw [y13, B15.1, y14]
        refine ⟨by unfold zR; omega, by unfold zR; omega, fun y => absurd y hl, fun y => ⟨by unfold zR; omega, fun z Z18 z18 => ⟨by decide, fun _ => ?_, fun x => absurd (show (1 : Int) ≠ 0 by decide) x⟩, fun z => absurd (show ((k + 1 : Nat) : Int) ≠ 0 by omega) z⟩⟩
        subst z18
        exact hG (k + 1) Z15 (by omega) (by omega) f15 y14 P'
    · rw [if_pos g] at hB
      have f' : fR SG Z0 Z14 := by
        subst z14
        exact (f0.trans (h2.mono fun q p h => by unfold SDk SD at h; unfold SG; omega)).trans (fR_up (Or.inr ⟨rfl, Or.inr rfl⟩))
      have y13 : Z14 100 13 = gs1 L t (pos L t k) := by subst z14; rw [zup_place _ _ _ _ (by decide)]; exact h1
      refine w171_12 ⟨by decide, fun _ Z3 z3 => ⟨by decide, fun y => absurd rfl y, fun _ => ?_⟩, fun y => absurd rfl y⟩
      have y3 : Z3 100 13 = gs1 L t (pos L t k) := by subst z3; rw [zup_place _ _ _ _ (by decide)]; exact y13
      rw [y3]
      subst z3
      exact hB g Z14 f'
end
section
variable {d : Nat} {a : gX}
theorem ph2 {Q : Int → zM → Prop} {Z0 : zM} {N : Nat} {L : Int} {t : Int → Int} (wx : WX a) (hN : Parsed L t Z0 N) (hNL : L ≤ pos L t N) (hL : 0 ≤ L ∧ L ≤ 96) (hl : ∀ p, -1 ≤ tl L t p ∧ tl L t p ≤ 255) (hS : BF Z0 1 a.1) (e14 : Z0 100 14 = (N : Int)) : ∀ (f k : Nat) (Z : zM) (s : gS), k ≤ N → L - pos L t k < f → 1 ≤ f → fR SC Z0 Z → RFs Z s → WFs s → W4 s.1 s.2.2.2.2.2.1 → s.2.2.1 ≤ 999 →
    (∀ c, gTown L t f (pos L t k) s k = (c, none) → ∀ Z', lodd Z0 Z' 1 → Q c Z') →
    (∀ c s', gTown L t f (pos L t k) s k = (c, some s') → ∀ Z', fR SC Z0 Z' → RFs Z' s' → Q c (zup Z' 100 19 0)) →
    TZ (d + 7) 171 86 [some (.inr 100), some (.inl 1), some (.inl (k : Int))] [] Z (zri Q)
  | 0, k, Z, s, hk, hf, h1, f0, A, wf, h4, hh, hB, hG => absurd h1 (by omega)
  | f + 1, k, Z, s, hk, hf, h1, f0, A, wf, h4, hh, hB, hG => by
    have pb := hN.pos_b hL.1 k hk
    have pN := hN.pos_b hL.1 N (Nat.le_refl _)
    have n14 : Z 100 14 = (N : Int) := by rw [f0 _ _ (by unfold SC; omega)]; exact e14
    have hN48 : (N : Int) ≤ 50 := by omega
    rw [gTown_step] at hB hG
    refine w171_86 ?_
    rw [n14]
    refine ⟨by unfold zR; omega, by unfold zR; omega, fun c => ?_, fun c => ?_⟩
    · have e : k = N := by omega
      subst e
      rw [if_pos hNL] at hG
      intro Z4 z4
      have x14 : Z4 100 14 = (k : Int) := by subst z4; rw [zup_place _ _ _ _ (by decide)]; exact n14
      rw [x14]
      subst z4
      exact hG k s rfl Z f0 A
    · obtain ⟨p1, p2, p3, p4⟩ := hN k (by omega)
      have pin := okst_in p4
      have hn := tn_b (c := tl L t (pos L t k))
      rw [if_neg (by omega)] at hB hG
      have q1 : Z 107 k = tl L t (pos L t k) := by rw [f0 _ _ (by unfold SC; omega)]; exact p1
      have q2 : PD L t Z k (pos L t k) := by
        unfold PD
        rw [f0 109 _ (by unfold SC; omega), f0 109 _ (by unfold SC; omega), f0 109 _ (by unfold SC; omega)]
        exact p3
      refine R_comes A wf h4 hh (by omega) (hl _) q1 q2 p4 (fun s' hs Z2 A2 f2 => ⟨by decide, fun y => absurd y (by decide), fun _ => ?_⟩) (fun hs => ⟨by decide, fun _ => ?_, fun y => absurd rfl y⟩)
      · simp only [hs] at hB hG
        have em : max 0 (tn (tl L t (pos L t k))) = tn (tl L t (pos L t k)) := by have := p4.1; omega
        rw [em] at hB hG
        have w' := gstmt_wf wf hh (fun e => by
          refine p4.2.1 2 (by decide) ?_
          rw [e]; decide) hs
        have := p4.1
        have ih := ph2 wx hN hNL hL hl hS e14 f (k + 1) Z2 s' (by omega) (by show L - (pos L t k + (tn (tl L t (pos L t k)) + 2)) < f; omega) (by omega) (f0.trans f2) A2 w'.1 (gstmt_w4 wf h4 hs) w'.2 (by rw [show ((k + 1 : Nat) : Int) = (k : Int) + 1 by omega]; exact hB) (by rw [show ((k + 1 : Nat) : Int) = (k : Int) + 1 by omega]; exact hG)
        rw [show ((k + 1 : Nat) : Int) = (k : Int) + 1 by omega] at ih
        exact ih
      · simp only [hs] at hB
        refine R_load (by decide) fun Z9 l => ⟨by omega, ?_⟩
        have l0 : lodd Z0 Z9 1 := by
          obtain ⟨s1, s2, s3, s4, s5, s6⟩ := l
          have e110 : Z 110 = Z0 110 := funext fun x => f0 _ _ (by unfold SC; omega)
          refine ⟨?_, ?_, ?_, by rw [s4, e110], fun p x1 x2 x3 x4 x5 => by rw [s5 p x1 x2 x3 x4 x5]; exact f0 _ _ (by unfold SC; omega), fun q x1 x2 => by rw [s6 q x1 x2]; exact funext fun x => f0 _ _ (by unfold SC; omega)⟩
          · rw [e110] at s1; exact s1
          · rw [e110] at s2; exact s2
          · rw [e110] at s3; exact s3
        have e108 : Z9 108 k = pos L t k := by
          rw [l0.2.2.2.2.2 108 (by decide) (by omega)]; exact p2
        rw [e108]
        exact hB _ rfl Z9 l0
theorem J_town {Z : zM} (A : RX Z a) (wx : WX a) (vx : VX a) : TI (d + 7) 171 [.inr 100] Z (PostR Z (oTown a)) := by
  have B : RT Z a.2.2.2.1.1 a.2.2.2.1.2 := A.2.2.2.1
  have b := B.2.1
  have hw := wx.1.1
  refine w171_0 fun Z1 z1 Z2 z2 => ?_
  have f2 : fR SG Z Z2 := by
    subst z2; subst z1
    exact (fR_up (Or.inr ⟨rfl, Or.inl rfl⟩)).trans (fR_up (Or.inr ⟨rfl, Or.inr rfl⟩))
  have e13 : Z2 100 13 = pos a.2.2.2.1.1 a.2.2.2.1.2 0 := by subst z2; rw [zup_place _ _ _ _ (by decide)]; subst z1; rw [zup_same]; rfl
  have e14 : Z2 100 14 = ((0 : Nat) : Int) := by subst z2; rw [zup_same]; rfl
  have hS : ∀ Z', fR SG Z Z' → RX Z' a := fun Z' f => A.scr wx f fun q p h => by unfold SG at h; omega
  have F100 : ∀ Z', fR SG Z Z' → ∀ q, q < 100 → Z' q = Z q := fun Z' f q hq => funext fun p => f q p (by unfold SG; omega)
  refine ph1 (d := d + 3) B 100 0 Z2 (Or.inr rfl) (by show a.2.2.2.1.1 - 0 < 100; omega) f2 e13 e14 (fun j hj => absurd hj (by omega)) (fun g Z' f' => ?_) (fun g N Z' hN hNL f' x14 hP => ?_)
  · have g : 0 ≤ gOdd a.2.2.2.1.1 a.2.2.2.1.2 100 0 := g
    unfold oTown
    rw [if_pos g]
    exact ⟨rfl, RY12 (hS Z' f') wx, fun q hq => by funext p; rw [zup_cell _ _ _ _ (by omega)]; exact congrFun (F100 Z' f' q hq) p⟩
  · have g : gOdd a.2.2.2.1.1 a.2.2.2.1.2 100 0 < 0 := g
    have r3 := RY12 (hS Z' f') wx
    have c3 : ∀ q : Nat, q ≠ 100 → zup Z' 100 12 0 q = Z' q := fun q h => funext fun p => zup_cell _ _ _ _ h
    refine R_save (by decide) fun Z6 sv => ?_
    obtain ⟨sb, sr⟩ := savd.bf hw.1.2 r3.1 sv
    obtain ⟨s1, s2, s3, s4, s5, s6⟩ := sv
    have P6 : Parsed a.2.2.2.1.1 a.2.2.2.1.2 Z6 N := hP.keep fun q p q1 q2 => by rw [s6 q (by omega) (by omega), c3 q (by omega)]
    have y14 : Z6 100 14 = (N : Int) := by rw [s5 14 (by decide) (by decide), zup_place _ _ _ _ (by decide)]; exact x14
    have y6 : ∀ q, q < 100 → Z6 q = Z q := fun q hq => by rw [s6 q (by omega) (by omega), c3 q (by omega), F100 Z' f' q hq]
    have r6 : RY Z6 (a.1, a.2.1, a.2.2.1, (0, a.2.2.2.1.2), a.2.2.2.2) := by
      refine RY.keep (a := (a.1, a.2.1, a.2.2.1, (0, a.2.2.2.1.2), a.2.2.2.2)) wx r3.2 fun q p h => ?_
      unfold SY at h
      by_cases e : q = 100
      · subst e; exact s5 p (by omega) (by omega)
      · by_cases e2 : q = 110
        · subst e2; exact s4 p (by omega)
        · exact congrFun (s6 q e e2) p
    refine ph2 (d := d) (a := a) wx P6 hNL b (fun p => tlR B) sb y14 100 0 Z6 a.1 (Nat.zero_le _) (by show a.2.2.2.1.1 - 0 < 100; omega) (by decide) (fR.refl _ _) sr wx.1.1 vx.1 wx.1.2 (fun c hc Z9 l => ?_) (fun c s' hc Z9 f9 A9 => ?_)
    · have hc : gTown a.2.2.2.1.1 a.2.2.2.1.2 100 0 a.1 0 = (c, none) := hc
      unfold oTown
      rw [if_neg (by omega), hc]
      have ff := l.fr
      exact ⟨rfl, ⟨lodd.rf (s := a.1) hw.1.2 sb l, RY.keep (a := (a.1, a.2.1, a.2.2.1, (0, a.2.2.2.1.2), a.2.2.2.2)) wx r6 fun q p h => ff q p (ST_SY h)⟩, fun q hq => by
        funext p; rw [ff q p (by unfold ST; omega), y6 q hq]⟩
    · have hc : gTown a.2.2.2.1.1 a.2.2.2.1.2 100 0 a.1 0 = (c, some s') := hc
      unfold oTown
      rw [if_neg (by omega), hc]
      have r9 : RY Z9 (a.1, a.2.1, a.2.2.1, (0, a.2.2.2.1.2), a.2.2.2.2) := RY.keep (a := (a.1, a.2.1, a.2.2.1, (0, a.2.2.2.1.2), a.2.2.2.2)) wx r6 fun q p h => f9 q p (by unfold SY at h; unfold SC; omega)
      exact ⟨rfl, RY19 (a := (a.1, a.2.1, a.2.2.1, (0, a.2.2.2.1.2), a.2.2.2.2)) A9 r9 fun e => (wx.2.2 e).1.1.2, fun q hq => by
        funext p; rw [zup_cell _ _ _ _ (by omega), f9 q p (by unfold SC; omega), y6 q hq]⟩
end
