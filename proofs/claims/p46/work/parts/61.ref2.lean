/-! THE REFERENCE: CATS, HAWKS, RAIN; no wire has more than four -/
def W4 (n : Int) (P : Int → Int) : Prop := ∀ w, 0 ≤ w → cnt P w n.toNat ≤ 4
theorem gup_gup (P : Int → Int) (b x y : Int) : gup (gup P b x) b y = gup P b y := by
  funext q
  unfold gup
  split <;> rfl
theorem gup_w4 {n b x : Int} {P : Int → Int} (h : W4 n P) (hb : 0 ≤ b ∧ b < n) (hx : cnt P x n.toNat < 4 ∨ P b = x) : W4 n (gup P b x) := by
  intro w hw
  have h1 := h w hw
  rw [cnt_up hb.1, if_pos (by omega)]
  by_cases e : x = w
  · subst e
    rcases hx with h2 | h2
    · split <;> split <;> omega
    · rw [if_pos rfl, if_pos h2]; omega
  · rw [if_neg e]
    split <;> omega
theorem gP_w4 {n W h fl : Int} {K F P : Int → Int} (h4 : W4 n P) : ∀ m : Nat, (m : Int) ≤ n → W4 n (gP n W h K F P fl m).1
  | 0, _ => h4
  | m + 1, hm => by
    have ih := gP_w4 (W := W) (h := h) (K := K) (F := F) (fl := fl) h4 m (by omega)
    unfold gP
    dsimp only
    split
    · next c => exact gup_w4 ih (by omega) (Or.inl (roomb_iff.mp c.2).2.2)
    · exact ih
theorem gref_w4 {n W w : Int} {P : Int → Int} : gref P n W w < 0 ∨ cnt P (gref P n W w) n.toNat < 4 := by
  unfold gref
  rcases gfup_b (P := P) (n := n) (W := W) 8 (w + 1) with h | ⟨h3, h4, h5⟩
  · rw [if_pos (by omega)]
    rcases gfdn_b (P := P) (n := n) (W := W) 8 (w - 1) with h | ⟨h3, h4, h5, h6⟩
    · exact Or.inl (by omega)
    · exact Or.inr h6
  · split
    · rcases gfdn_b (P := P) (n := n) (W := W) 8 (w - 1) with h | ⟨h3, h4, h5, h6⟩
      · exact Or.inl (by omega)
      · exact Or.inr h6
    · exact Or.inr h5
theorem gC_w4 {n W w : Int} {P : Int → Int} (h4 : W4 n P) : ∀ m : Nat, (m : Int) ≤ n → W4 n (gC n W P w m).1
  | 0, _ => h4
  | m + 1, hm => by
    have ih := gC_w4 (W := W) (w := w) h4 m (by omega)
    unfold gC
    dsimp only
    split
    · next c => exact gup_w4 ih (by omega) (by rcases gref_w4 (n := n) (W := W) (w := w) (P := (gC n W P w m).1) with x | x; omega; exact Or.inl x)
    · exact ih
theorem gup1_r {n W own : Int} {P : Int → Int} : ∀ (f : Nat) (x : Int), gup1 P n W own f x = own ∨ cnt P (gup1 P n W own f x) n.toNat < 4
  | 0, x => Or.inl rfl
  | f + 1, x => by
    unfold gup1
    split
    · exact Or.inl rfl
    · split
      · next c => exact Or.inr (roomb_iff.mp c).2.2
      · exact gup1_r f (x - 1)
theorem gdn1_r {n W own : Int} {P : Int → Int} : ∀ (f : Nat) (x : Int), gdn1 P n W own f x = own ∨ cnt P (gdn1 P n W own f x) n.toNat < 4
  | 0, x => Or.inl rfl
  | f + 1, x => by
    unfold gdn1
    split
    · exact Or.inl rfl
    · split
      · next c => exact Or.inr (roomb_iff.mp c).2.2
      · exact gdn1_r f (x + 1)
theorem gH_w4 {n W : Int} {P : Int → Int} (h4 : W4 n P) : ∀ m : Nat, (m : Int) ≤ n → W4 n (gH n W P m).1
  | 0, _ => h4
  | m + 1, hm => by
    have ih := gH_w4 (W := W) h4 m (by omega)
    unfold gH
    dsimp only
    exact gup_w4 ih (by omega) (by rcases gup1_r (P := (gH n W P m).1) (n := n) (W := W) (own := (gH n W P m).1 m) 8 (W - 1) with x | x; exact Or.inr x.symm; exact Or.inl x)
theorem gR_w4 {n W : Int} {P : Int → Int} (h4 : W4 n P) : ∀ m : Nat, (m : Int) ≤ n → W4 n (gR n W P m).1
  | 0, _ => h4
  | m + 1, hm => by
    have ih := gR_w4 (W := W) h4 m (by omega)
    unfold gR
    dsimp only
    exact gup_w4 ih (by omega) (by rcases gdn1_r (P := (gR n W P m).1) (n := n) (W := W) (own := (gR n W P m).1 m) 8 0 with x | x; exact Or.inr x.symm; exact Or.inl x)
theorem gadd_w4 {n w : Int} {P : Int → Int} (hn : 0 ≤ n) (h4 : W4 n P) (hr : cnt P w n.toNat < 4) : W4 (n + 1) (gup P n w) := by
  intro v hv
  have h1 := h4 v hv
  have c1 : (n + 1).toNat = n.toNat + 1 := by omega
  have c2 : (n.toNat : Int) = n := by omega
  rw [c1]
  unfold cnt
  rw [c2, gup_same, cnt_up hn, if_neg (by omega)]
  by_cases e : w = v
  · subst e; rw [if_pos rfl]; omega
  · rw [if_neg e]; omega
section
variable {d : Nat} {Z : zM} {n W h : Int} {K F P T : Int → Int}
theorem RF.congr {P' : Int → Int} (A : RF Z n W h K F P T) (hp : ∀ b, 0 ≤ b → b < n → P b = P' b) : RF Z n W h K F P' T := by
  obtain ⟨e5, e6, e7, eb, ew⟩ := A
  exact ⟨e5, e6, e7, fun b h1 h2 => by rw [← hp b h1 h2]; exact eb b h1 h2, ew⟩
theorem RF.keep {Z' : zM} (A : RF Z n W h K F P T) (h1 : Z' 102 = Z 102) (h2 : Z' 103 = Z 103) (h3 : Z' 104 = Z 104) (h4 : Z' 105 = Z 105) (h5 : Z' 100 5 = Z 100 5) (h6 : Z' 100 6 = Z 100 6) (h7 : Z' 100 7 = Z 100 7) : RF Z' n W h K F P T := by
  unfold RF; rw [h1, h2, h3, h4, h5, h6, h7]; exact A
theorem R_catdn {w : Int} {Q : Int → zM → Prop} (A : RF Z n W h K F P T) (wf : WF n W h K F P T) : ∀ (f : Nat) (v : Int), v < f → -1 ≤ v → v < W → Q (if gfdn P n W f v < 0 then w else gfdn P n W f v) Z → TZ (d + 2) 190 32 [some (.inr 100), some (.inl w), some (.inl v)] [] Z (zri Q)
  | 0, v, h1, h2, h3, hQ => w190_32 ⟨by have := wf.2.1; unfold zR; omega, fun _ => by rwa [if_pos (by show (-9 : Int) < 0; decide)] at hQ, fun c => absurd (show v < 0 by omega) c⟩
  | f + 1, v, h1, h2, h3, hQ => by
    have hW := wf.2.1
    unfold gfdn at hQ
    refine w190_32 ⟨by unfold zR; omega, fun c => by rwa [if_pos c, if_pos (by decide)] at hQ, fun c => ?_⟩
    rw [if_neg c] at hQ
    refine R_room A wf.pb (by unfold zR; omega) (fun x => ?_) (fun x => ?_)
    · rw [if_pos (roomb_iff.mpr ⟨by omega, h3, x⟩), if_neg (by omega)] at hQ
      exact ⟨by decide, fun y => absurd y (by decide), fun _ => hQ⟩
    · rw [if_neg (fun y => x (roomb_iff.mp y).2.2)] at hQ
      exact ⟨by decide, fun _ => R_catdn A wf f (v + (-1)) (by omega) (by omega) (by omega) hQ, fun y => absurd rfl y⟩
theorem R_catup {w : Int} {Q : Int → zM → Prop} (A : RF Z n W h K F P T) (wf : WF n W h K F P T) (hw : 0 ≤ w ∧ w < W) : ∀ (f : Nat) (u : Int), W - u < f → 0 ≤ u → u ≤ 8 → Q (if (if gfup P n W f u < 0 then gfdn P n W 8 (w - 1) else gfup P n W f u) < 0 then w else (if gfup P n W f u < 0 then gfdn P n W 8 (w - 1) else gfup P n W f u)) Z → TZ (d + 2) 190 4 [some (.inr 100), some (.inl w), some (.inl u)] [] Z (zri Q)
  | 0, u, h1, h2, h3, hQ => by
    have e6 := A.2.1
    have hW := wf.2.1
    have e : gfup P n W 0 u < 0 := by show (-9 : Int) < 0; decide
    simp only [if_pos e] at hQ
    exact w190_4 ⟨by unfold zR; omega, by unfold zR; omega, fun _ => R_catdn A wf 8 (w - 1) (by omega) (by omega) (by omega) hQ, fun c => absurd (show Z 100 6 ≤ u by omega) c⟩
  | f + 1, u, h1, h2, h3, hQ => by
    have e6 := A.2.1
    have hW := wf.2.1
    refine w190_4 ⟨by unfold zR; omega, by unfold zR; omega, fun c => ?_, fun c => ?_⟩
    · have e : gfup P n W (f + 1) u = -9 := by unfold gfup; rw [if_pos (by omega)]
      rw [e] at hQ
      simp only [if_pos (show (-9 : Int) < 0 by decide)] at hQ
      exact R_catdn A wf 8 (w - 1) (by omega) (by omega) (by omega) hQ
    · refine R_room A wf.pb (by unfold zR; omega) (fun x => ?_) (fun x => ?_)
      · have e : gfup P n W (f + 1) u = u := by unfold gfup; rw [if_neg (by omega), if_pos (roomb_iff.mpr ⟨h2, by omega, x⟩)]
        rw [e, if_neg (show ¬ u < 0 by omega), if_neg (show ¬ u < 0 by omega)] at hQ
        exact ⟨by decide, fun y => absurd y (by decide), fun _ => hQ⟩
      · have e : gfup P n W (f + 1) u = gfup P n W f (u + 1) := by
          have : gfup P n W (f + 1) u = if W ≤ u then -9 else if roomb P n W u = true then u else gfup P n W f (u + 1) := rfl
          rw [this, if_neg (by omega), if_neg (fun y => x (roomb_iff.mp y).2.2)]
        rw [e] at hQ
        exact ⟨by decide, fun _ => R_catup A wf hw f (u + 1) (by omega) (by omega) (by omega) hQ, fun y => absurd rfl y⟩
theorem R_fromCat {w : Int} {Q : Int → zM → Prop} (A : RF Z n W h K F P T) (wf : WF n W h K F P T) (hw : 0 ≤ w ∧ w < W) (hQ : Q (if gref P n W w < 0 then w else gref P n W w) Z) : TI (d + 2) 190 [.inr 100, .inl w] Z Q := by
  have hW := wf.2.1
  exact w190_0 (R_catup A wf hw 8 (w + 1) (by omega) (by omega) (by omega) hQ)
theorem R_cats0 {w : Int} {Q : Int → zM → Prop} (A : RF Z n W h K F P T) (wf : WF n W h K F P T) (hw : 0 ≤ w ∧ w < W) (hQ : ∀ Z', RF Z' n W h K F (gC n W P w n.toNat).1 T → fR SP Z Z' → Q (gC n W P w n.toNat).2 Z') : TI (d + 3) 191 [.inr 100, .inl w] Z Q := by
  obtain ⟨hn, hW, hh0, wb, ww⟩ := id wf
  refine w191_0 ?_
  suffices H : ∀ m : Nat, m ≤ n.toNat → ∀ (Z1 : zM), RF Z1 n W h K F (gC n W P w m).1 T → fR SP Z Z1 → TZ (d + 3) 191 4 [some (.inr 100), some (.inl w), some (.inl (gC n W P w m).2), some (.inl (m : Int))] [] Z1 (zri Q) by
    exact H 0 (Nat.zero_le _) Z A (fR.refl _ _)
  intro m hm
  refine zdown (P := fun m => ∀ (Z1 : zM), RF Z1 n W h K F (gC n W P w m).1 T → fR SP Z Z1 → TZ (d + 3) 191 4 [some (.inr 100), some (.inl w), some (.inl (gC n W P w m).2), some (.inl (m : Int))] [] Z1 (zri Q)) (n := n.toNat) ?_ ?_ m hm
  · intro Z1 A1 f1
    have e5 := A1.1
    exact w191_4 ⟨by unfold zR; omega, by unfold zR; omega, fun c => hQ Z1 A1 f1, fun c => absurd (show Z1 100 5 ≤ (n.toNat : Int) by omega) c⟩
  · intro m hm ih Z1 A1 f1
    have wf1 := gC_wf wf hw.1 m (by omega)
    have A1' := A1
    obtain ⟨e5, e6, e7, eb, ew⟩ := A1
    have e3 := (eb m (by omega) (by omega)).2.2
    have b3 := (wf1.2.2.2.1 m (by omega) (by omega)).2.2
    have g := gref_b (P := (gC n W P w m).1) (n := n) (W := W) hw.1
    unfold gC at ih
    dsimp only at ih
    refine w191_4 ⟨by unfold zR; omega, by unfold zR; omega, fun c => absurd c (by omega), fun c => ?_⟩
    rw [e3]
    refine ⟨by omega, by unfold zR; omega, by unfold zR; omega, fun r => ?_, fun r => ?_⟩
    · refine R_fromCat A1' wf1 hw ⟨by omega, fun Z2 z2 => ?_⟩
      have v2 : Z2 105 m = if gref (gC n W P w m).1 n W w < 0 then w else gref (gC n W P w m).1 n W w := by subst z2; rw [zup_same]
      rw [v2]
      by_cases c0 : gref (gC n W P w m).1 n W w < 0
      · rw [if_neg (fun y => by omega)] at ih
        rw [if_pos c0] at z2 ⊢
        refine ⟨by omega, by unfold zR; omega, by unfold zR; omega, fun y => absurd rfl y, fun _ => ?_⟩
        rw [Int.add_zero]
        subst z2
        refine ih _ ((A1'.sit (x := w) (by omega)).congr fun b h1 h2 => ?_) (f1.trans (fR_up rfl))
        unfold gup
        split
        · next e => rw [e, r]
        · rfl
      · rw [if_pos ⟨r, by omega⟩] at ih
        rw [if_neg c0] at z2 ⊢
        refine ⟨by omega, by unfold zR; omega, by unfold zR; omega, fun _ => ?_, fun y => absurd y (by omega)⟩
        subst z2
        exact ih _ (A1'.sit (by omega)) (f1.trans (fR_up rfl))
    · rw [if_neg (fun x => r x.1)] at ih
      exact ih Z1 A1' f1
theorem R_outH {Q : Int → zM → Prop} {b : Int} (A : RF Z n W h K F (gup P b (-1)) T) (wf : WF n W h K F P T) (h4 : W4 n P) (hb : 0 ≤ b ∧ b < n) : ∀ (f : Nat) (x : Int), x - P b < f → P b ≤ x → x < W → Q (gup1 P n W (P b) f x) Z → TZ (d + 2) 192 15 [some (.inr 100), some (.inl 1), some (.inl x)] [] Z (zri Q) := by
  have b3 := (wf.2.2.2.1 b hb.1 hb.2).2.2
  have hW := wf.2.1
  have hP : PB n (gup P b (-1)) := ⟨wf.1, fun c h1 h2 => by
    unfold gup
    split
    · omega
    · exact wf.pb.2 c h1 h2⟩
  have own : ∀ f : Nat, Q (P b) Z → TZ (d + 2) 192 15 [some (.inr 100), some (.inl 1), some (.inl (P b))] [] Z (zri Q) := fun f hQ => by
    refine w192_15 (R_room A hP (by unfold zR; omega) (fun y => ⟨by decide, fun _ => hQ, fun z => absurd (show (1 : Int) ≠ 0 by decide) z⟩) (fun y => absurd ?_ y))
    have h5 := h4 (P b) b3.1
    rw [cnt_up hb.1, if_pos (by omega), if_neg (by omega), if_pos rfl]
    omega
  intro f
  induction f with
  | zero => intro x h1 h2 h3 hQ; omega
  | succ f ih =>
    intro x h1 h2 h3 hQ
    unfold gup1 at hQ
    by_cases c : x ≤ P b
    · rw [if_pos c] at hQ
      have : x = P b := by omega
      subst this
      exact own f hQ
    · rw [if_neg c] at hQ
      have ec : cnt (gup P b (-1)) x n.toNat = cnt P x n.toNat := by
        rw [cnt_up hb.1, if_pos (by omega), if_neg (by omega), if_neg (by omega)]; omega
      refine w192_15 (R_room A hP (by unfold zR; omega) (fun y => ?_) (fun y => ?_))
      · rw [ec] at y
        rw [if_pos (roomb_iff.mpr ⟨by omega, h3, y⟩)] at hQ
        exact ⟨by decide, fun _ => hQ, fun z => absurd (show (1 : Int) ≠ 0 by decide) z⟩
      · rw [ec] at y
        rw [if_neg (fun z => y (roomb_iff.mp z).2.2)] at hQ
        exact ⟨by decide, fun z => absurd rfl z, fun _ => ⟨by decide, fun z => absurd z (by decide), fun _ => ih (x + (-1)) (by omega) (by omega) (by omega) hQ⟩⟩
theorem R_outL {Q : Int → zM → Prop} {b : Int} (A : RF Z n W h K F (gup P b (-1)) T) (wf : WF n W h K F P T) (h4 : W4 n P) (hb : 0 ≤ b ∧ b < n) : ∀ (f : Nat) (x : Int), P b - x < f → x ≤ P b → 0 ≤ x → Q (gdn1 P n W (P b) f x) Z → TZ (d + 2) 192 15 [some (.inr 100), some (.inl 0), some (.inl x)] [] Z (zri Q) := by
  have b3 := (wf.2.2.2.1 b hb.1 hb.2).2.2
  have hW := wf.2.1
  have hP : PB n (gup P b (-1)) := ⟨wf.1, fun c h1 h2 => by
    unfold gup
    split
    · omega
    · exact wf.pb.2 c h1 h2⟩
  have own : ∀ f : Nat, Q (P b) Z → TZ (d + 2) 192 15 [some (.inr 100), some (.inl 0), some (.inl (P b))] [] Z (zri Q) := fun f hQ => by
    refine w192_15 (R_room A hP (by unfold zR; omega) (fun y => ⟨by decide, fun _ => hQ, fun z => absurd (show (1 : Int) ≠ 0 by decide) z⟩) (fun y => absurd ?_ y))
    have h5 := h4 (P b) b3.1
    rw [cnt_up hb.1, if_pos (by omega), if_neg (by omega), if_pos rfl]
    omega
  intro f
  induction f with
  | zero => intro x h1 h2 h3 hQ; omega
  | succ f ih =>
    intro x h1 h2 h3 hQ
    unfold gdn1 at hQ
    by_cases c : P b ≤ x
    · rw [if_pos c] at hQ
      have : x = P b := by omega
      subst this
      exact own f hQ
    · rw [if_neg c] at hQ
      have ec : cnt (gup P b (-1)) x n.toNat = cnt P x n.toNat := by
        rw [cnt_up hb.1, if_pos (by omega), if_neg (by omega), if_neg (by omega)]; omega
      refine w192_15 (R_room A hP (by unfold zR; omega) (fun y => ?_) (fun y => ?_))
      · rw [ec] at y
        rw [if_pos (roomb_iff.mpr ⟨by omega, by omega, y⟩)] at hQ
        exact ⟨by decide, fun _ => hQ, fun z => absurd (show (1 : Int) ≠ 0 by decide) z⟩
      · rw [ec] at y
        rw [if_neg (fun z => y (roomb_iff.mp z).2.2)] at hQ
        exact ⟨by decide, fun z => absurd rfl z, fun _ => ⟨by decide, fun _ => ih (x + 1) (by omega) (by omega) (by omega) hQ, fun z => absurd rfl z⟩⟩
theorem R_hawk0 {Q : Int → zM → Prop} (A : RF Z n W h K F P T) (wf : WF n W h K F P T) (h4 : W4 n P) (hQ : ∀ Z', RF Z' n W h K F (gH n W P n.toNat).1 T → fR SP Z Z' → Q (gH n W P n.toNat).2 Z') : TI (d + 3) 193 [.inr 100, .inl 1] Z Q := by
  obtain ⟨hn, hW, hh0, wb, ww⟩ := id wf
  refine w193_0 ?_
  suffices H : ∀ m : Nat, m ≤ n.toNat → ∀ (Z1 : zM) (o4 : Option zV), RF Z1 n W h K F (gH n W P m).1 T → fR SP Z Z1 → TZ (d + 3) 193 4 [some (.inr 100), some (.inl 1), some (.inl (gH n W P m).2), some (.inl (m : Int)), o4] [] Z1 (zri Q) by
    exact H 0 (Nat.zero_le _) Z none A (fR.refl _ _)
  intro m hm
  refine zdown (P := fun m => ∀ (Z1 : zM) (o4 : Option zV), RF Z1 n W h K F (gH n W P m).1 T → fR SP Z Z1 → TZ (d + 3) 193 4 [some (.inr 100), some (.inl 1), some (.inl (gH n W P m).2), some (.inl (m : Int)), o4] [] Z1 (zri Q)) (n := n.toNat) ?_ ?_ m hm
  · intro Z1 o4 A1 f1
    have e5 := A1.1
    exact w193_4 ⟨by unfold zR; omega, by unfold zR; omega, fun c => hQ Z1 A1 f1, fun c => absurd (show Z1 100 5 ≤ (n.toNat : Int) by omega) c⟩
  · intro m hm ih Z1 o4 A1 f1
    have wf1 := gH_wf wf m (by omega)
    have w41 := gH_w4 (W := W) h4 m (by omega)
    unfold gH at ih
    dsimp only at ih
    have A1' := A1
    obtain ⟨e5, e6, e7, eb, ew⟩ := A1
    have e3 := (eb m (by omega) (by omega)).2.2
    have b3 := (wf1.2.2.2.1 m (by omega) (by omega)).2.2
    have g := gup1_b (P := (gH n W P m).1) (n := n) (W := W) (own := (gH n W P m).1 m) 8 (W - 1) (by omega)
    refine w193_4 ⟨by unfold zR; omega, by unfold zR; omega, fun c => absurd c (by omega), fun c => ?_⟩
    rw [e3]
    refine ⟨by omega, by omega, fun Z2 z2 => ?_⟩
    have A2 : RF Z2 n W h K F (gup (gH n W P m).1 m (-1)) T := by subst z2; exact A1'.sit (by omega)
    have f2 : fR SP Z Z2 := by subst z2; exact f1.trans (fR_up rfl)
    refine w192_0 ⟨by decide, fun y => absurd y (by decide), fun _ => ?_⟩
    rw [A2.2.1]
    refine R_outH A2 wf1 w41 (by omega) 8 (W - 1) (by omega) (by omega) (by omega) ⟨by omega, fun Z3 z3 => ?_⟩
    have A3 := A2.sit (b := m) (x := gup1 (gH n W P m).1 n W ((gH n W P m).1 m) 8 (W - 1)) (by omega)
    rw [gup_gup, ← z3] at A3
    have v3 : Z3 105 m = gup1 (gH n W P m).1 n W ((gH n W P m).1 m) 8 (W - 1) := by subst z3; rw [zup_same]
    have f3 : fR SP Z Z3 := by subst z3; exact f2.trans (fR_up rfl)
    rw [v3]
    have ih := ih Z3 (some (.inl ((gH n W P m).1 m))) A3 f3
    refine ⟨by omega, by unfold zR; omega, by unfold zR; omega, fun y => ?_, fun y => ?_⟩
    · rwa [if_neg y] at ih
    · rw [if_pos (by omega)] at ih; rw [Int.add_zero]; exact ih
theorem R_rain0 {Q : Int → zM → Prop} (A : RF Z n W h K F P T) (wf : WF n W h K F P T) (h4 : W4 n P) (hQ : ∀ Z', RF Z' n W h K F (gR n W P n.toNat).1 T → fR SP Z Z' → Q (gR n W P n.toNat).2 Z') : TI (d + 3) 193 [.inr 100, .inl 0] Z Q := by
  obtain ⟨hn, hW, hh0, wb, ww⟩ := id wf
  refine w193_0 ?_
  suffices H : ∀ m : Nat, m ≤ n.toNat → ∀ (Z1 : zM) (o4 : Option zV), RF Z1 n W h K F (gR n W P m).1 T → fR SP Z Z1 → TZ (d + 3) 193 4 [some (.inr 100), some (.inl 0), some (.inl (gR n W P m).2), some (.inl (m : Int)), o4] [] Z1 (zri Q) by
    exact H 0 (Nat.zero_le _) Z none A (fR.refl _ _)
  intro m hm
  refine zdown (P := fun m => ∀ (Z1 : zM) (o4 : Option zV), RF Z1 n W h K F (gR n W P m).1 T → fR SP Z Z1 → TZ (d + 3) 193 4 [some (.inr 100), some (.inl 0), some (.inl (gR n W P m).2), some (.inl (m : Int)), o4] [] Z1 (zri Q)) (n := n.toNat) ?_ ?_ m hm
  · intro Z1 o4 A1 f1
    have e5 := A1.1
    exact w193_4 ⟨by unfold zR; omega, by unfold zR; omega, fun c => hQ Z1 A1 f1, fun c => absurd (show Z1 100 5 ≤ (n.toNat : Int) by omega) c⟩
  · intro m hm ih Z1 o4 A1 f1
    have wf1 := gR_wf wf m (by omega)
    have w41 := gR_w4 (W := W) h4 m (by omega)
    unfold gR at ih
    dsimp only at ih
    have A1' := A1
    obtain ⟨e5, e6, e7, eb, ew⟩ := A1
    have e3 := (eb m (by omega) (by omega)).2.2
    have b3 := (wf1.2.2.2.1 m (by omega) (by omega)).2.2
    have g := gdn1_b (P := (gR n W P m).1) (n := n) (W := W) (own := (gR n W P m).1 m) 8 0 (by omega)
    refine w193_4 ⟨by unfold zR; omega, by unfold zR; omega, fun c => absurd c (by omega), fun c => ?_⟩
    rw [e3]
    refine ⟨by omega, by omega, fun Z2 z2 => ?_⟩
    have A2 : RF Z2 n W h K F (gup (gR n W P m).1 m (-1)) T := by subst z2; exact A1'.sit (by omega)
    have f2 : fR SP Z Z2 := by subst z2; exact f1.trans (fR_up rfl)
    refine w192_0 ⟨by decide, fun _ => ?_, fun y => absurd rfl y⟩
    refine R_outL A2 wf1 w41 (by omega) 8 0 (by omega) (by omega) (by omega) ⟨by omega, fun Z3 z3 => ?_⟩
    have A3 := A2.sit (b := m) (x := gdn1 (gR n W P m).1 n W ((gR n W P m).1 m) 8 0) (by omega)
    rw [gup_gup, ← z3] at A3
    have v3 : Z3 105 m = gdn1 (gR n W P m).1 n W ((gR n W P m).1 m) 8 0 := by subst z3; rw [zup_same]
    have f3 : fR SP Z Z3 := by subst z3; exact f2.trans (fR_up rfl)
    rw [v3]
    have ih := ih Z3 (some (.inl ((gR n W P m).1 m))) A3 f3
    refine ⟨by omega, by unfold zR; omega, by unfold zR; omega, fun y => ?_, fun y => ?_⟩
    · rwa [if_neg y] at ih
    · rw [if_pos (by omega)] at ih; rw [Int.add_zero]; exact ih
def SW (q : Nat) (p : Int) : Prop := q = 105 ∨ (q = 100 ∧ p = 6)
theorem RF.wires {W' : Int} (A : RF Z n W h K F P T) : RF (zup Z 100 6 W') n W' h K F P T := by
  obtain ⟨e5, e6, e7, eb, ew⟩ := A
  exact ⟨by simp [zup, e5], by simp [zup], by simp [zup, e7], fun b h1 h2 => by simpa [zup] using eb b h1 h2, fun w h1 h2 => by simpa [zup] using ew w h1 h2⟩
theorem R_hangs0 {Q : zM → Prop} (A : RF Z n W h K F P T) (wf : WF n W h K F P T) (hQ : ∀ Z', RF Z' n (if W = 6 then 5 else 6) h K F (ghang n W P (if W = 6 then 0 else 1)) T → fR SW Z Z' → Q Z') : TV (d + 4) 194 [.inr 100] Z Q := by
  have e6 := A.2.1
  have hW := wf.2.1
  refine w194_0 ?_
  rw [e6]
  refine ⟨by unfold zR; omega, fun c => ⟨by unfold zR; omega, fun _ Z1 z1 => ?_, fun c2 => absurd c c2⟩, fun c => ?_⟩
  · rw [if_neg c, if_neg c] at hQ
    unfold ghang at hQ
    rw [if_neg (fun y => absurd y.1 (by decide))] at hQ
    subst z1
    exact hQ _ A.wires (fR_up (Or.inr ⟨rfl, rfl⟩))
  · have c : W = 6 := by omega
    subst c
    rw [if_pos rfl, if_pos rfl] at hQ
    unfold ghang at hQ
    rw [if_pos ⟨rfl, rfl⟩] at hQ
    refine R_cats0 A wf (by decide) fun Z1 A1 f1 => ?_
    rw [A1.2.1]
    refine ⟨by decide, fun y => absurd rfl y, fun _ Z2 z2 => ?_⟩
    subst z2
    exact hQ _ A1.wires ((f1.mono fun q p h => Or.inl h).trans (fR_up (Or.inr ⟨rfl, rfl⟩)))
theorem R_happens0 {t : Int} {Q : zM → Prop} (A : RF Z n W h K F P T) (wf : WF n W h K F P T) (h4 : W4 n P) (ht : 0 ≤ t ∧ t ≤ 7) (hQ : ∀ Z', RF Z' n W h K F (gthing n W P t) T → fR SP Z Z' → Q Z') : TV (d + 4) 195 [.inr 100, .inl t] Z Q := by
  have hW := wf.2.1
  unfold gthing at hQ
  refine w195_0 ⟨by unfold zR; omega, fun c => ⟨by unfold zR; omega, fun c2 => ⟨by unfold zR; omega, fun c3 => ?_, fun c3 => ?_⟩, fun c2 => ?_⟩, fun c => ?_⟩
  · rw [if_neg c, if_neg c2, if_neg (by omega)] at hQ
    exact hQ Z A (fR.refl _ _)
  · rw [if_neg c, if_neg c2, if_pos (by omega)] at hQ
    exact R_cats0 A wf (by omega) hQ
  · rw [if_neg c, if_pos (by omega)] at hQ
    exact R_rain0 A wf h4 fun Z1 A1 f1 => ⟨by unfold zR; omega, fun _ => hQ Z1 A1 f1, fun y => absurd (show t ≤ 2 by omega) y⟩
  · rw [if_pos (by omega)] at hQ
    exact R_hawk0 A wf h4 fun Z1 A1 f1 => ⟨by unfold zR; omega, fun _ => ⟨by unfold zR; omega, fun _ => hQ Z1 A1 f1, fun y => absurd (show t ≤ 2 by omega) y⟩, fun y => absurd (show t ≠ 2 by omega) y⟩
end
