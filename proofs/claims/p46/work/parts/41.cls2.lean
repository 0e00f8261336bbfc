/-! THE CLASS: CATS, HAWKS, RAIN, the sixth wire, what is SHOWN -/
section
variable {d k : Nat} {Z : zM} {n W h : Int} {K F P T : Int → Int}
theorem gfup_b : ∀ (f : Nat) (u : Int), gfup P n W f u = -9 ∨ (u ≤ gfup P n W f u ∧ gfup P n W f u < W ∧ cnt P (gfup P n W f u) n.toNat < 4)
  | 0, u => Or.inl rfl
  | f + 1, u => by
    unfold gfup
    split
    · exact Or.inl rfl
    · split
      · next h1 h2 => rw [roomb_iff] at h2; exact Or.inr ⟨Int.le_refl _, h2.2.1, h2.2.2⟩
      · rcases gfup_b f (u + 1) with h | ⟨h3, h4, h5⟩
        · exact Or.inl h
        · exact Or.inr ⟨by omega, h4, h5⟩
theorem gfdn_b : ∀ (f : Nat) (v : Int), gfdn P n W f v = -9 ∨ (0 ≤ gfdn P n W f v ∧ gfdn P n W f v ≤ v ∧ gfdn P n W f v < W ∧ cnt P (gfdn P n W f v) n.toNat < 4)
  | 0, v => Or.inl rfl
  | f + 1, v => by
    unfold gfdn
    split
    · exact Or.inl rfl
    · split
      · next h1 h2 => rw [roomb_iff] at h2; exact Or.inr ⟨by omega, Int.le_refl _, h2.2.1, h2.2.2⟩
      · rcases gfdn_b f (v - 1) with h | ⟨h3, h4, h5⟩
        · exact Or.inl h
        · exact Or.inr ⟨by omega, by omega, h5⟩
theorem gref_b {w : Int} (hw : 0 ≤ w) : gref P n W w = -9 ∨ (0 ≤ gref P n W w ∧ gref P n W w < W ∧ gref P n W w ≠ w) := by
  unfold gref
  rcases gfup_b (P := P) (n := n) (W := W) 8 (w + 1) with h | ⟨h3, h4, h5⟩
  · rw [if_pos (by omega)]
    rcases gfdn_b (P := P) (n := n) (W := W) 8 (w - 1) with h | ⟨h3, h4, h5, _⟩
    · exact Or.inl h
    · exact Or.inr ⟨by omega, h5, by omega⟩
  · rw [if_neg (by omega)]; exact Or.inr ⟨by omega, h4, by omega⟩
theorem C_refdn {w : Int} {Q : Int → zM → Prop} (hk : k ∈ zFl) (A : CF k Z n W h K F P T) (wf : WF n W h K F P T) : ∀ (f : Nat) (v : Int), v < f → -1 ≤ v → v ≤ 6 → Q (gfdn P n W f v) Z → TZ (d + 1) 33 32 [some (.inr k), some (.inl w), some (.inl v)] [] Z (zri Q)
  | 0, v, h1, h2, h3, hQ => w33_32 hk ⟨by unfold zR; omega, fun _ => hQ, fun c => absurd (show v < 0 by omega) c⟩
  | f + 1, v, h1, h2, h3, hQ => by
    unfold gfdn at hQ
    refine w33_32 hk ⟨by unfold zR; omega, fun c => by rwa [if_pos c] at hQ, fun c => ?_⟩
    rw [if_neg c] at hQ
    refine C_room hk A wf (by unfold zR; omega) (fun x => ?_) (fun x => ?_)
    · rw [if_pos (roomb_iff.mpr x)] at hQ
      exact ⟨by decide, fun y => absurd y (by decide), fun _ => hQ⟩
    · rw [if_neg (fun y => x (roomb_iff.mp y))] at hQ
      exact ⟨by decide, fun _ => C_refdn hk A wf f (v + (-1)) (by omega) (by omega) (by omega) hQ, fun y => absurd rfl y⟩
theorem C_refup {w : Int} {Q : Int → zM → Prop} (hk : k ∈ zFl) (A : CF k Z n W h K F P T) (wf : WF n W h K F P T) (hw : 0 ≤ w ∧ w ≤ 6) : ∀ (f : Nat) (u : Int), W - u < f → 0 ≤ u → u ≤ 8 → Q (if gfup P n W f u < 0 then gfdn P n W 8 (w - 1) else gfup P n W f u) Z → TZ (d + 1) 33 4 [some (.inr k), some (.inl w), some (.inl u)] [] Z (zri Q)
  | 0, u, h1, h2, h3, hQ => by
    have e6 := A.2.1
    have hW := wf.2.1
    rw [if_pos (by unfold gfup; omega)] at hQ
    exact w33_4 hk ⟨by unfold zR; omega, by unfold zR; omega, fun _ => C_refdn hk A wf 8 (w - 1) (by omega) (by omega) (by omega) hQ, fun c => absurd (show Z k 6 ≤ u by omega) c⟩
  | f + 1, u, h1, h2, h3, hQ => by
    have e6 := A.2.1
    have hW := wf.2.1
    unfold gfup at hQ
    refine w33_4 hk ⟨by unfold zR; omega, by unfold zR; omega, fun c => ?_, fun c => ?_⟩
    · rw [if_pos (show W ≤ u by omega), if_pos (by omega)] at hQ
      exact C_refdn hk A wf 8 (w - 1) (by omega) (by omega) (by omega) hQ
    · rw [if_neg (show ¬ W ≤ u by omega)] at hQ
      refine C_room hk A wf (by unfold zR; omega) (fun x => ?_) (fun x => ?_)
      · rw [if_pos (roomb_iff.mpr x), if_neg (by omega)] at hQ
        exact ⟨by decide, fun y => absurd y (by decide), fun _ => hQ⟩
      · rw [if_neg (fun y => x (roomb_iff.mp y))] at hQ
        exact ⟨by decide, fun _ => C_refup hk A wf hw f (u + 1) (by omega) (by omega) (by omega) hQ, fun y => absurd rfl y⟩
theorem C_refuge {w : Int} {Q : Int → zM → Prop} (hk : k ∈ zFl) (A : CF k Z n W h K F P T) (wf : WF n W h K F P T) (hw : 0 ≤ w ∧ w ≤ 6) (hQ : Q (gref P n W w) Z) : TI (d + 1) 33 [.inr k, .inl w] Z Q := by
  have hW := wf.2.1
  exact w33_0 hk (C_refup hk A wf hw 8 (w + 1) (by omega) (by omega) (by omega) hQ)
theorem gC_wf {w : Int} (wf : WF n W h K F P T) (hw : 0 ≤ w) : ∀ m : Nat, (m : Int) ≤ n → WF n W h K F (gC n W P w m).1 T
  | 0, _ => wf
  | m + 1, hm => by
    have ih := gC_wf wf hw m (by omega)
    unfold gC
    dsimp only
    split
    · next hc => exact gup_wf ih (by rcases gref_b (P := (gC n W P w m).1) (n := n) (W := W) hw with x | x <;> omega)
    · exact ih
theorem gC_b {w : Int} : ∀ m : Nat, 0 ≤ (gC n W P w m).2 ∧ (gC n W P w m).2 ≤ m
  | 0 => ⟨Int.le_refl _, Int.le_refl _⟩
  | m + 1 => by
    have ih := gC_b (w := w) m
    unfold gC
    dsimp only
    split <;> (try dsimp only) <;> omega
theorem C_scare {w : Int} {Q : Int → zM → Prop} (hk : k ∈ zFl) (A : CF k Z n W h K F P T) (wf : WF n W h K F P T) (hw : 0 ≤ w ∧ w ≤ 6) (hQ : ∀ Z', CF k Z' n W h K F (gC n W P w n.toNat).1 T → fr k Z Z' → Q (gC n W P w n.toNat).2 Z') : TI (d + 2) 32 [.inr k, .inl w] Z Q := by
  obtain ⟨hn, hW, hh0, wb, ww⟩ := id wf
  refine w32_0 hk ?_
  suffices H : ∀ m : Nat, m ≤ n.toNat → ∀ (Z1 : zM) (o4 : Option zV), CF k Z1 n W h K F (gC n W P w m).1 T → fr k Z Z1 → TZ (d + 2) 32 4 [some (.inr k), some (.inl w), some (.inl (gC n W P w m).2), some (.inl (m : Int)), o4] [] Z1 (zri Q) by
    exact H 0 (Nat.zero_le _) Z none A (fr.refl _ _)
  intro m hm
  refine zdown (P := fun m => ∀ (Z1 : zM) (o4 : Option zV), CF k Z1 n W h K F (gC n W P w m).1 T → fr k Z Z1 → TZ (d + 2) 32 4 [some (.inr k), some (.inl w), some (.inl (gC n W P w m).2), some (.inl (m : Int)), o4] [] Z1 (zri Q)) (n := n.toNat) ?_ ?_ m hm
  · intro Z1 o4 A1 f1
    have e5 := A1.1
    exact w32_4 hk ⟨by unfold zR; omega, by unfold zR; omega, fun c => hQ Z1 A1 f1, fun c => absurd (show Z1 k 5 ≤ (n.toNat : Int) by omega) c⟩
  · intro m hm ih Z1 o4 A1 f1
    have wf1 := gC_wf wf hw.1 m (by omega)
    have A1' := A1
    obtain ⟨e5, e6, e7, eb, ew⟩ := A1
    have e3 := (eb m (by omega) (by omega)).2.2
    have b3 := (wf1.2.2.2.1 m (by omega) (by omega)).2.2
    have g := gref_b (P := (gC n W P w m).1) (n := n) (W := W) hw.1
    unfold gC at ih
    dsimp only at ih
    refine w32_4 hk ⟨by unfold zR; omega, by unfold zR; omega, fun c => absurd c (by omega), fun c => ?_⟩
    rw [e3]
    refine ⟨by omega, by unfold zR; omega, by unfold zR; omega, fun r => ?_, fun r => ?_⟩
    · rw [if_neg (fun x => r x.1)] at ih
      exact ih Z1 _ A1' f1
    · refine C_refuge hk A1' wf1 hw ?_
      refine ⟨by unfold zR; omega, fun x => ?_, fun x => ?_⟩
      · rw [if_neg (fun y => by omega)] at ih
        exact ih Z1 _ A1' f1
      · rw [if_pos ⟨by omega, by omega⟩] at ih
        exact C_go hk A1' wf1 (by omega) (by omega) fun Z' A2 f2 => ih Z' _ A2 (fr.trans f1 f2)
theorem gup1_b {own : Int} : ∀ (f : Nat) (x : Int), x < W → gup1 P n W own f x = own ∨ (own < gup1 P n W own f x ∧ gup1 P n W own f x < W)
  | 0, x, _ => Or.inl rfl
  | f + 1, x, hx => by
    unfold gup1
    split
    · exact Or.inl rfl
    · split
      · exact Or.inr ⟨by omega, hx⟩
      · exact gup1_b f (x - 1) (by omega)
theorem gdn1_b {own : Int} : ∀ (f : Nat) (x : Int), 0 ≤ x → gdn1 P n W own f x = own ∨ (0 ≤ gdn1 P n W own f x ∧ gdn1 P n W own f x < own)
  | 0, x, _ => Or.inl rfl
  | f + 1, x, hx => by
    unfold gdn1
    split
    · exact Or.inl rfl
    · split
      · exact Or.inr ⟨hx, by omega⟩
      · exact gdn1_b f (x + 1) (by omega)
theorem gH_wf (wf : WF n W h K F P T) : ∀ m : Nat, (m : Int) ≤ n → WF n W h K F (gH n W P m).1 T
  | 0, _ => wf
  | m + 1, hm => by
    have ih := gH_wf wf m (by omega)
    have b3 := (ih.2.2.2.1 m (by omega) (by omega)).2.2
    unfold gH
    dsimp only
    exact gup_wf ih (by rcases gup1_b (P := (gH n W P m).1) (n := n) (W := W) (own := (gH n W P m).1 m) 8 (W - 1) (by omega) with x | x <;> omega)
theorem gR_wf (wf : WF n W h K F P T) : ∀ m : Nat, (m : Int) ≤ n → WF n W h K F (gR n W P m).1 T
  | 0, _ => wf
  | m + 1, hm => by
    have ih := gR_wf wf m (by omega)
    have b3 := (ih.2.2.2.1 m (by omega) (by omega)).2.2
    unfold gR
    dsimp only
    exact gup_wf ih (by rcases gdn1_b (P := (gR n W P m).1) (n := n) (W := W) (own := (gR n W P m).1 m) 8 0 (by omega) with x | x <;> omega)
theorem C_upin {b own went : Int} {Q : Int → zM → Prop} (hk : k ∈ zFl) (A : CF k Z n W h K F P T) (wf : WF n W h K F P T) (hb : 0 ≤ b ∧ b < n) (ho : own = P b) : ∀ (f : Nat) (x : Int), x < f → x < W → -1 ≤ x → (∀ (Z' : zM) (o3 o4 o5 : Option zV), CF k Z' n W h K F (gup P b (gup1 P n W own f x)) T → fr k Z Z' → TZ (d + 2) 34 4 [some (.inr k), some (.inl (went + (if gup1 P n W own f x = own then 0 else 1))), some (.inl (b + 1)), o3, o4, o5] [] Z' (zri Q)) → TZ (d + 2) 34 30 [some (.inr k), some (.inl went), some (.inl b), some (.inl own), some (.inl own), some (.inl x)] [] Z (zri Q) := by
  have b3 := (wf.2.2.2.1 b hb.1 hb.2).2.2
  have hW := wf.2.1
  have ex : ∀ (to x : Int), 0 ≤ to → to < W → (to ≠ own ∨ x ≤ own) → -2 ≤ x → x < W → (∀ (Z' : zM) (o3 o4 o5 : Option zV), CF k Z' n W h K F (gup P b to) T → fr k Z Z' → TZ (d + 2) 34 4 [some (.inr k), some (.inl (went + (if to = own then 0 else 1))), some (.inl (b + 1)), o3, o4, o5] [] Z' (zri Q)) → TZ (d + 2) 34 30 [some (.inr k), some (.inl went), some (.inl b), some (.inl own), some (.inl to), some (.inl x)] [] Z (zri Q) := by
    intro to x t1 t2 hx x1 x2 hK
    refine w34_30 hk ⟨by unfold zR; omega, by unfold zR; omega, fun c => ?_, fun c => ⟨by unfold zR; omega, by unfold zR; omega, fun c2 => ?_, fun c2 => absurd hx (by omega)⟩⟩
    · refine C_go hk A wf hb ⟨t1, t2⟩ fun Z' A2 f2 => ⟨by unfold zR; omega, by unfold zR; omega, fun r => ?_, fun r => ?_⟩
      · have := hK Z' (some (.inl own)) (some (.inl to)) (some (.inl x)) A2 f2
        rwa [if_neg r] at this
      · have := hK Z' (some (.inl own)) (some (.inl to)) (some (.inl x)) A2 f2
        rwa [if_pos (by omega)] at this
    · refine C_go hk A wf hb ⟨t1, t2⟩ fun Z' A2 f2 => ⟨by unfold zR; omega, by unfold zR; omega, fun r => ?_, fun r => absurd c2 r⟩
      have := hK Z' (some (.inl own)) (some (.inl to)) (some (.inl x)) A2 f2
      rwa [if_neg r] at this
  intro f
  induction f with
  | zero =>
    intro x h1 h2 h3 hK
    exact ex own x (by omega) (by omega) (Or.inr (by omega)) (by omega) h2 hK
  | succ f ih =>
    intro x h1 h2 h3 hK
    unfold gup1 at hK
    by_cases c : x ≤ own
    · simp only [if_pos c] at hK
      exact ex own x (by omega) (by omega) (Or.inr c) (by omega) h2 (fun Z' o3 o4 o5 A2 f2 => by have := hK Z' o3 o4 o5 A2 f2; simpa using this)
    · simp only [if_neg c] at hK
      refine w34_30 hk ⟨by unfold zR; omega, by unfold zR; omega, fun c2 => absurd c2 c, fun _ => ⟨by unfold zR; omega, by unfold zR; omega, fun c2 => absurd rfl c2, fun _ => ?_⟩⟩
      refine C_room hk A wf (by unfold zR; omega) (fun y => ?_) (fun y => ?_)
      · simp only [if_pos (roomb_iff.mpr y)] at hK
        exact ⟨by decide, fun z => absurd z (by decide), fun _ => ex x (x + (-1)) (by omega) h2 (Or.inl (by omega)) (by omega) (by omega) hK⟩
      · simp only [if_neg (fun z => y (roomb_iff.mp z))] at hK
        exact ⟨by decide, fun _ => ih (x + (-1)) (by omega) (by omega) (by omega) hK, fun z => absurd rfl z⟩
theorem C_dnin {b own went : Int} {Q : Int → zM → Prop} (hk : k ∈ zFl) (A : CF k Z n W h K F P T) (wf : WF n W h K F P T) (hb : 0 ≤ b ∧ b < n) (ho : own = P b) : ∀ (f : Nat) (x : Int), W - x < f → 0 ≤ x → x ≤ 7 → (∀ (Z' : zM) (o3 o4 o5 : Option zV), CF k Z' n W h K F (gup P b (gdn1 P n W own f x)) T → fr k Z Z' → TZ (d + 2) 35 4 [some (.inr k), some (.inl (went + (if gdn1 P n W own f x = own then 0 else 1))), some (.inl (b + 1)), o3, o4, o5] [] Z' (zri Q)) → TZ (d + 2) 35 25 [some (.inr k), some (.inl went), some (.inl b), some (.inl own), some (.inl own), some (.inl x)] [] Z (zri Q) := by
  have b3 := (wf.2.2.2.1 b hb.1 hb.2).2.2
  have hW := wf.2.1
  have ex : ∀ (to x : Int), 0 ≤ to → to < W → (to ≠ own ∨ own ≤ x) → 0 ≤ x → x ≤ 8 → (∀ (Z' : zM) (o3 o4 o5 : Option zV), CF k Z' n W h K F (gup P b to) T → fr k Z Z' → TZ (d + 2) 35 4 [some (.inr k), some (.inl (went + (if to = own then 0 else 1))), some (.inl (b + 1)), o3, o4, o5] [] Z' (zri Q)) → TZ (d + 2) 35 25 [some (.inr k), some (.inl went), some (.inl b), some (.inl own), some (.inl to), some (.inl x)] [] Z (zri Q) := by
    intro to x t1 t2 hx x1 x2 hK
    refine w35_25 hk ⟨by unfold zR; omega, by unfold zR; omega, fun c => ?_, fun c => ⟨by unfold zR; omega, by unfold zR; omega, fun c2 => ?_, fun c2 => absurd hx (by omega)⟩⟩
    · refine C_go hk A wf hb ⟨t1, t2⟩ fun Z' A2 f2 => ⟨by unfold zR; omega, by unfold zR; omega, fun r => ?_, fun r => ?_⟩
      · have := hK Z' (some (.inl own)) (some (.inl to)) (some (.inl x)) A2 f2
        rwa [if_neg r] at this
      · have := hK Z' (some (.inl own)) (some (.inl to)) (some (.inl x)) A2 f2
        rwa [if_pos (by omega)] at this
    · refine C_go hk A wf hb ⟨t1, t2⟩ fun Z' A2 f2 => ⟨by unfold zR; omega, by unfold zR; omega, fun r => ?_, fun r => absurd c2 r⟩
      have := hK Z' (some (.inl own)) (some (.inl to)) (some (.inl x)) A2 f2
      rwa [if_neg r] at this
  intro f
  induction f with
  | zero =>
    intro x h1 h2 h3 hK
    exact ex own x (by omega) (by omega) (Or.inr (by omega)) (by omega) (by omega) hK
  | succ f ih =>
    intro x h1 h2 h3 hK
    unfold gdn1 at hK
    by_cases c : own ≤ x
    · simp only [if_pos c] at hK
      exact ex own x (by omega) (by omega) (Or.inr c) (by omega) (by omega) (fun Z' o3 o4 o5 A2 f2 => by have := hK Z' o3 o4 o5 A2 f2; simpa using this)
    · simp only [if_neg c] at hK
      refine w35_25 hk ⟨by unfold zR; omega, by unfold zR; omega, fun c2 => absurd c2 c, fun _ => ⟨by unfold zR; omega, by unfold zR; omega, fun c2 => absurd rfl c2, fun _ => ?_⟩⟩
      refine C_room hk A wf (by unfold zR; omega) (fun y => ?_) (fun y => ?_)
      · simp only [if_pos (roomb_iff.mpr y)] at hK
        exact ⟨by decide, fun z => absurd z (by decide), fun _ => ex x (x + 1) (by omega) (by omega) (Or.inl (by omega)) (by omega) (by omega) hK⟩
      · simp only [if_neg (fun z => y (roomb_iff.mp z))] at hK
        exact ⟨by decide, fun _ => ih (x + 1) (by omega) (by omega) (by omega) hK, fun z => absurd rfl z⟩
theorem C_up {Q : Int → zM → Prop} (hk : k ∈ zFl) (A : CF k Z n W h K F P T) (wf : WF n W h K F P T) (hQ : ∀ Z', CF k Z' n W h K F (gH n W P n.toNat).1 T → fr k Z Z' → Q (gH n W P n.toNat).2 Z') : TI (d + 2) 34 [.inr k] Z Q := by
  obtain ⟨hn, hW, hh0, wb, ww⟩ := id wf
  refine w34_0 hk ?_
  suffices H : ∀ m : Nat, m ≤ n.toNat → ∀ (Z1 : zM) (o3 o4 o5 : Option zV), CF k Z1 n W h K F (gH n W P m).1 T → fr k Z Z1 → TZ (d + 2) 34 4 [some (.inr k), some (.inl (gH n W P m).2), some (.inl (m : Int)), o3, o4, o5] [] Z1 (zri Q) by
    exact H 0 (Nat.zero_le _) Z none none none A (fr.refl _ _)
  intro m hm
  refine zdown (P := fun m => ∀ (Z1 : zM) (o3 o4 o5 : Option zV), CF k Z1 n W h K F (gH n W P m).1 T → fr k Z Z1 → TZ (d + 2) 34 4 [some (.inr k), some (.inl (gH n W P m).2), some (.inl (m : Int)), o3, o4, o5] [] Z1 (zri Q)) (n := n.toNat) ?_ ?_ m hm
  · intro Z1 o3 o4 o5 A1 f1
    have e5 := A1.1
    exact w34_4 hk ⟨by unfold zR; omega, by unfold zR; omega, fun c => hQ Z1 A1 f1, fun c => absurd (show Z1 k 5 ≤ (n.toNat : Int) by omega) c⟩
  · intro m hm ih Z1 o3 o4 o5 A1 f1
    have wf1 := gH_wf wf m (by omega)
    have A1' := A1
    obtain ⟨e5, e6, e7, eb, ew⟩ := A1
    have e3 := (eb m (by omega) (by omega)).2.2
    have b3 := (wf1.2.2.2.1 m (by omega) (by omega)).2.2
    refine w34_4 hk ⟨by unfold zR; omega, by unfold zR; omega, fun c => absurd c (by omega), fun c => ⟨by omega, ?_⟩⟩
    rw [e3, e6]
    refine C_upin hk A1' wf1 (by omega) rfl 8 (W - 1) (by omega) (by omega) (by omega) fun Z' o3 o4 o5 A2 f2 => ?_
    have := ih Z' o3 o4 o5 A2 (fr.trans f1 f2)
    unfold gH at this
    dsimp only at this
    split at this
    · next hc => rw [if_pos hc, Int.add_zero]; exact this
    · next hc => rw [if_neg hc]; exact this
theorem C_down {Q : Int → zM → Prop} (hk : k ∈ zFl) (A : CF k Z n W h K F P T) (wf : WF n W h K F P T) (hQ : ∀ Z', CF k Z' n W h K F (gR n W P n.toNat).1 T → fr k Z Z' → Q (gR n W P n.toNat).2 Z') : TI (d + 2) 35 [.inr k] Z Q := by
  obtain ⟨hn, hW, hh0, wb, ww⟩ := id wf
  refine w35_0 hk ?_
  suffices H : ∀ m : Nat, m ≤ n.toNat → ∀ (Z1 : zM) (o3 o4 o5 : Option zV), CF k Z1 n W h K F (gR n W P m).1 T → fr k Z Z1 → TZ (d + 2) 35 4 [some (.inr k), some (.inl (gR n W P m).2), some (.inl (m : Int)), o3, o4, o5] [] Z1 (zri Q) by
    exact H 0 (Nat.zero_le _) Z none none none A (fr.refl _ _)
  intro m hm
  refine zdown (P := fun m => ∀ (Z1 : zM) (o3 o4 o5 : Option zV), CF k Z1 n W h K F (gR n W P m).1 T → fr k Z Z1 → TZ (d + 2) 35 4 [some (.inr k), some (.inl (gR n W P m).2), some (.inl (m : Int)), o3, o4, o5] [] Z1 (zri Q)) (n := n.toNat) ?_ ?_ m hm
  · intro Z1 o3 o4 o5 A1 f1
    have e5 := A1.1
    exact w35_4 hk ⟨by unfold zR; omega, by unfold zR; omega, fun c => hQ Z1 A1 f1, fun c => absurd (show Z1 k 5 ≤ (n.toNat : Int) by omega) c⟩
  · intro m hm ih Z1 o3 o4 o5 A1 f1
    have wf1 := gR_wf wf m (by omega)
    have A1' := A1
    obtain ⟨e5, e6, e7, eb, ew⟩ := A1
    have e3 := (eb m (by omega) (by omega)).2.2
    have b3 := (wf1.2.2.2.1 m (by omega) (by omega)).2.2
    refine w35_4 hk ⟨by unfold zR; omega, by unfold zR; omega, fun c => absurd c (by omega), fun c => ⟨by omega, ?_⟩⟩
    rw [e3]
    refine C_dnin hk A1' wf1 (by omega) rfl 8 0 (by omega) (by omega) (by omega) fun Z' o3 o4 o5 A2 f2 => ?_
    have := ih Z' o3 o4 o5 A2 (fr.trans f1 f2)
    unfold gR at this
    dsimp only at this
    split at this
    · next hc => rw [if_pos hc, Int.add_zero]; exact this
    · next hc => rw [if_neg hc]; exact this
end
