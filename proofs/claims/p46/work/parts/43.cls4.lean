/-! refusals; what can be TAKEN BACK -/
def gout (x lo hi : Int) : Int := if x < lo then -4 else if hi < x then -6 else 0
def gund (x lo : Int) : Int := if x < lo then -4 else 0
def gunk (x m : Int) : Int := if x < 0 then -2 else if m < x then -2 else 0
def gin (W w : Int) : Int := if 0 ≤ w ∧ w < W then 0 else -1
def geith (a b : Int) : Int := if a = 0 then b else a
theorem gout_b {x lo hi : Int} : gout x lo hi = 0 ∨ gout x lo hi = -4 ∨ gout x lo hi = -6 := by
  unfold gout
  repeat' split
  all_goals omega
theorem gund_b {x lo : Int} : gund x lo = 0 ∨ gund x lo = -4 := by unfold gund; split <;> omega
theorem gunk_b {x m : Int} : gunk x m = 0 ∨ gunk x m = -2 := by
  unfold gunk
  repeat' split
  all_goals omega
theorem gin_b {W w : Int} : gin W w = 0 ∨ gin W w = -1 := by unfold gin; split <;> omega
theorem geith_0 {a b : Int} : geith a b = 0 ↔ a = 0 ∧ b = 0 := by unfold geith; split <;> omega
theorem geith_b {a b : Int} (ha : -6 ≤ a ∧ a ≤ 0) (hb : -6 ≤ b ∧ b ≤ 0) : -6 ≤ geith a b ∧ geith a b ≤ 0 := by unfold geith; split <;> assumption
theorem gout_0 {x lo hi : Int} : gout x lo hi = 0 ↔ lo ≤ x ∧ x ≤ hi := by
  unfold gout
  repeat' split
  all_goals omega
theorem gunk_0 {x m : Int} : gunk x m = 0 ↔ 0 ≤ x ∧ x ≤ m := by
  unfold gunk
  repeat' split
  all_goals omega
theorem gin_0 {W w : Int} : gin W w = 0 ↔ 0 ≤ w ∧ w < W := by unfold gin; split <;> omega
def zbp (Z : zM) (c : Int) : zM := zup Z 43 (-c) (Z 43 (-c) + 1)
section
variable {d : Nat} {Z : zM} {n W h : Int} {K F P T : Int → Int} {Q : Int → zM → Prop}
theorem C_refuse {c : Int} (hc : -6 ≤ c ∧ c ≤ -1) (hQ : Q c (zbp Z c)) : TI d 71 [.inr 0, .inl c] Z Q :=
  w71_0 ⟨by unfold zR; omega, fun x => absurd x (by omega), fun _ => ⟨by unfold zR; omega, fun x => absurd x (by omega), fun _ => ⟨by omega, by omega, fun Z1 z1 => by subst z1; exact hQ⟩⟩⟩
theorem C_either {a b : Int} (ha : zR a) (hQ : Q (geith a b) Z) : TI d 72 [.inl a, .inl b] Z Q := by
  unfold geith at hQ
  exact w72_0 ⟨ha, fun c => by rwa [if_pos c] at hQ, fun c => by rwa [if_neg c] at hQ⟩
theorem C_outside {x lo hi : Int} (hx : zR x) (h1 : zR lo) (h2 : zR hi) (hQ : Q (gout x lo hi) Z) : TI d 73 [.inl x, .inl lo, .inl hi] Z Q := by
  unfold gout at hQ
  refine w73_0 ⟨hx, h1, fun c => ⟨hx, h2, fun c2 => ?_, fun c2 => ?_⟩, fun c => ?_⟩
  · rwa [if_neg (by omega), if_neg (by omega)] at hQ
  · rwa [if_neg (by omega), if_pos (by omega)] at hQ
  · rwa [if_pos (by omega)] at hQ
theorem C_under {x lo : Int} (hx : zR x) (h1 : zR lo) (hQ : Q (gund x lo) Z) : TI d 74 [.inl x, .inl lo] Z Q := by
  unfold gund at hQ
  refine w74_0 ⟨hx, h1, fun c => ?_, fun c => ?_⟩
  · rwa [if_neg (by omega)] at hQ
  · rwa [if_pos (by omega)] at hQ
theorem C_unknown {x m : Int} (hx : zR x) (h1 : zR m) (hQ : Q (gunk x m) Z) : TI d 75 [.inl x, .inl m] Z Q := by
  unfold gunk at hQ
  refine w75_0 ⟨hx, fun c => ?_, fun c => ⟨hx, h1, fun c2 => ?_, fun c2 => ?_⟩⟩
  · rwa [if_pos (by omega)] at hQ
  · rwa [if_neg (by omega), if_neg (by omega)] at hQ
  · rwa [if_neg (by omega), if_pos (by omega)] at hQ
theorem zF1 : 1 ∈ zFl := by decide
theorem zF7 : 7 ∈ zFl := by decide
theorem zF13 : 13 ∈ zFl := by decide
theorem zF19 : 19 ∈ zFl := by decide
theorem C_noWire {w : Int} (hw : zR w) (e : Z 1 6 = W) (hW : zR W) (hQ : Q (gin W w) Z) : TI (d + 1) 76 [.inr 0, .inl w] Z Q := by
  unfold gin at hQ
  refine w76_0 (C_isWire zF1 hw (by rw [e]; exact hW) (fun c => ?_) (fun c => ?_))
  · rw [e] at c; rw [if_pos c] at hQ
    exact ⟨by decide, fun x => absurd x (by decide), fun _ => hQ⟩
  · rw [e] at c; rw [if_neg c] at hQ
    exact ⟨by decide, fun _ => hQ, fun x => absurd rfl x⟩
theorem C_noBird {w : Int} (hw : zR w) (e : Z 1 5 = n) (hW : zR n) (hQ : Q (gin n w) Z) : TI (d + 1) 77 [.inr 0, .inl w] Z Q := by
  unfold gin at hQ
  refine w77_0 (C_isBird zF1 hw (by rw [e]; exact hW) (fun c => ?_) (fun c => ?_))
  · rw [e] at c; rw [if_pos c] at hQ
    exact ⟨by decide, fun x => absurd x (by decide), fun _ => hQ⟩
  · rw [e] at c; rw [if_neg c] at hQ
    exact ⟨by decide, fun _ => hQ, fun x => absurd rfl x⟩
end
/-- the past: kept, and for each place in it (0 the oldest) where all sat and what HOUR it was -/
def pslot (next kept j : Int) : Int := (next - kept + j) % 8
def CP (Z : zM) (n kept : Int) (PA : Int → Int → Int) (HA : Int → Int) : Prop := Z 26 3 = kept ∧ (0 ≤ kept ∧ kept ≤ 8) ∧ (0 ≤ Z 26 2 ∧ Z 26 2 < 8) ∧ ∀ j, 0 ≤ j → j < kept → (∀ b, 0 ≤ b → b < n → Z (28 + (pslot (Z 26 2) kept j).toNat) b = PA j b) ∧ Z 36 (pslot (Z 26 2) kept j) = HA j
def gkP (kept : Int) (PA : Int → Int → Int) (P : Int → Int) : Int → Int → Int := fun j => if kept < 8 then (if j = kept then P else PA j) else (if j = 7 then P else PA (j + 1))
def gkH (kept : Int) (HA : Int → Int) (h : Int) : Int → Int := fun j => if kept < 8 then (if j = kept then h else HA j) else (if j = 7 then h else HA (j + 1))
def gkn (kept : Int) : Int := min (kept + 1) 8
/-- nothing but cells of this kind has changed -/
def frs (S : Nat → Prop) (Z Z' : zM) : Prop := ∀ q, ¬ S q → Z' q = Z q
theorem frs.refl (S : Nat → Prop) (Z : zM) : frs S Z Z := fun _ _ => rfl
theorem frs.trans {S : Nat → Prop} {Z Z1 Z2 : zM} (h1 : frs S Z Z1) (h2 : frs S Z1 Z2) : frs S Z Z2 := fun q hq => (h2 q hq).trans (h1 q hq)
theorem frs.mono {S S' : Nat → Prop} {Z Z' : zM} (h : frs S Z Z') (hs : ∀ q, S q → S' q) : frs S' Z Z' := fun q hq => h q fun x => hq (hs q x)
theorem frs_up {S : Nat → Prop} {q : Nat} {Z : zM} {j x : Int} (h : S q) : frs S Z (zup Z q j x) := fun p hp => funext fun i => zup_cell _ _ _ _ (fun e => hp (e ▸ h))
theorem frs_cpy {S : Nat → Prop} {q q0 : Nat} {Z : zM} {m : Int} (h : S q) : frs S Z (zcpy Z q0 q m) := fun p hp => funext fun i => by unfold zcpy; rw [if_neg (fun e => hp (by rw [e]; exact h))]
theorem fr.frs {S : Nat → Prop} {k : Nat} {Z Z' : zM} (h : fr k Z Z') (hs : ∀ q, k ≤ q → q ≤ k + 5 → S q) : frs S Z Z' := by
  intro q hq
  refine h q ?_
  by_cases h1 : k ≤ q
  · by_cases h2 : q ≤ k + 5
    · exact absurd (hs q h1 h2) hq
    · omega
  · omega
theorem zat27 {x : Int} (hx : 0 ≤ x ∧ x < 8) : zat 27 x = some (28 + x.toNat) := by
  have : x = 0 ∨ x = 1 ∨ x = 2 ∨ x = 3 ∨ x = 4 ∨ x = 5 ∨ x = 6 ∨ x = 7 := by omega
  rcases this with rfl | rfl | rfl | rfl | rfl | rfl | rfl | rfl <;> decide +kernel
theorem zln28 {x : Int} (hx : 0 ≤ x ∧ x < 8) : zln (28 + x.toNat) = some 8 := by
  have : x = 0 ∨ x = 1 ∨ x = 2 ∨ x = 3 ∨ x = 4 ∨ x = 5 ∨ x = 6 ∨ x = 7 := by omega
  rcases this with rfl | rfl | rfl | rfl | rfl | rfl | rfl | rfl <;> decide +kernel
theorem CF.congr {k : Nat} {Z : zM} {n W h : Int} {K F P P' T : Int → Int} (A : CF k Z n W h K F P T) (hp : ∀ b, 0 ≤ b → b < n → P b = P' b) : CF k Z n W h K F P' T := by
  obtain ⟨e5, e6, e7, eb, ew⟩ := A
  exact ⟨e5, e6, e7, fun b h1 h2 => by rw [← hp b h1 h2]; exact eb b h1 h2, fun w h1 h2 => by rw [← cnt_congr (P := P) (P' := P') (fun b x y => hp b x (by omega))]; exact ew w h1 h2⟩
theorem WF.congr {n W h : Int} {K F P P' T : Int → Int} (A : WF n W h K F P T) (hp : ∀ b, 0 ≤ b → b < n → P b = P' b) : WF n W h K F P' T := by
  obtain ⟨a1, a2, a3, a4, a5⟩ := A
  exact ⟨a1, a2, a3, fun b h1 h2 => by rw [← hp b h1 h2]; exact a4 b h1 h2, a5⟩
section
variable {d : Nat} {Z : zM} {n W h kept : Int} {K F P T : Int → Int} {PA : Int → Int → Int} {HA : Int → Int}
theorem C_forget {Q : zM → Prop} (hQ : Q (zup Z 26 3 0)) : TV d 46 [.inr 26] Z Q :=
  w46_0 fun Z1 z1 => by subst z1; exact hQ
theorem CP0 {n' : Int} (hp : 0 ≤ Z 26 2 ∧ Z 26 2 < 8) : CP (zup Z 26 3 0) n' 0 PA HA :=
  ⟨by simp [zup], by decide, by simpa [zup] using hp, fun j h1 h2 => by omega⟩
theorem C_keep {k : Nat} {Q : zM → Prop} (hk : k = 1) (A : CF k Z n W h K F P T) (hn : n ≤ 8) (B : CP Z n kept PA HA) (hQ : ∀ Z', CP Z' n (gkn kept) (gkP kept PA P) (gkH kept HA h) → frs (fun q => 26 ≤ q ∧ q ≤ 36) Z Z' → Q Z') : TV (d + 1) 47 [.inr 26, .inr k] Z Q := by
  subst hk
  obtain ⟨e5, e6, e7, eb, ew⟩ := A
  obtain ⟨p3, pk, p2, pj⟩ := B
  refine w47_0 (d := d) (k := 1) zF1 ⟨_, zat27 p2, zln28 p2, fun Z1 z1 => ?_⟩
  have q1 : Z1 26 2 = Z 26 2 := by subst z1; simp [zcpy, show ¬ 26 = 28 + (Z 26 2).toNat by omega]
  have q2 : Z1 1 7 = h := by subst z1; simp [zcpy, show ¬ 1 = 28 + (Z 26 2).toNat by omega, e7]
  rw [q1, q2]
  refine ⟨p2, fun Z2 z2 => ?_⟩
  have q3 : Z2 26 2 = Z 26 2 := by subst z2; simp [zup, q1]
  rw [q3]
  refine ⟨by unfold zR; omega, fun Z3 z3 => ?_⟩
  have q4 : Z3 26 3 = kept := by
    subst z3; subst z2; subst z1
    simp [zup, zcpy, show ¬ 26 = 28 + (Z 26 2).toNat by omega, p3]
  rw [q4]
  refine ⟨by unfold zR; omega, fun Z4 z4 => ?_⟩
  have m1 : Int.tmod (Z 26 2 + 1) 8 = (Z 26 2 + 1) % 8 := Int.tmod_eq_emod_of_nonneg (by omega)
  have n2 : Z4 26 2 = (Z 26 2 + 1) % 8 := by
    subst z4; subst z3
    simp [zup, m1]
  refine hQ Z4 ⟨by subst z4; simp [zup, gkn], by unfold gkn; omega, by rw [n2]; omega, fun j h1 h2 => ?_⟩ ?_
  · rw [n2]
    have hs : ∀ s : Int, 0 ≤ s → s < 8 → (∀ b, Z4 (28 + s.toNat) b = if s = Z 26 2 ∧ 0 ≤ b ∧ b < 8 then Z 4 b else Z (28 + s.toNat) b) ∧ Z4 36 s = if s = Z 26 2 then h else Z 36 s := by
      intro s s1 s2
      refine ⟨fun b => ?_, ?_⟩
      · subst z4; subst z3; subst z2; subst z1
        have a1 : ¬ 28 + s.toNat = 26 := by omega
        have a2 : ¬ 28 + s.toNat = 36 := by omega
        simp only [zup, zcpy, if_neg a1, if_neg a2]
        by_cases e : s = Z 26 2
        · subst e
          rw [if_pos rfl]
          by_cases c : 0 ≤ b ∧ b < 8
          · rw [if_pos c, if_pos ⟨rfl, c⟩]
          · rw [if_neg c, if_neg (fun x => c x.2)]
        · rw [if_neg (by omega), if_neg (fun x => e x.1)]
      · subst z4; subst z3; subst z2; subst z1
        by_cases e : s = Z 26 2
        · subst e
          simp [zup]
        · simp [zup, zcpy, e, show ¬ 36 = 28 + (Z 26 2).toNat by omega]
    have ps : 0 ≤ pslot ((Z 26 2 + 1) % 8) (gkn kept) j ∧ pslot ((Z 26 2 + 1) % 8) (gkn kept) j < 8 := by unfold pslot; omega
    obtain ⟨t1, t2⟩ := hs _ ps.1 ps.2
    unfold gkP gkH
    by_cases k8 : kept < 8
    · rw [if_pos k8, if_pos k8]
      have gk : gkn kept = kept + 1 := by unfold gkn; omega
      by_cases e : j = kept
      · have es : pslot ((Z 26 2 + 1) % 8) (gkn kept) j = Z 26 2 := by unfold pslot; omega
        rw [if_pos e, if_pos e]
        rw [es] at t1 t2 ⊢
        exact ⟨fun b b1 b2 => by rw [t1 b, if_pos ⟨rfl, b1, by omega⟩]; exact (eb b b1 b2).2.2, by rw [t2, if_pos rfl]⟩
      · have es : pslot ((Z 26 2 + 1) % 8) (gkn kept) j = pslot (Z 26 2) kept j := by unfold pslot; omega
        have ne : ¬ pslot (Z 26 2) kept j = Z 26 2 := by unfold pslot; omega
        rw [if_neg e, if_neg e]
        rw [es] at t1 t2 ⊢
        obtain ⟨u1, u2⟩ := pj j h1 (by omega)
        exact ⟨fun b b1 b2 => by rw [t1 b, if_neg (fun x => ne x.1)]; exact u1 b b1 b2, by rw [t2, if_neg ne]; exact u2⟩
    · rw [if_neg k8, if_neg k8]
      have gk : gkn kept = 8 := by unfold gkn; omega
      by_cases e : j = 7
      · have es : pslot ((Z 26 2 + 1) % 8) (gkn kept) j = Z 26 2 := by unfold pslot; omega
        rw [if_pos e, if_pos e]
        rw [es] at t1 t2 ⊢
        exact ⟨fun b b1 b2 => by rw [t1 b, if_pos ⟨rfl, b1, by omega⟩]; exact (eb b b1 b2).2.2, by rw [t2, if_pos rfl]⟩
      · have es : pslot ((Z 26 2 + 1) % 8) (gkn kept) j = pslot (Z 26 2) kept (j + 1) := by unfold pslot; omega
        have ne : ¬ pslot (Z 26 2) kept (j + 1) = Z 26 2 := by unfold pslot; omega
        rw [if_neg e, if_neg e]
        rw [es] at t1 t2 ⊢
        obtain ⟨u1, u2⟩ := pj (j + 1) (by omega) (by omega)
        exact ⟨fun b b1 b2 => by rw [t1 b, if_neg (fun x => ne x.1)]; exact u1 b b1 b2, by rw [t2, if_neg ne]; exact u2⟩
  · subst z4; subst z3; subst z2; subst z1
    exact frs.trans (frs.trans (frs.trans (frs_cpy (by omega)) (frs_up (by omega))) (frs_up (by omega))) (frs_up (by omega))
def gtb (P PA : Int → Int) : Nat → Int → Int
  | 0 => P
  | m + 1 => gup (gtb P PA m) m (PA m)
theorem gtb_at (P PA : Int → Int) : ∀ (m : Nat) (b : Int), 0 ≤ b → gtb P PA m b = if b < m then PA b else P b
  | 0, b, h => by rw [if_neg (by omega)]; rfl
  | m + 1, b, h => by
    unfold gtb gup
    split
    · next e => subst e; rw [if_pos (by omega)]
    · next e =>
      rw [gtb_at P PA m b h]
      by_cases c : b < (m : Int)
      · rw [if_pos c, if_pos (by omega)]
      · rw [if_neg c, if_neg (by omega)]
theorem C_takeBack {Q : zM → Prop} (A : CF 1 Z n W h K F P T) (wf : WF n W h K F P T) (B : CP Z n kept PA HA) (hk : 0 < kept) (hP : ∀ b, 0 ≤ b → b < n → 0 ≤ PA (kept - 1) b ∧ PA (kept - 1) b < W) (hQ : ∀ Z', CF 1 Z' n W (HA (kept - 1)) K F (PA (kept - 1)) T → CP Z' n (kept - 1) PA HA → frs (fun q => (1 ≤ q ∧ q ≤ 6) ∨ q = 26) Z Z' → Q Z') : TV (d + 2) 48 [.inr 26, .inr 1] Z Q := by
  obtain ⟨p3, pk, p2, pj⟩ := B
  obtain ⟨hn, hW, hh, wb, ww⟩ := id wf
  refine w48_0 (k := 1) zF1 ⟨by unfold zR; omega, fun Z1 z1 => ?_⟩
  have q1 : Z1 26 3 = kept := by subst z1; simp [zup, p3]
  rw [q1]
  refine ⟨by unfold zR; omega, fun Z2 z2 => ?_⟩
  have m1 : Int.tmod (Z 26 2 + 8 - 1) 8 = pslot (Z 26 2) kept (kept - 1) := by
    rw [Int.tmod_eq_emod_of_nonneg (by omega)]; unfold pslot; omega
  have n2 : Z2 26 2 = pslot (Z 26 2) kept (kept - 1) := by subst z2; subst z1; simp [zup, m1]
  have n3 : Z2 26 3 = kept - 1 := by subst z2; simp [zup]; omega
  have f2 : frs (fun q => (1 ≤ q ∧ q ≤ 6) ∨ q = 26) Z Z2 := by
    subst z2; subst z1; exact frs.trans (frs_up (Or.inr rfl)) (frs_up (Or.inr rfl))
  have A2 : CF 1 Z2 n W h K F P T := A.keep fun q h1 h2 => by
    subst z2; subst z1
    funext p
    simp [zup, show ¬ q = 26 by omega]
  have ps : 0 ≤ pslot (Z 26 2) kept (kept - 1) ∧ pslot (Z 26 2) kept (kept - 1) < 8 := by unfold pslot; omega
  obtain ⟨u1, u2⟩ := pj (kept - 1) (by omega) (by omega)
  have wt : ∀ m : Nat, (m : Int) ≤ n → WF n W h K F (gtb P (PA (kept - 1)) m) T := fun m hm => by
    refine ⟨hn, hW, hh, fun b h1 h2 => ⟨(wb b h1 h2).1, (wb b h1 h2).2.1, ?_⟩, ww⟩
    rw [gtb_at _ _ _ _ h1]
    split
    · exact hP b h1 h2
    · exact (wb b h1 h2).2.2
  suffices H : ∀ m : Nat, m ≤ n.toNat → ∀ Z3 : zM, CF 1 Z3 n W h K F (gtb P (PA (kept - 1)) m) T → fr 1 Z2 Z3 → TZ (d + 2) 48 32 [some (.inr 26), some (.inr 1), some (.inl (m : Int))] [] Z3 (zrv Q) from H 0 (Nat.zero_le _) Z2 A2 (fr.refl _ _)
  intro m hm
  refine zdown (P := fun m => ∀ Z3 : zM, CF 1 Z3 n W h K F (gtb P (PA (kept - 1)) m) T → fr 1 Z2 Z3 → TZ (d + 2) 48 32 [some (.inr 26), some (.inr 1), some (.inl (m : Int))] [] Z3 (zrv Q)) (n := n.toNat) ?_ ?_ m hm
  · intro Z3 A3 f3
    have c26 : Z3 26 = Z2 26 := f3 26 (by omega)
    have c36 : Z3 36 = Z2 36 := f3 36 (by omega)
    have e5 := A3.1
    have h36 : Z2 36 = Z 36 := f2 36 (by omega)
    refine w48_32 (k := 1) zF1 ⟨by unfold zR; omega, by unfold zR; omega, fun c => ?_, fun c => absurd (show Z3 1 5 ≤ (n.toNat : Int) by omega) c⟩
    rw [c26, n2]
    refine ⟨ps, fun Z4 z4 => ?_⟩
    rw [c36, h36, u2] at z4
    refine hQ Z4 ?_ ?_ ?_
    · subst z4
      obtain ⟨a5, a6, a7, ab, aw⟩ := A3.congr (P' := PA (kept - 1)) fun b h1 h2 => by rw [gtb_at _ _ _ _ h1, if_pos (by omega)]
      exact ⟨by simp [zup, a5], by simp [zup, a6], by simp [zup], fun b h1 h2 => by simpa [zup] using ab b h1 h2, fun w h1 h2 => by simpa [zup] using aw w h1 h2⟩
    · have d26 : Z4 26 = Z2 26 := by subst z4; funext p; simp [zup]; rw [c26]
      refine ⟨by rw [d26, n3], by omega, by rw [d26, n2]; exact ps, fun j h1 h2 => ?_⟩
      rw [d26, n2]
      have es : pslot (pslot (Z 26 2) kept (kept - 1)) (kept - 1) j = pslot (Z 26 2) kept j := by unfold pslot; omega
      have ps2 : 0 ≤ pslot (Z 26 2) kept j ∧ pslot (Z 26 2) kept j < 8 := by unfold pslot; omega
      rw [es]
      obtain ⟨v1, v2⟩ := pj j h1 (by omega)
      have g1 : Z4 (28 + (pslot (Z 26 2) kept j).toNat) = Z (28 + (pslot (Z 26 2) kept j).toNat) := by
        subst z4; funext p
        rw [zup_cell _ _ _ _ (by omega), f3 _ (by omega), f2 _ (by omega)]
      have g2 : Z4 36 = Z 36 := by
        subst z4; funext p
        rw [zup_cell _ _ _ _ (by omega), f3 _ (by omega), f2 _ (by omega)]
      rw [g1, g2]
      exact ⟨v1, v2⟩
    · subst z4
      exact frs.trans f2 (frs.trans (f3.frs fun q h1 h2 => Or.inl ⟨h1, h2⟩) (frs_up (Or.inl (by omega))))
  · intro m hm ih Z3 A3 f3
    have c26 : Z3 26 = Z2 26 := f3 26 (by omega)
    have e5 := A3.1
    refine w48_32 (k := 1) zF1 ⟨by unfold zR; omega, by unfold zR; omega, fun c => absurd c (by omega), fun c => ?_⟩
    rw [c26, n2]
    refine ⟨_, zat27 ps, zln28 ps, by omega, ?_⟩
    have g1 : Z3 (28 + (pslot (Z 26 2) kept (kept - 1)).toNat) = Z (28 + (pslot (Z 26 2) kept (kept - 1)).toNat) := by
      rw [f3 _ (by omega), f2 _ (by omega)]
    rw [g1, u1 m (by omega) (by omega)]
    have hp := hP m (by omega) (by omega)
    exact C_go zF1 A3 (wt m (by omega)) (by omega) hp fun Z' A4 f4 => ih Z' A4 (fr.trans f3 f4)
end
