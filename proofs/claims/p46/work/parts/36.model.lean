/-! THE CLOCK, as a picture: places, kinds, figures, weights as functions; what an HOUR, a CAT, a HAWK, RAIN do -/
def cnt (P : Int → Int) (w : Int) : Nat → Int
  | 0 => 0
  | m + 1 => cnt P w m + (if P (m : Int) = w then 1 else 0)
theorem cnt_b (P : Int → Int) (w : Int) : ∀ m : Nat, 0 ≤ cnt P w m ∧ cnt P w m ≤ m
  | 0 => ⟨Int.le_refl _, Int.le_refl _⟩
  | m + 1 => by
    have := cnt_b P w m
    unfold cnt
    split <;> omega
theorem cnt_congr {P P' : Int → Int} {w : Int} : ∀ {m : Nat}, (∀ b : Int, 0 ≤ b → b < m → P b = P' b) → cnt P w m = cnt P' w m
  | 0, _ => rfl
  | m + 1, h => by
    unfold cnt
    rw [cnt_congr (m := m) (fun b h1 h2 => h b h1 (by omega)), h m (by omega) (by omega)]
def gup (P : Int → Int) (b x : Int) : Int → Int := fun q => if q = b then x else P q
theorem gup_same (P : Int → Int) (b x : Int) : gup P b x b = x := if_pos rfl
theorem gup_ne (P : Int → Int) {b q : Int} (x : Int) (h : q ≠ b) : gup P b x q = P q := if_neg h
theorem cnt_up {P : Int → Int} {w b x : Int} (hb : 0 ≤ b) : ∀ {m : Nat}, cnt (gup P b x) w m = cnt P w m + (if b < m then (if x = w then 1 else 0) - (if P b = w then 1 else 0) else 0)
  | 0 => by rw [if_neg (by omega)]; rfl
  | m + 1 => by
    have c1 : ((m + 1 : Nat) : Int) = (m : Int) + 1 := by omega
    rw [c1]
    unfold cnt
    rw [cnt_up hb (m := m)]
    by_cases h : b = (m : Int)
    · subst h
      rw [gup_same, if_neg (show ¬ (m : Int) < (m : Int) by omega), if_pos (show (m : Int) < (m : Int) + 1 by omega)]
      omega
    · rw [gup_ne _ _ (fun e => h e.symm)]
      by_cases h2 : b < (m : Int)
      · rw [if_pos h2, if_pos (show b < (m : Int) + 1 by omega)]; omega
      · rw [if_neg h2, if_neg (show ¬ b < (m : Int) + 1 by omega)]; omega
/-- room on a wire -/
def room (P : Int → Int) (n W w : Int) : Prop := 0 ≤ w ∧ w < W ∧ cnt P w n.toNat < 4
def roomb (P : Int → Int) (n W w : Int) : Bool := decide (0 ≤ w) && decide (w < W) && decide (cnt P w n.toNat < 4)
theorem roomb_iff {P : Int → Int} {n W w : Int} : roomb P n W w = true ↔ room P n W w := by
  unfold roomb room
  simp only [Bool.and_eq_true, decide_eq_true_eq, and_assoc]
def gnear (own fl : Int) : Int := if fl = -1 ∨ fl = own then own else if fl ≤ own then own - 1 else own + 1
def gyoung (F : Int → Int) (h b to : Int) : Int := if (h + F b).tmod 3 = 0 then max 0 (to - 1) else to
def gold (own fl to : Int) : Int := if fl ≠ -1 ∧ (fl - own = 1 ∨ own - fl = 1) then own else to
def greach (F P : Int → Int) (b fl : Int) : Prop := fl ≠ -1 ∧ fl - P b ≤ F b ∧ P b - fl ≤ F b
def greachb (F P : Int → Int) (b fl : Int) : Bool := decide (fl ≠ -1) && decide (fl - P b ≤ F b) && decide (P b - fl ≤ F b)
theorem greachb_iff {F P : Int → Int} {b fl : Int} : greachb F P b fl = true ↔ greach F P b fl := by
  unfold greachb greach
  simp only [Bool.and_eq_true, decide_eq_true_eq, and_assoc]
def gwant (n h : Int) (K F P : Int → Int) (b fl : Int) : Int :=
  if K b = 1 then gyoung F h b (gnear (P b) fl)
  else if K b = 2 then gold (P b) fl (gnear (P b) fl)
  else if K b = 3 then (if greachb F P b fl = true then fl else gyoung F h b (gnear (P b) fl))
  else if K b = 4 then (if cnt P (P b) n.toNat = 1 then gnear (P b) fl else gold (P b) fl (gnear (P b) fl))
  else if K b = 5 then min (gold (P b) fl (gnear (P b) fl)) ((F b).tdiv 3)
  else gnear (P b) fl
/-- an HOUR: the first m birds have gone; places, who went (bits) -/
def gP (n W h : Int) (K F P : Int → Int) (fl : Int) : Nat → (Int → Int) × Int
  | 0 => (P, 0)
  | m + 1 =>
    let q := gP n W h K F P fl m
    let to := gwant n h K F q.1 m fl
    if to ≠ q.1 m ∧ roomb q.1 n W to = true then (gup q.1 m to, zbit 4 q.2 (zbit 6 1 m)) else q
/-- from wire w up to the top: the first with room; -1 none (fuel) -/
def gfup (P : Int → Int) (n W : Int) : Nat → Int → Int
  | 0, _ => -9
  | f + 1, w => if W ≤ w then -9 else if roomb P n W w = true then w else gfup P n W f (w + 1)
def gfdn (P : Int → Int) (n W : Int) : Nat → Int → Int
  | 0, _ => -9
  | f + 1, w => if w < 0 then -9 else if roomb P n W w = true then w else gfdn P n W f (w - 1)
def gref (P : Int → Int) (n W w : Int) : Int := if gfup P n W 8 (w + 1) < 0 then gfdn P n W 8 (w - 1) else gfup P n W 8 (w + 1)
/-- a CAT on w: the first m birds have gone: places, how many went -/
def gC (n W : Int) (P : Int → Int) (w : Int) : Nat → (Int → Int) × Int
  | 0 => (P, 0)
  | m + 1 =>
    let q := gC n W P w m
    if q.1 m = w ∧ 0 ≤ gref q.1 n W w then (gup q.1 m (gref q.1 n W w), q.2 + 1) else q
/-- the highest wire above own with room, from w down; own if none -/
def gup1 (P : Int → Int) (n W own : Int) : Nat → Int → Int
  | 0, _ => own
  | f + 1, w => if w ≤ own then own else if roomb P n W w = true then w else gup1 P n W own f (w - 1)
def gdn1 (P : Int → Int) (n W own : Int) : Nat → Int → Int
  | 0, _ => own
  | f + 1, w => if own ≤ w then own else if roomb P n W w = true then w else gdn1 P n W own f (w + 1)
def gH (n W : Int) (P : Int → Int) : Nat → (Int → Int) × Int
  | 0 => (P, 0)
  | m + 1 =>
    let q := gH n W P m
    let to := gup1 q.1 n W (q.1 m) 8 (W - 1)
    (gup q.1 m to, if to = q.1 m then q.2 else q.2 + 1)
def gR (n W : Int) (P : Int → Int) : Nat → (Int → Int) × Int
  | 0 => (P, 0)
  | m + 1 =>
    let q := gR n W P m
    let to := gdn1 q.1 n W (q.1 m) 8 0
    (gup q.1 m to, if to = q.1 m then q.2 else q.2 + 1)
/-- what is SHOWN: weights times how many sit there -/
def gsum (n : Int) (P T : Int → Int) : Nat → Int
  | 0 => 0
  | m + 1 => gsum n P T m + T m * cnt P m n.toNat
def gshow (n W : Int) (P T : Int → Int) : Int := (gsum n P T W.toNat).tmod 12
def gapart (s h : Int) : Int := min ((s - h) % 12) (12 - (s - h) % 12)
def gchord (n : Int) (P : Int → Int) : Nat → Int
  | 0 => 0
  | m + 1 => if cnt P m n.toNat ≤ 0 then gchord n P m else zbit 4 (gchord n P m) (zbit 6 1 m)
/-- the picture is in order -/
def WF (n W h : Int) (K F P T : Int → Int) : Prop := (0 ≤ n ∧ n ≤ 8) ∧ (5 ≤ W ∧ W ≤ 6) ∧ (0 ≤ h ∧ h ≤ 1000000) ∧ (∀ b, 0 ≤ b → b < n → (0 ≤ K b ∧ K b ≤ 5) ∧ (0 ≤ F b ∧ F b ≤ 9) ∧ (0 ≤ P b ∧ P b < W)) ∧ ∀ w, 0 ≤ w → w < 6 → 0 ≤ T w ∧ T w ≤ 11
/-- a flock of the class holds the picture -/
def CF (k : Nat) (Z : zM) (n W h : Int) (K F P T : Int → Int) : Prop := Z k 5 = n ∧ Z k 6 = W ∧ Z k 7 = h ∧ (∀ b, 0 ≤ b → b < n → Z (k + 1) b = K b ∧ Z (k + 2) b = F b ∧ Z (k + 3) b = P b) ∧ ∀ w, 0 ≤ w → w < 6 → Z (k + 5) w = T w ∧ Z (k + 4) w = cnt P w n.toNat
/-- nothing but this flock has changed -/
def fr (k : Nat) (Z Z' : zM) : Prop := ∀ q, (q < k ∨ k + 5 < q) → Z' q = Z q
theorem fr.refl (k : Nat) (Z : zM) : fr k Z Z := fun _ _ => rfl
theorem fr.trans {k : Nat} {Z Z1 Z2 : zM} (h1 : fr k Z Z1) (h2 : fr k Z1 Z2) : fr k Z Z2 := fun q hq => (h2 q hq).trans (h1 q hq)
theorem fr_up {k q : Nat} {Z : zM} {j x : Int} (h : k ≤ q ∧ q ≤ k + 5) : fr k Z (zup Z q j x) := fun p hp => funext fun i => zup_cell _ _ _ _ (by omega)
theorem zdown {P : Nat → Prop} {n : Nat} (h0 : P n) (hs : ∀ m, m < n → P (m + 1) → P m) (m : Nat) (hm : m ≤ n) : P m := by
  induction hk : n - m generalizing m with
  | zero => have : m = n := by omega
            subst this; exact h0
  | succ j ih => exact hs m (by omega) (ih (m + 1) (by omega) (by omega))
