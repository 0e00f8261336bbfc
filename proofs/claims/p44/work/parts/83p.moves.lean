/-! LOOKS with their very answers: mixed, the best wire -/
def gmf (a : gX) (w : Int) : Int := (if roomb a.1.2.2.2.2.2.1 a.1.1 a.1.2.1 (w - 1) = true ∧ a.1.2.2.2.2.2.2 (w - 1) ≠ a.1.2.2.2.2.2.2 w then 1 else 0) + (if roomb a.1.2.2.2.2.2.1 a.1.1 a.1.2.1 (w + 1) = true ∧ a.1.2.2.2.2.2.2 (w + 1) ≠ a.1.2.2.2.2.2.2 w then 1 else 0)
def vMixed (a : gX) : Int := rsum a.1.2.2.2.2.2.1 (gmf a) a.1.1.toNat
section
variable {d : Nat} {Z Z1 Z2 : zM} {a : gX} {s : gS} {i : Int}
theorem F_room1 {w : Int} {Q : Int → zM → Prop} (A : CX Z a) (wx : WX a) (f : frs SQ Z Z1) (hw : zR w) (h1 : roomb a.1.2.2.2.2.2.1 a.1.1 a.1.2.1 w = true → Q 1 Z1) (h0 : ¬ roomb a.1.2.2.2.2.2.1 a.1.1 a.1.2.1 w = true → Q 0 Z1) : TI d 17 [.inr 1, .inl w] Z1 Q :=
  C_room (n := a.1.1) (W := a.1.2.1) (h := a.1.2.2.1) (K := a.1.2.2.2.1) (F := a.1.2.2.2.2.1) (P := a.1.2.2.2.2.2.1) (T := a.1.2.2.2.2.2.2) zF1 (CFf (k := 0) A.1 f) wx.1.1 hw (fun r => h1 (roomb_iff.mpr r)) (fun r => h0 (fun x => r (roomb_iff.mp x)))
theorem nowW (A : CX Z a) (f : frs SQ Z Z1) {w : Int} (hw : 0 ≤ w ∧ w < 6) : Z1 6 w = a.1.2.2.2.2.2.2 w ∧ Z1 5 w = cnt a.1.2.2.2.2.2.1 w a.1.1.toNat :=
  (CFf (k := 0) A.1 f).2.2.2.2 w hw.1 hw.2
theorem X_mixed (A : CX Z a) (wx : WX a) : TI (d + 6) 132 [.inr 0] Z (PostC Z (oq a 0 (vMixed a))) := by
  have hW : 5 ≤ a.1.2.1 ∧ a.1.2.1 ≤ 6 := wx.1.1.2.1
  have hn : 0 ≤ a.1.1 ∧ a.1.1 ≤ 8 := wx.1.1.1
  have e6 : Z 1 6 = a.1.2.1 := A.1.2.1
  have nW := fun w (hw : 0 ≤ w ∧ w < 6) => nowW A (frs.refl SQ Z) hw
  have tb := wx.1.1.2.2.2.2
  have tot : gsum a.1.1 a.1.2.2.2.2.2.1 (gmf a) a.1.2.1.toNat = vMixed a := by
    have := gsum_r (P := a.1.2.2.2.2.2.1) (T := gmf a) (W := a.1.2.1) (by omega) a.1.1.toNat (fun b h1 h2 => (wx.1.1.2.2.2.1 b h1 (by omega)).2.2.2)
    rw [show ((a.1.1.toNat : Nat) : Int) = a.1.1 by omega] at this
    exact this
  refine w132_0 ?_
  suffices H : ∀ (f m : Nat) (x2 : Int) (o3 : Option zV), x2 = m → f = a.1.2.1.toNat - m → m ≤ a.1.2.1.toNat → TZ (d + 6) 132 4 [some (.inr 0), some (.inl (gsum a.1.1 a.1.2.2.2.2.2.1 (gmf a) m)), some (.inl x2), o3] [] Z (zri (PostC Z (oq a 0 (vMixed a)))) from H _ 0 0 none rfl rfl (by omega)
  intro f
  induction f with
  | zero =>
    intro m x2 o3 e y1 y2
    refine w132_4 ⟨by unfold zR; omega, by unfold zR; omega, fun _ => ?_, fun y => absurd (show Z 1 6 ≤ x2 by omega) y⟩
    rw [show m = a.1.2.1.toNat by omega, tot]
    exact PQ A rfl (frs.refl _ _)
  | succ f ih =>
    intro m x2 o3 e y1 y2
    have st : gsum a.1.1 a.1.2.2.2.2.2.1 (gmf a) (m + 1) = gsum a.1.1 a.1.2.2.2.2.2.1 (gmf a) m + gmf a m * cnt a.1.2.2.2.2.2.1 m a.1.1.toNat := rfl
    rw [← e] at st
    have t2 := tb x2 (by omega) (by omega)
    have c2 := (nW x2 (by omega)).2
    have w2 := (nW x2 (by omega)).1
    refine w132_4 ⟨by unfold zR; omega, by unfold zR; omega, fun c => by omega, fun y => ?_⟩
    have fin : ∀ v x3, v = gsum a.1.1 a.1.2.2.2.2.2.1 (gmf a) (m + 1) → x3 = x2 + 3 → TZ (d + 6) 132 19 [some (.inr 0), some (.inl v), some (.inl x2), some (.inl x3)] [] Z (zri (PostC Z (oq a 0 (vMixed a)))) := fun v x3 hv h3 => by
      subst hv
      exact w132_19 ⟨by unfold zR; omega, by unfold zR; omega, fun _ => ih (m + 1) _ _ (by omega) (by omega) (by omega), fun z => absurd (show x2 + 1 < x3 by omega) z⟩
    -- one step: to = x3, its share q
    have one : ∀ (v x3 : Int), x2 - 1 ≤ x3 → x3 ≤ x2 + 1 → TZ (d + 6) 132 19 [some (.inr 0), some (.inl (v + (if roomb a.1.2.2.2.2.2.1 a.1.1 a.1.2.1 x3 = true ∧ a.1.2.2.2.2.2.2 x3 ≠ a.1.2.2.2.2.2.2 x2 then 1 else 0) * cnt a.1.2.2.2.2.2.1 x2 a.1.1.toNat)), some (.inl x2), some (.inl (x3 + 2))] [] Z (zri (PostC Z (oq a 0 (vMixed a)))) → TZ (d + 6) 132 19 [some (.inr 0), some (.inl v), some (.inl x2), some (.inl x3)] [] Z (zri (PostC Z (oq a 0 (vMixed a)))) := by
      intro v x3 z1 z2 k
      refine w132_19 ⟨by unfold zR; omega, by unfold zR; omega, fun z => by omega, fun z => F_room1 A wx (frs.refl _ _) (by unfold zR; omega) (fun r => ⟨by decide, fun q => absurd q (by decide), fun _ => ?_⟩) (fun r => ⟨by decide, fun _ => ?_, fun q => absurd rfl q⟩)⟩
      · have rr := roomb_iff.mp r
        have r1 := rr.1
        have r2 := rr.2.1
        have t3 := tb x3 r1 (by omega)
        have w3 := (nW x3 (by omega)).1
        rw [w3, w2, c2]
        refine ⟨by omega, by omega, by unfold zR; omega, by unfold zR; omega, fun q => ?_, fun q => ⟨by omega, ?_⟩⟩
        · rw [if_neg (fun x => x.2 q), Int.zero_mul, Int.add_zero] at k; exact k
        · rw [if_pos ⟨r, q⟩, Int.one_mul] at k; exact k
      · rw [if_neg (fun x => r x.1), Int.zero_mul, Int.add_zero] at k; exact k
    refine one _ _ (by omega) (by omega) ?_
    rw [show x2 - 1 + 2 = x2 + 1 by omega]
    refine one _ _ (by omega) (by omega) (fin _ _ ?_ (by omega))
    rw [st]
    unfold gmf
    rw [Int.add_mul]
    omega
theorem R_move {x1 x2 n W h : Int} {K F P T : Int → Int} {Q : Int → zM → Prop} (A : RF Z1 n W h K F P T) (hP : PB n P) (hW : zR W) (hx : zR x2) (h1 : roomb P n W x2 = true → Q 1 Z1) (h0 : ¬ roomb P n W x2 = true → Q 0 Z1) : TI (d + 2) 227 [.inr 100, .inl x1, .inl x2] Z1 Q :=
  w227_0 (R_isWire A.2.1 hW hx (fun i => ⟨by decide, fun e => absurd e (by decide), fun _ => R_room A hP hx (fun c => ⟨by decide, fun e => absurd e (by decide), fun _ => h1 (roomb_iff.mpr ⟨i.1, i.2, c⟩)⟩) (fun c => ⟨by decide, fun _ => h0 (fun x => c (roomb_iff.mp x).2.2), fun e => absurd rfl e⟩)⟩) (fun i => ⟨by decide, fun _ => h0 (fun x => i ⟨(roomb_iff.mp x).1, (roomb_iff.mp x).2.1⟩), fun e => absurd rfl e⟩))
theorem rshow_up {n b x : Int} {P T : Int → Int} (hP : PB n P) (ht : ∀ w, 0 ≤ w → w < 6 → 0 ≤ T w ∧ T w ≤ 11) (hb : 0 ≤ b ∧ b < n) (hp : 0 ≤ P b) (hx : 0 ≤ x ∧ x < 6) : rshow n (gup P b x) T = rshow n P T ↔ T x = T (P b) := by
  have pb := PB.up (b := b) hP (x := x) (by omega)
  have hn := hP.1
  have r1 := rsum_b (P := gup P b x) pb.1 (fun c h1 h2 => (pb.2 c h1 h2).2) ht n.toNat (by omega)
  have r0 := rsum_b (P := P) hP.1 (fun c h1 h2 => (hP.2 c h1 h2).2) ht n.toNat (by omega)
  have up := rsum_up (P := P) (T := T) (b := b) (x := x) hb.1 n.toNat
  rw [if_pos (show b < ((n.toNat : Nat) : Int) by omega), if_pos hx.1, if_pos hp] at up
  have t1 := ht x hx.1 hx.2
  have t2 := ht (P b) hp (hP.2 b hb.1 hb.2).2
  unfold rshow
  rw [Int.tmod_eq_emod_of_nonneg r1.1, Int.tmod_eq_emod_of_nonneg r0.1]
  omega
theorem Y_mixed (A : RX Z a) (wx : WX a) : TI (d + 3) 228 [.inr 100] Z (PostR Z (oq a 0 (vMixed a))) := by
  have m := QS.refl A
  have hW : 5 ≤ a.1.2.1 ∧ a.1.2.1 ≤ 6 := wx.1.1.2.1
  have hn : 0 ≤ a.1.1 ∧ a.1.1 ≤ 8 := wx.1.1.1
  have e5 := m.now.1
  have pb := WF.pb wx.1.1
  refine w228_0 (R_shown0 (n := a.1.1) (W := a.1.2.1) (h := a.1.2.2.1) (K := a.1.2.2.2.1) (F := a.1.2.2.2.2.1) (P := a.1.2.2.2.2.2.1) (T := a.1.2.2.2.2.2.2) A.1 pb wx.1.1.2.2.2.2 ?_)
  have rb := rshow_b pb wx.1.1.2.2.2.2
  suffices H : ∀ (f k : Nat) (x3 : Int) (o4 o5 : Option zV), x3 = k → f = a.1.1.toNat - k → k ≤ a.1.1.toNat → TZ (d + 3) 228 9 [some (.inr 100), some (.inl (rshow a.1.1 a.1.2.2.2.2.2.1 a.1.2.2.2.2.2.2)), some (.inl (rsum a.1.2.2.2.2.2.1 (gmf a) k)), some (.inl x3), o4, o5] [] Z (zri (PostR Z (oq a 0 (vMixed a)))) from H _ 0 0 none none rfl rfl (by omega)
  intro f
  induction f with
  | zero =>
    intro k x3 o4 o5 e y1 y2
    refine w228_9 ⟨by unfold zR; omega, by unfold zR; omega, fun _ => ?_, fun y => absurd (show Z 100 5 ≤ x3 by omega) y⟩
    rw [show k = a.1.1.toNat by omega]
    exact G_ok m rfl
  | succ f ih =>
    intro k x3 o4 o5 e y1 y2
    have es : Z 105 x3 = a.1.2.2.2.2.2.1 x3 := (m.1.1.2.2.2.1 x3 (by omega) (by omega)).2.2
    have p := (wx.1.1.2.2.2.1 x3 (by omega) (by omega)).2.2
    have st : rsum a.1.2.2.2.2.2.1 (gmf a) (k + 1) = rsum a.1.2.2.2.2.2.1 (gmf a) k + (if 0 ≤ a.1.2.2.2.2.2.1 k then gmf a (a.1.2.2.2.2.2.1 k) else 0) := rfl
    rw [← e, if_pos p.1] at st
    refine w228_9 ⟨by unfold zR; omega, by unfold zR; omega, fun c => by omega, fun y => ?_⟩
    have one : ∀ (v x4 : Int) (o5 : Option zV), (x4 = -1 ∨ x4 = 1) → (∀ o5, TZ (d + 3) 228 20 [some (.inr 100), some (.inl (rshow a.1.1 a.1.2.2.2.2.2.1 a.1.2.2.2.2.2.2)), some (.inl (v + (if roomb a.1.2.2.2.2.2.1 a.1.1 a.1.2.1 (a.1.2.2.2.2.2.1 x3 + x4) = true ∧ a.1.2.2.2.2.2.2 (a.1.2.2.2.2.2.1 x3 + x4) ≠ a.1.2.2.2.2.2.2 (a.1.2.2.2.2.2.1 x3) then 1 else 0))), some (.inl x3), some (.inl (x4 + 2)), o5] [] Z (zri (PostR Z (oq a 0 (vMixed a))))) → TZ (d + 3) 228 20 [some (.inr 100), some (.inl (rshow a.1.1 a.1.2.2.2.2.2.1 a.1.2.2.2.2.2.2)), some (.inl v), some (.inl x3), some (.inl x4), o5] [] Z (zri (PostR Z (oq a 0 (vMixed a)))) := by
      intro v x4 o5 z1 k
      refine w228_20 ⟨by unfold zR; omega, fun c => by omega, fun _ => ⟨by omega, ?_⟩⟩
      rw [es]
      refine R_move (n := a.1.1) (W := a.1.2.1) (h := a.1.2.2.1) (K := a.1.2.2.2.1) (F := a.1.2.2.2.2.1) (P := a.1.2.2.2.2.2.1) (T := a.1.2.2.2.2.2.2) m.1.1 pb (by unfold zR; omega) (by unfold zR; omega) (fun r => ⟨by decide, fun _ => ⟨by omega, fun Z9 e9 => ?_⟩, fun q => absurd (show (1 : Int) ≠ 0 by decide) q⟩) (fun r => ⟨by decide, fun q => absurd rfl q, fun _ => ?_⟩)
      · have rr := roomb_iff.mp r
        have r1 := rr.1
        have r2 := rr.2.1
        subst e9
        have R : RF (zup Z 105 x3 (a.1.2.2.2.2.2.1 x3 + x4)) a.1.1 a.1.2.1 a.1.2.2.1 a.1.2.2.2.1 a.1.2.2.2.2.1 (gup a.1.2.2.2.2.2.1 x3 (a.1.2.2.2.2.2.1 x3 + x4)) a.1.2.2.2.2.2.2 := RF.sit m.1.1 (by omega)
        have p2 := PB.up (b := x3) pb (x := a.1.2.2.2.2.2.1 x3 + x4) (by omega)
        have rb2 := rshow_b p2 wx.1.1.2.2.2.2
        have eq := rshow_up pb wx.1.1.2.2.2.2 (b := x3) (by omega) p.1 (x := a.1.2.2.2.2.2.1 x3 + x4) (by omega)
        refine R_shown0 R p2 wx.1.1.2.2.2.2 ⟨by unfold zR; omega, by unfold zR; omega, fun q => ⟨by omega, fun Z16 e16 => ?_⟩, fun q => ⟨by omega, fun Z18 e18 => ?_⟩⟩
        · rw [e16, ← es, zup_back]
          have := k (some (.inl (Z 105 x3)))
          rw [if_pos ⟨r, fun x => q (eq.mpr x)⟩] at this
          rw [es] at this ⊢
          exact this
        · rw [e18, ← es, zup_back]
          have := k (some (.inl (Z 105 x3)))
          rw [if_neg (fun x => x.2 (eq.mp (by omega)))] at this
          rw [es] at this ⊢
          exact this
      · have := k (some (.inl (Z 105 x3)))
        rw [if_neg (fun x => r x.1), Int.add_zero] at this
        rw [es] at this
        exact this
    refine one _ _ _ (Or.inl rfl) fun o5 => ?_
    rw [show (-1 : Int) + 2 = 1 from rfl]
    refine one _ _ _ (Or.inr rfl) fun o5 => ?_
    have := ih (k + 1) (x3 + 1) (some (.inl 3)) o5 (by omega) (by omega) (by omega)
    rw [st] at this
    unfold gmf at this
    rw [show (1 : Int) + 2 = 3 from rfl]
    refine w228_20 ⟨by decide, fun _ => ?_, fun c => absurd (show (2 : Int) ≤ 3 by decide) c⟩
    rw [Int.add_assoc]
    exact this
end
/-! the best wire for one -/
def gel (a : gX) (b w : Int) : Bool := decide (w = a.1.2.2.2.2.2.1 b) || roomb a.1.2.2.2.2.2.1 a.1.1 a.1.2.1 w
def gbw (a : gX) (b : Int) : Nat → Int × Int
  | 0 => (1000000, a.1.2.2.2.2.2.1 b)
  | m + 1 => if gel a b m = true ∧ gmv a b m < (gbw a b m).1 then (gmv a b m, (m : Int)) else gbw a b m
def vBestWire (a : gX) (x1 x2 : Int) : Int := if x2 = 1 then gmv a x1 (-1) else (gbw a x1 a.1.2.1.toNat).2
/-- the best of those from lo up to hi -/
def isBest (a : gX) (b lo hi x : Int) : Prop := gel a b x = true ∧ ∀ w, lo ≤ w → w < hi → gel a b w = true → gmv a b x ≤ gmv a b w ∧ (gmv a b w = gmv a b x → x ≤ w)
theorem gbw_i {a : gX} {b : Int} : ∀ m : Nat, ((gbw a b m).1 = 1000000 ∧ (gbw a b m).2 = a.1.2.2.2.2.2.1 b ∧ ∀ w : Int, 0 ≤ w → w < m → ¬ gel a b w = true) ∨ ((gbw a b m).1 = gmv a b (gbw a b m).2 ∧ 0 ≤ (gbw a b m).2 ∧ (gbw a b m).2 < m ∧ isBest a b 0 m (gbw a b m).2)
  | 0 => Or.inl ⟨rfl, rfl, fun w h1 h2 => by omega⟩
  | m + 1 => by
    have ih := gbw_i (a := a) (b := b) m
    have mb := @gmv_b a b m
    unfold gbw
    split
    · next c =>
      refine Or.inr ⟨rfl, by show 0 ≤ (m : Int); omega, by show (m : Int) < ((m + 1 : Nat) : Int); omega, c.1, fun w h1 h2 h3 => ?_⟩
      show gmv a b m ≤ gmv a b w ∧ (gmv a b w = gmv a b m → (m : Int) ≤ w)
      by_cases e : w = m
      · rw [e]; exact ⟨Int.le_refl _, fun _ => Int.le_refl _⟩
      · rcases ih with ⟨i1, i2, i3⟩ | ⟨i1, i2, i3, i4⟩
        · exact absurd h3 (i3 w h1 (by omega))
        · have := i4.2 w h1 (by omega) h3
          have := c.2
          omega
    · next c =>
      rcases ih with ⟨i1, i2, i3⟩ | ⟨i1, i2, i3, i4⟩
      · refine Or.inl ⟨i1, i2, fun w h1 h2 h3 => ?_⟩
        by_cases e : w = m
        · subst e
          exact c ⟨h3, by omega⟩
        · exact i3 w h1 (by omega) h3
      · refine Or.inr ⟨i1, i2, by omega, i4.1, fun w h1 h2 h3 => ?_⟩
        by_cases e : w = m
        · have : ¬ gmv a b m < (gbw a b m).1 := fun x => c ⟨by rw [← e]; exact h3, x⟩
          rw [e]
          omega
        · exact i4.2 w h1 (by omega) h3
theorem gel_own {a : gX} {b : Int} : gel a b (a.1.2.2.2.2.2.1 b) = true := by
  unfold gel
  rw [decide_eq_true rfl]; rfl
theorem gbw_best {a : gX} {b x : Int} (wx : WX a) (hb : 0 ≤ b ∧ b < a.1.1) (h : isBest a b 0 a.1.2.1 x) (hx : 0 ≤ x ∧ x < a.1.2.1) : x = (gbw a b a.1.2.1.toNat).2 := by
  have p := (wx.1.1.2.2.2.1 b hb.1 hb.2).2.2
  have tn : ((a.1.2.1.toNat : Nat) : Int) = a.1.2.1 := by omega
  rcases gbw_i (a := a) (b := b) a.1.2.1.toNat with ⟨i1, i2, i3⟩ | ⟨i1, i2, i3, i4⟩
  · exact absurd gel_own (i3 _ p.1 (by omega))
  · rw [tn] at i4
    have q1 := h.2 _ i2 (by omega) i4.1
    have q2 := i4.2 _ hx.1 hx.2 h.1
    have e : gmv a b x = gmv a b (gbw a b a.1.2.1.toNat).2 := by omega
    have := q1.2 e.symm
    have := q2.2 e
    omega
section
variable {d : Nat} {Z Z1 Z2 : zM} {a : gX} {s : gS} {i : Int}
theorem X_bestWire {x1 x2 : Int} (A : CX Z a) (wx : WX a) (h1 : zR x1) (h2 : zR x2) : TI (d + 6) 139 [.inr 0, .inl x1, .inl x2] Z (PostC Z (oq a (geith (gin a.1.1 x1) (gunk x2 1)) (vBestWire a x1 x2))) := by
  have hW : 5 ≤ a.1.2.1 ∧ a.1.2.1 ≤ 6 := wx.1.1.2.1
  have hn : 0 ≤ a.1.1 ∧ a.1.1 ≤ 8 := wx.1.1.1
  have e6 : Z 1 6 = a.1.2.1 := A.1.2.1
  have e7 : Z 1 7 = a.1.2.2.1 := A.1.2.2.1
  have hh : 0 ≤ a.1.2.2.1 ∧ a.1.2.2.1 ≤ 1000000 := wx.1.1.2.2.1
  have nW := fun w (hw : 0 ≤ w ∧ w < 6) => nowW A (frs.refl SQ Z) hw
  have tb := wx.1.1.2.2.2.2
  have sb : 0 ≤ gshows a.1 ∧ gshows a.1 < 12 := gshow_b wx.1.1
  have g := geith_b (gb1 (W := a.1.1) (w := x1)) (gb2 (x := x2) (m := 1))
  refine w139_0 (C_noBird h1 A.1.1 (by unfold zR; omega) (C_unknown h2 (by decide) (C_either (zR9 gb1) ⟨zR9 g, fun c => ?_, fun c => C_refuse (by omega) (PRq A c g)⟩)))
  have c1 := gin_0.mp (geith_0.mp c).1
  have c2 := gunk_0.mp (geith_0.mp c).2
  have e3 : Z 4 x1 = a.1.2.2.2.2.2.1 x1 := (A.1.2.2.2.1 x1 c1.1 c1.2).2.2
  have p := (wx.1.1.2.2.2.1 x1 c1.1 c1.2).2.2
  have ok := PQ (v := vBestWire a x1 x2) A c (frs.refl SQ Z)
  unfold vBestWire at ok ⊢
  rw [e3]
  refine ⟨h2, fun q => ⟨by omega, ?_⟩, fun q => F_without A wx c1 ?_⟩
  rotate_left
  · rw [if_pos (by omega)] at ok ⊢; exact ok
  rw [if_neg q] at ok ⊢
  suffices H : ∀ (f m : Nat) (x7 : Int) (o8 : Option zV), x7 = m → f = a.1.2.1.toNat - m → m ≤ a.1.2.1.toNat → TZ (d + 6) 139 58 [some (.inr 0), some (.inl x1), some (.inl x2), some (.inl (geith (gin a.1.1 x1) (gunk x2 1))), some (.inl (a.1.2.2.2.2.2.1 x1)), some (.inl (gbw a x1 m).1), some (.inl (gbw a x1 m).2), some (.inl x7), o8] [] Z (zri (PostC Z (oq a (geith (gin a.1.1 x1) (gunk x2 1)) (gbw a x1 a.1.2.1.toNat).2))) from H _ 0 0 none rfl rfl (by omega)
  intro f
  induction f with
  | zero =>
    intro m x7 o8 e y1 y2
    refine w139_58 ⟨by unfold zR; omega, by unfold zR; omega, fun _ => ?_, fun y => absurd (show Z 1 6 ≤ x7 by omega) y⟩
    rw [show a.1.2.1.toNat = m by omega] at ok ⊢
    exact ok
  | succ f ih =>
    intro m x7 o8 e y1 y2
    have st : gbw a x1 (m + 1) = if gel a x1 m = true ∧ gmv a x1 m < (gbw a x1 m).1 then (gmv a x1 m, (m : Int)) else gbw a x1 m := rfl
    rw [← e] at st
    have ih' := fun o8 => ih (m + 1) (x7 + 1) o8 (by omega) (by omega) (by omega)
    rw [st] at ih'
    have z1 : zR (gbw a x1 m).1 := by
      have mb := @gmv_b a x1 (gbw a x1 m).2
      rcases gbw_i (a := a) (b := x1) m with ⟨i1, _⟩ | ⟨i1, _⟩ <;> unfold zR <;> omega
    have t1 := tb (a.1.2.2.2.2.2.1 x1) p.1 (by omega)
    have t2 := tb x7 (by omega) (by omega)
    have mb := @gmv_b a x1 x7
    have body : gel a x1 x7 = true → TI (d + 5) 22 [.inr 1] Z (fun r8 Z7 => (0 ≤ a.1.2.2.2.2.2.1 x1 ∧ a.1.2.2.2.2.2.1 x1 < 6) ∧ (0 ≤ x7 ∧ x7 < 6) ∧ TI (d + 5) 152 [.inl ((r8 - (Z7 6 (a.1.2.2.2.2.2.1 x1))) + (Z7 6 x7)), .inl (Z7 1 7)] Z7 (fun r12 Z11 => zR r12 ∧ zR (gbw a x1 m).1 ∧ ((gbw a x1 m).1 ≤ r12 → TZ (d + 6) 139 58 [some (.inr 0), some (.inl x1), some (.inl x2), some (.inl (geith (gin a.1.1 x1) (gunk x2 1))), some (.inl (a.1.2.2.2.2.2.1 x1)), some (.inl (gbw a x1 m).1), some (.inl (gbw a x1 m).2), some (.inl (x7 + 1)), some (.inl r12)] [] Z11 (zri (PostC Z (oq a (geith (gin a.1.1 x1) (gunk x2 1)) (gbw a x1 a.1.2.1.toNat).2)))) ∧ (¬ (gbw a x1 m).1 ≤ r12 → TZ (d + 6) 139 58 [some (.inr 0), some (.inl x1), some (.inl x2), some (.inl (geith (gin a.1.1 x1) (gunk x2 1))), some (.inl (a.1.2.2.2.2.2.1 x1)), some (.inl r12), some (.inl x7), some (.inl (x7 + 1)), some (.inl r12)] [] Z11 (zri (PostC Z (oq a (geith (gin a.1.1 x1) (gunk x2 1)) (gbw a x1 a.1.2.1.toNat).2)))))) := by
      intro ge
      refine C_shows (n := a.1.1) (W := a.1.2.1) (h := a.1.2.2.1) (K := a.1.2.2.2.1) (F := a.1.2.2.2.2.1) (P := a.1.2.2.2.2.2.1) (T := a.1.2.2.2.2.2.2) zF1 A.1 wx.1.1 ⟨by omega, by omega, ?_⟩
      rw [(nW _ (show 0 ≤ a.1.2.2.2.2.2.1 x1 ∧ a.1.2.2.2.2.2.1 x1 < 6 by omega)).1, (nW x7 (by omega)).1, e7]
      have em : gapart (gshow a.1.1 a.1.2.1 a.1.2.2.2.2.2.1 a.1.2.2.2.2.2.2 - a.1.2.2.2.2.2.2 (a.1.2.2.2.2.2.1 x1) + a.1.2.2.2.2.2.2 x7) a.1.2.2.1 = gmv a x1 x7 := by
        unfold gmv
        rw [if_pos (show 0 ≤ x7 by omega)]
        rfl
      refine C_apart (by show zR (gshows a.1 - a.1.2.2.2.2.2.2 (a.1.2.2.2.2.2.1 x1) + a.1.2.2.2.2.2.2 x7 - a.1.2.2.1); unfold zR; omega) ?_
      rw [em]
      refine ⟨by unfold zR; omega, z1, fun c3 => ?_, fun c3 => ?_⟩
      · have := ih' (some (.inl (gmv a x1 x7)))
        rw [if_neg (fun x => by have := x.2; omega)] at this
        exact this
      · have := ih' (some (.inl (gmv a x1 x7)))
        rw [if_pos ⟨ge, by omega⟩] at this
        exact this
    refine w139_58 ⟨by unfold zR; omega, by unfold zR; omega, fun c => by omega, fun y => ⟨by unfold zR; omega, by unfold zR; omega, fun c3 => body ?_, fun c3 => F_room1 A wx (frs.refl _ _) (by unfold zR; omega) (fun r => ⟨by decide, fun q => absurd q (by decide), fun _ => body ?_⟩) (fun r => ⟨by decide, fun _ => ?_, fun q => absurd rfl q⟩)⟩⟩
    · unfold gel
      rw [decide_eq_true c3]; rfl
    · unfold gel
      rw [r, Bool.or_true]
    · have := ih' o8
      rw [if_neg (fun x => by
        have x1 := x.1
        unfold gel at x1
        rw [decide_eq_false c3] at x1
        exact r x1)] at this
      exact this
theorem Y_bestWire {x1 x2 : Int} (A : RX Z a) (wx : WX a) (h1 : zR x1) (h2 : zR x2) : TI (d + 3) 236 [.inr 100, .inl x1, .inl x2] Z (PostR Z (oq a (geith (gin a.1.1 x1) (gunk x2 1)) (vBestWire a x1 x2))) := by
  have m := QS.refl A
  have hn : 0 ≤ a.1.1 ∧ a.1.1 ≤ 8 := wx.1.1.1
  have hW : 5 ≤ a.1.2.1 ∧ a.1.2.1 ≤ 6 := wx.1.1.2.1
  have e6 := m.now.2.1
  refine w236_0 (R_isBird m.now.1 (by unfold zR; omega) h1 (fun i => ⟨by decide, fun _ => R_isIn h2 (by decide) (by decide) (fun j => ?_) (fun j => ⟨by decide, fun e => absurd rfl e, fun _ => G_no m wx (by rw [ge0 (gin_0.mpr i), gu2 j]) (by decide)⟩), fun e => absurd (show (1 : Int) ≠ 0 by decide) e⟩) (fun i => ⟨by decide, fun e => absurd rfl e, fun _ => G_no m wx (by rw [gi1 i]; rfl) (by decide)⟩))
  have hc : geith (gin a.1.1 x1) (gunk x2 1) = 0 := geith_0.mpr ⟨gin_0.mpr i, gunk_0.mpr j⟩
  have p := (wx.1.1.2.2.2.1 x1 i.1 i.2).2.2
  have es : Z 105 x1 = a.1.2.2.2.2.2.1 x1 := (m.1.1.2.2.2.1 x1 i.1 i.2).2.2
  have ok := G_ok (v := vBestWire a x1 x2) m hc
  unfold vBestWire at ok ⊢
  refine ⟨by decide, fun _ => ⟨h2, fun q => ⟨by omega, ?_⟩, fun q => G_235 m wx i (by decide) ?_⟩, fun e => absurd (show (1 : Int) ≠ 0 by decide) e⟩
  rotate_left
  · rw [if_pos (by omega)] at ok ⊢; exact ok
  rw [if_neg q] at ok ⊢
  rw [e6, es]
  suffices H : ∀ (f : Nat) (x4 x5 : Int), f = (x5 + 1).toNat → -1 ≤ x5 → x5 < a.1.2.1 → 0 ≤ x4 → x4 < a.1.2.1 → isBest a x1 (x5 + 1) a.1.2.1 x4 → gmv a x1 x4 ≤ gmv a x1 (a.1.2.2.2.2.2.1 x1) → TZ (d + 3) 236 66 [some (.inr 100), some (.inl x1), some (.inl x2), some (.inl 0), some (.inl x4), some (.inl x5)] [] Z (zri (PostR Z (oq a (geith (gin a.1.1 x1) (gunk x2 1)) (gbw a x1 a.1.2.1.toNat).2))) from H _ _ _ rfl (by omega) (by omega) p.1 p.2 ⟨gel_own, fun w w1 w2 => by omega⟩ (Int.le_refl _)
  intro f
  induction f with
  | zero =>
    intro x4 x5 ef y1 y2 y3 y4 ib io
    refine w236_66 ⟨by unfold zR; omega, fun _ => ?_, fun c => absurd (show x5 < 0 by omega) c⟩
    rw [show x5 + 1 = 0 by omega] at ib
    rw [gbw_best wx i ib ⟨y3, y4⟩]; exact ok
  | succ f ih =>
    intro x4 x5 ef y1 y2 y3 y4 ib io
    have mb := @gmv_b a x1 x5
    have mb4 := @gmv_b a x1 x4
    have nx : ∀ x4, 0 ≤ x4 → x4 < a.1.2.1 → isBest a x1 x5 a.1.2.1 x4 → gmv a x1 x4 ≤ gmv a x1 (a.1.2.2.2.2.2.1 x1) → TZ (d + 3) 236 66 [some (.inr 100), some (.inl x1), some (.inl x2), some (.inl 0), some (.inl x4), some (.inl (x5 + (-1)))] [] Z (zri (PostR Z (oq a (geith (gin a.1.1 x1) (gunk x2 1)) (gbw a x1 a.1.2.1.toNat).2))) := fun x4 q1 q2 q3 q4 => ih x4 _ (by omega) (by omega) (by omega) q1 q2 (by rw [show x5 + -1 + 1 = x5 by omega]; exact q3) q4
    have stay : (gel a x1 x5 = true → gmv a x1 x4 < gmv a x1 x5) → isBest a x1 x5 a.1.2.1 x4 := fun h => ⟨ib.1, fun w w1 w2 w3 => by
      by_cases e : w = x5
      · rw [e] at w3 ⊢
        have := h w3
        omega
      · exact ib.2 w (by omega) w2 w3⟩
    have take : gel a x1 x5 = true → gmv a x1 x5 ≤ gmv a x1 x4 → isBest a x1 x5 a.1.2.1 x5 := fun g h => ⟨g, fun w w1 w2 w3 => by
      by_cases e : w = x5
      · rw [e]; exact ⟨Int.le_refl _, fun _ => Int.le_refl _⟩
      · have := ib.2 w (by omega) w2 w3
        omega⟩
    have both : gel a x1 x5 = true → TI (d + 2) 235 [.inr 100, .inl x1, .inl x5] Z (fun r8 Z7 => TI (d + 2) 235 [.inr 100, .inl x1, .inl x4] Z7 (fun r10 Z9 => zR r8 ∧ zR r10 ∧ (r10 < r8 → TZ (d + 3) 236 66 [some (.inr 100), some (.inl x1), some (.inl x2), some (.inl 0), some (.inl x4), some (.inl (x5 + (-1)))] [] Z9 (zri (PostR Z (oq a (geith (gin a.1.1 x1) (gunk x2 1)) (gbw a x1 a.1.2.1.toNat).2)))) ∧ (¬ r10 < r8 → TZ (d + 3) 236 66 [some (.inr 100), some (.inl x1), some (.inl x2), some (.inl 0), some (.inl x5), some (.inl (x5 + (-1)))] [] Z9 (zri (PostR Z (oq a (geith (gin a.1.1 x1) (gunk x2 1)) (gbw a x1 a.1.2.1.toNat).2)))))) := fun g =>
      G_235 m wx i (by omega) (G_235 m wx i (by omega) ⟨by unfold zR; omega, by unfold zR; omega, fun c => nx _ y3 y4 (stay fun _ => c) io, fun c => nx _ (by omega) (by omega) (take g (by omega)) (by omega)⟩)
    refine w236_66 ⟨by unfold zR; omega, fun c => by omega, fun c => ⟨by omega, by unfold zR; omega, by rw [es]; unfold zR; omega, fun c2 => both ?_, fun c2 => R_room (n := a.1.1) (W := a.1.2.1) (h := a.1.2.2.1) (K := a.1.2.2.2.1) (F := a.1.2.2.2.2.1) (P := a.1.2.2.2.2.2.1) (T := a.1.2.2.2.2.2.2) m.1.1 (WF.pb wx.1.1) (by unfold zR; omega) (fun r => ⟨by decide, fun e => absurd e (by decide), fun _ => both ?_⟩) (fun r => ⟨by decide, fun _ => nx _ y3 y4 (stay fun g => ?_) io, fun e => absurd rfl e⟩)⟩⟩
    · rw [es] at c2
      unfold gel
      rw [decide_eq_true c2]; rfl
    · unfold gel
      rw [roomb_iff.mpr ⟨by omega, y2, r⟩, Bool.or_true]
    · unfold gel at g
      rw [es] at c2
      rw [decide_eq_false c2] at g
      exact absurd (roomb_iff.mp g).2.2 r
end
