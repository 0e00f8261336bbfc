/-! LOOKS with their very answers: read -/
def gs (f : Int → Int) : Nat → Int
  | 0 => 0
  | m + 1 => gs f m + f m
theorem gs_congr {f g : Int → Int} : ∀ m : Nat, (∀ i : Int, 0 ≤ i → i < m → f i = g i) → gs f m = gs g m
  | 0, _ => rfl
  | m + 1, h => by
    unfold gs
    rw [gs_congr m (fun i h1 h2 => h i h1 (by omega)), h m (by omega) (by omega)]
theorem gs_up {f G : Int → Int} {t v : Int} : ∀ m : Nat, gs (fun i => (if i = t then f t + v else f i) * G i) m = gs (fun i => f i * G i) m + (if 0 ≤ t ∧ t < m then v * G t else 0)
  | 0 => by
    rw [if_neg (by omega)]; rfl
  | m + 1 => by
    have ih := gs_up (f := f) (G := G) (t := t) (v := v) m
    show gs (fun i => (if i = t then f t + v else f i) * G i) m + (if (m : Int) = t then f t + v else f m) * G m = gs (fun i => f i * G i) m + f m * G m + _
    rw [ih]
    by_cases e : (m : Int) = t
    · rw [if_pos e, if_neg (by omega), if_pos (by omega), ← e, Int.add_mul]; omega
    · rw [if_neg e]
      by_cases c : 0 ≤ t ∧ t < m
      · rw [if_pos c, if_pos (by omega)]; omega
      · rw [if_neg c, if_neg (by omega)]; omega
theorem gs_one {f : Int → Int} {t : Int} : ∀ m : Nat, gs (fun i => f i * (if i = t then 1 else 0)) m = if 0 ≤ t ∧ t < m then f t else 0
  | 0 => by rw [if_neg (by omega)]; rfl
  | m + 1 => by
    have ih := gs_one (f := f) (t := t) m
    show gs (fun i => f i * (if i = t then 1 else 0)) m + f m * (if (m : Int) = t then 1 else 0) = _
    rw [ih]
    by_cases e : (m : Int) = t
    · rw [if_neg (by omega), if_pos e, if_pos (by omega), e, Int.mul_one, Int.zero_add]
    · rw [if_neg e, Int.mul_zero, Int.add_zero]
      by_cases c : 0 ≤ t ∧ t < m
      · rw [if_pos c, if_pos (by omega)]
      · rw [if_neg c, if_neg (by omega)]
theorem gs_0 {f : Int → Int} : ∀ m : Nat, (∀ i : Int, 0 ≤ i → i < m → f i = 0) → gs f m = 0
  | 0, _ => rfl
  | m + 1, h => by
    unfold gs
    rw [gs_0 m (fun i h1 h2 => h i h1 (by omega)), h m (by omega) (by omega)]; rfl
/-- in how many ways l birds sit on r wires from w on, so that with x in all h is shown -/
def gway (T : Int → Int) (h : Int) : Nat → Int → Int → Int → Int
  | 0, _, l, x => if l = 0 ∧ x % 12 = h then 1 else 0
  | r + 1, w, l, x => gs (fun on => if on ≤ l then gway T h r (w + 1) (l - on) (x + on * T w) else 0) 5
theorem gway_m {T : Int → Int} {h : Int} : ∀ (r : Nat) (w l x y : Int), x % 12 = y % 12 → gway T h r w l x = gway T h r w l y
  | 0, w, l, x, y, e => by unfold gway; rw [e]
  | r + 1, w, l, x, y, e => by
    unfold gway
    refine gs_congr 5 fun i h1 h2 => ?_
    rw [gway_m r (w + 1) (l - i) (x + i * T w) (y + i * T w) (by omega)]
theorem gway_n {T : Int → Int} {h : Int} : ∀ (r : Nat) (w l x : Int), l < 0 → gway T h r w l x = 0
  | 0, w, l, x, e => by unfold gway; rw [if_neg (by omega)]
  | r + 1, w, l, x, e => by
    unfold gway
    exact gs_0 5 fun i h1 h2 => by rw [if_neg (by omega)]
theorem gs_bd {f : Int → Int} {c : Int} : ∀ m : Nat, (∀ i : Int, 0 ≤ i → i < m → 0 ≤ f i ∧ f i ≤ c) → 0 ≤ gs f m ∧ gs f m ≤ m * c
  | 0, _ => by unfold gs; omega
  | m + 1, h => by
    have ih := gs_bd m (fun i h1 h2 => h i h1 (by omega))
    have := h m (by omega) (by omega)
    have e : ((m + 1 : Nat) : Int) * c = m * c + c := by
      rw [show ((m + 1 : Nat) : Int) = (m : Int) + 1 by omega, Int.add_mul, Int.one_mul]
    unfold gs
    omega
theorem gway_b {T : Int → Int} {h : Int} : ∀ (r : Nat) (w l x : Int), 0 ≤ gway T h r w l x ∧ gway T h r w l x ≤ (5 ^ r : Nat)
  | 0, w, l, x => by unfold gway; split <;> decide
  | r + 1, w, l, x => by
    have p0 : (0 : Int) ≤ ((5 ^ r : Nat) : Int) := Int.natCast_nonneg _
    have b := gs_bd (c := ((5 ^ r : Nat) : Int)) (f := fun on => if on ≤ l then gway T h r (w + 1) (l - on) (x + on * T w) else 0) 5 (fun i h1 h2 => by
      split
      · exact gway_b r (w + 1) (l - i) (x + i * T w)
      · omega)
    unfold gway
    have e : (5 ^ (r + 1) : Nat) = 5 ^ r * 5 := Nat.pow_succ _ _
    omega
def grw (a : gX) (h : Int) : Int := gway a.1.2.2.2.2.2.2 h a.1.2.1.toNat 0 a.1.1 0
def grb (a : gX) : Nat → Int
  | 0 => 0
  | m + 1 => if grw a m ≤ 0 then grb a m else zbit 4 (grb a m) (zbit 6 1 m)
def vRead (a : gX) (x1 : Int) : Int := if x1 = 0 then grw a (gshows a.1) else grb a 12
theorem grb_r {a : gX} : ∀ m : Nat, zR (grb a m)
  | 0 => by unfold grb; decide
  | m + 1 => by
    unfold grb
    split
    · exact grb_r m
    · exact zbit_r _ _ _
theorem grw_b {a : gX} (wx : WX a) {h : Int} : 0 ≤ grw a h ∧ grw a h ≤ 15625 := by
  have b := gway_b (T := a.1.2.2.2.2.2.2) (h := h) a.1.2.1.toNat 0 a.1.1 0
  have hW : 5 ≤ a.1.2.1 ∧ a.1.2.1 ≤ 6 := wx.1.1.2.1
  have p : (5 ^ a.1.2.1.toNat : Nat) ≤ 5 ^ 6 := Nat.pow_le_pow_right (by decide) (by omega)
  have p6 : (5 ^ 6 : Nat) = 15625 := by decide
  unfold grw
  omega
theorem zor_z {x : Int} (h : zR x) : zbit 4 x 0 = x := zb_ext (zbit_r _ _ _) h fun i _ => by rw [zb_or, zb_0, Bool.or_false]
section
variable {d : Nat} {Z Z1 Z2 : zM} {a : gX} {s : gS} {i : Int}
theorem F_tally {W : Int} {T : Int → Int} (hW : 5 ≤ W ∧ W ≤ 6) (tb : ∀ w, 0 ≤ w → w < 6 → 0 ≤ T w ∧ T w ≤ 11) : ∀ (r : Nat) {Z1 : zM} {x1 x2 x3 : Int} {Q : zM → Prop}, Z1 1 6 = W → (∀ w, 0 ≤ w → w < 6 → Z1 6 w = T w) → r = (W - x1).toNat → 0 ≤ x1 → x1 ≤ W → 0 ≤ x2 → x2 ≤ 8 → 0 ≤ x3 → x3 ≤ 44 * x1 → (∀ Z', (∀ q, q ≠ 44 → Z' q = Z1 q) → (∀ h, 0 ≤ h → h < 12 → Z' 44 h = Z1 44 h + gway T h r x1 x2 x3) → Q Z') → TV (d + r + 1) 136 [.inr 1, .inl x1, .inl x2, .inl x3, .inr 44] Z1 Q := by
  intro r
  induction r with
  | zero =>
    intro Z1 x1 x2 x3 Q e6 e7 er h2 h3 h4 h5 h6 h7 hQ
    refine w136_0 ⟨by unfold zR; omega, by unfold zR; omega, fun y => by omega, fun _ => ⟨by unfold zR; omega, fun c => hQ Z1 (fun _ _ => rfl) fun h _ _ => ?_, fun c => C_fmod (by unfold zR; omega) ⟨by omega, by omega, fun Z2 z2 => hQ Z2 (fun q hq => by subst z2; funext p; exact zup_cell _ _ _ _ hq) fun h g1 g2 => ?_⟩⟩⟩
    · unfold gway
      rw [if_neg (fun x => c x.1)]; omega
    · rw [z2]
      unfold gway
      by_cases e : h = x3 % 12
      · rw [e, zup_same, if_pos ⟨by omega, rfl⟩]
      · rw [zup_place _ _ _ _ e, if_neg (fun x => e x.2.symm)]; omega
  | succ r ih =>
    intro Z1 x1 x2 x3 Q e6 e7 er h2 h3 h4 h5 h6 h7 hQ
    refine w136_0 ⟨by unfold zR; omega, by unfold zR; omega, fun y => ?_, fun y => by omega⟩
    suffices H : ∀ (g m : Nat) (x5 : Int) (Z2 : zM), x5 = m → g = 5 - m → x5 ≤ min x2 4 + 1 → (∀ q, q ≠ 44 → Z2 q = Z1 q) → (∀ h, 0 ≤ h → h < 12 → Z2 44 h = Z1 44 h + gs (fun on => if on ≤ x2 then gway T h r (x1 + 1) (x2 - on) (x3 + on * T x1) else 0) m) → TZ (d + r + 1 + 1) 136 29 [some (.inr 1), some (.inl x1), some (.inl x2), some (.inl x3), some (.inr 44), some (.inl x5)] [] Z2 (zrv Q) from H 5 0 0 Z1 rfl rfl (by omega) (fun _ _ => rfl) (fun h _ _ => by show _ = _ + 0; omega)
    intro g
    have fin : ∀ (m : Nat) (Z2 : zM), ((m : Int) = min x2 4 + 1) → m ≤ 5 → (∀ q, q ≠ 44 → Z2 q = Z1 q) → (∀ h, 0 ≤ h → h < 12 → Z2 44 h = Z1 44 h + gs (fun on => if on ≤ x2 then gway T h r (x1 + 1) (x2 - on) (x3 + on * T x1) else 0) m) → Q Z2 := by
      intro m Z2 em m5 f2 g2
      refine hQ Z2 f2 fun h z1 z2 => ?_
      rw [g2 h z1 z2]
      show _ = _ + gs (fun on => if on ≤ x2 then gway T h r (x1 + 1) (x2 - on) (x3 + on * T x1) else 0) 5
      have more : ∀ k : Nat, gs (fun on => if on ≤ x2 then gway T h r (x1 + 1) (x2 - on) (x3 + on * T x1) else 0) (m + k) = gs (fun on => if on ≤ x2 then gway T h r (x1 + 1) (x2 - on) (x3 + on * T x1) else 0) m ∨ 5 < m + k := by
        intro k
        induction k with
        | zero => exact Or.inl rfl
        | succ k ihk =>
          by_cases c5 : 5 < m + (k + 1)
          · exact Or.inr c5
          · refine Or.inl ?_
            have e : gs (fun on => if on ≤ x2 then gway T h r (x1 + 1) (x2 - on) (x3 + on * T x1) else 0) (m + (k + 1)) = gs (fun on => if on ≤ x2 then gway T h r (x1 + 1) (x2 - on) (x3 + on * T x1) else 0) (m + k) + (if ((m + k : Nat) : Int) ≤ x2 then gway T h r (x1 + 1) (x2 - ((m + k : Nat) : Int)) (x3 + ((m + k : Nat) : Int) * T x1) else 0) := rfl
            rw [e, if_neg (by omega), Int.add_zero]
            rcases ihk with i | i
            · exact i
            · omega
      rcases more (5 - m) with e | e
      · rw [show m + (5 - m) = 5 by omega] at e; rw [e]
      · omega
    induction g with
    | zero =>
      intro m x5 Z2 e y1 y2 f2 g2
      exact w136_29 ⟨by unfold zR; omega, by unfold zR; omega, by unfold zR; omega, fun _ => fin m Z2 (by omega) (by omega) f2 g2, fun z => absurd (show min x2 4 < x5 by omega) z⟩
    | succ g ihg =>
      intro m x5 Z2 e y1 y2 f2 g2
      refine w136_29 ⟨by unfold zR; omega, by unfold zR; omega, by unfold zR; omega, fun z => fin m Z2 (by omega) (by omega) f2 g2, fun z => ⟨by omega, ?_⟩⟩
      have t := tb x1 h2 (by omega)
      have mm := mulb (x := x5) (y := T x1) (a := 4) (b := 11) (by omega) (by omega) t.1 t.2
      have e72 : Z2 6 x1 = T x1 := by rw [f2 6 (by decide)]; exact e7 x1 h2 (by omega)
      rw [e72]
      refine ih (by rw [f2 1 (by decide)]; exact e6) (fun w w1 w2 => by rw [f2 6 (by decide)]; exact e7 w w1 w2) (by omega) (by omega) (by omega) (by omega) (by omega) (by omega) (by omega) fun Z3 f3 g3 => ihg (m + 1) _ Z3 (by omega) (by omega) (by omega) (fun q hq => by rw [f3 q hq, f2 q hq]) fun h z1 z2 => ?_
      rw [g3 h z1 z2, g2 h z1 z2]
      have e1 : gs (fun on => if on ≤ x2 then gway T h r (x1 + 1) (x2 - on) (x3 + on * T x1) else 0) (m + 1) = gs (fun on => if on ≤ x2 then gway T h r (x1 + 1) (x2 - on) (x3 + on * T x1) else 0) m + (if (m : Int) ≤ x2 then gway T h r (x1 + 1) (x2 - (m : Int)) (x3 + (m : Int) * T x1) else 0) := rfl
      rw [e1, if_pos (by omega), e]
      omega
theorem X_read {x1 : Int} (A : CX Z a) (wx : WX a) (h1 : zR x1) : TI (d + 8) 135 [.inr 0, .inl x1] Z (PostC Z (oq a (gunk x1 1) (vRead a x1))) := by
  have hW : 5 ≤ a.1.2.1 ∧ a.1.2.1 ≤ 6 := wx.1.1.2.1
  have hn : 0 ≤ a.1.1 ∧ a.1.1 ≤ 8 := wx.1.1.1
  refine w135_0 (C_unknown h1 (by decide) ⟨zR9 gb2, fun c => ?_, fun c => C_refuse (by have := @gb2 x1 1; omega) (PRq A c gb2)⟩)
  refine F_fill44 fun Z2 f2 g2 => ?_
  have q2 : frs SQ Z Z2 := fun q hq => f2 q (SQ44 hq)
  have e5 := (now6 A q2).2.1
  have e6 := (now6 A q2).1
  rw [e5]
  have key : ∀ {Q : zM → Prop}, (∀ Z3, frs SQ Z Z3 → (∀ h, 0 ≤ h → h < 12 → Z3 44 h = grw a h) → Q Z3) → TV (d + 7) 136 [.inr 1, .inl 0, .inl a.1.1, .inl 0, .inr 44] Z2 Q := by
    intro Q hQ
    have go : ∀ (d' : Nat), TV (d' + a.1.2.1.toNat + 1) 136 [.inr 1, .inl 0, .inl a.1.1, .inl 0, .inr 44] Z2 Q := fun d' => F_tally hW wx.1.1.2.2.2.2 a.1.2.1.toNat e6 (fun w w1 w2 => (nowW A q2 ⟨w1, w2⟩).1) (by omega) (by decide) (by omega) hn.1 hn.2 (by decide) (by decide) fun Z3 f3 g3 => hQ Z3 (fun q hq => by rw [f3 q (SQ44 hq), q2 q hq]) fun h z1 z2 => by
      rw [g3 h z1 z2, g2 h z1 z2, Int.zero_add]; rfl
    have := go (d + 6 - a.1.2.1.toNat)
    rw [show d + 6 - a.1.2.1.toNat + a.1.2.1.toNat + 1 = d + 7 by omega] at this
    exact this
  refine key fun Z3 q3 g3 => ⟨h1, fun e => ?_, fun e => ?_⟩
  · have ok := PQ (v := vRead a x1) A c q3
    unfold vRead at ok ⊢
    rw [if_neg e] at ok ⊢
    suffices H : ∀ (f m : Nat) (x4 : Int), x4 = m → f = 12 - m → m ≤ 12 → TZ (d + 7 + 1) 135 66 [some (.inr 0), some (.inl x1), some (.inl (gunk x1 1)), some (.inl (grb a m)), some (.inl x4)] [] Z3 (zri (PostC Z (oq a (gunk x1 1) (grb a 12)))) from H 12 0 0 rfl rfl (by decide)
    intro f
    induction f with
    | zero =>
      intro m x4 em y1 y2
      have e12 : m = 12 := by omega
      subst e12
      exact w135_66 ⟨by unfold zR; omega, fun _ => ok, fun y => absurd (show 12 ≤ x4 by omega) y⟩
    | succ f ih =>
      intro m x4 em y1 y2
      have v := g3 x4 (by omega) (by omega)
      have b := @grw_b a wx x4
      have st : grb a (m + 1) = if grw a m ≤ 0 then grb a m else zbit 4 (grb a m) (zbit 6 1 m) := rfl
      rw [← em] at st
      have ih' := ih (m + 1) (x4 + 1) (by omega) (by omega) (by omega)
      rw [st] at ih'
      refine w135_66 ⟨by unfold zR; omega, fun y => by omega, fun _ => ⟨by omega, ?_⟩⟩
      rw [v]
      refine ⟨by unfold zR; omega, fun q => ?_, fun q => ?_⟩
      · rw [if_pos q] at ih'; exact ih'
      · rw [if_neg q] at ih'; exact ih'
  · have ok := PQ (v := vRead a x1) A c q3
    unfold vRead at ok ⊢
    rw [if_pos (by omega)] at ok ⊢
    have sb : 0 ≤ gshows a.1 ∧ gshows a.1 < 12 := gshow_b wx.1.1
    refine C_shows (n := a.1.1) (W := a.1.2.1) (h := a.1.2.2.1) (K := a.1.2.2.2.1) (F := a.1.2.2.2.2.1) (P := a.1.2.2.2.2.2.1) (T := a.1.2.2.2.2.2.2) zF1 (CFf (k := 0) A.1 q3) wx.1.1 ⟨sb, ?_⟩
    show PostC Z _ (Z3 44 (gshows a.1)) Z3
    rw [g3 _ sb.1 sb.2]; exact ok
/-- the ways so far, weighed by how they can go on -/
def gG (a : gX) (h k i : Int) : Int := gway a.1.2.2.2.2.2.2 h (a.1.2.1 - k).toNat k (a.1.1 - i / 12) (i % 12)
theorem gG_s {h k i : Int} (hk : 0 ≤ k ∧ k < a.1.2.1) : gG a h k i = gs (fun on => if on ≤ a.1.1 - i / 12 then gG a h (k + 1) (12 * (i / 12 + on) + (i % 12 + on * a.1.2.2.2.2.2.2 k) % 12) else 0) 5 := by
  unfold gG
  rw [show (a.1.2.1 - k).toNat = (a.1.2.1 - (k + 1)).toNat + 1 by omega]
  show gs (fun on => if on ≤ a.1.1 - i / 12 then gway a.1.2.2.2.2.2.2 h (a.1.2.1 - (k + 1)).toNat (k + 1) (a.1.1 - i / 12 - on) (i % 12 + on * a.1.2.2.2.2.2.2 k) else 0) 5 = _
  refine gs_congr 5 fun on _ _ => ?_
  split
  · rw [show a.1.1 - (12 * (i / 12 + on) + (i % 12 + on * a.1.2.2.2.2.2.2 k) % 12) / 12 = a.1.1 - i / 12 - on by omega]
    exact gway_m _ _ _ _ _ (by omega)
  · rfl
theorem gG_n {h k i : Int} (hi : a.1.1 < i / 12) : gG a h k i = 0 := gway_n _ _ _ _ (by omega)
theorem G_sits {Q : zM → Prop} (m : QS Z Z1 a) (wx : WX a) (hQ : ∀ Z2, QS Z Z2 a → (∀ h, 0 ≤ h → h < 12 → Z2 118 (12 * a.1.1 + h) = grw a h) → Q Z2) : TV d 232 [.inr 100] Z1 Q := by
  have hW : 5 ≤ a.1.2.1 ∧ a.1.2.1 ≤ 6 := wx.1.1.2.1
  have hn : 0 ≤ a.1.1 ∧ a.1.1 ≤ 8 := wx.1.1.1
  have tb := wx.1.1.2.2.2.2
  refine w232_0 ?_
  -- the main loop, wire by wire
  have main : ∀ (f k : Nat) (x1 : Int) (o2 o3 : Option zV) (Z1 : zM), x1 = k → f = a.1.2.1.toNat - k → x1 ≤ a.1.2.1 → QS Z Z1 a → (∀ h, 0 ≤ h → h < 12 → gs (fun i => Z1 118 i * gG a h k i) 108 = grw a h) → TZ d 232 31 [some (.inr 100), some (.inl x1), o2, o3] [] Z1 (zrv Q) := by
    intro f
    induction f with
    | zero =>
      intro k x1 o2 o3 Z1 e y1 y2 l hv
      have e6 := l.now.2.1
      refine w232_31 ⟨by unfold zR; omega, by unfold zR; omega, fun _ => hQ Z1 l fun h h1 h2 => ?_, fun c => absurd (show Z1 100 6 ≤ x1 by omega) c⟩
      have v := hv h h1 h2
      rw [← v]
      have e2 : gs (fun i => Z1 118 i * gG a h k i) 108 = gs (fun i => Z1 118 i * (if i = 12 * a.1.1 + h then 1 else 0)) 108 := gs_congr 108 fun i i1 i2 => by
        have : gG a h k i = if i = 12 * a.1.1 + h then 1 else 0 := by
          unfold gG
          rw [show (a.1.2.1 - (k : Int)).toNat = 0 by omega]
          unfold gway
          by_cases c : i = 12 * a.1.1 + h
          · rw [if_pos c, if_pos (by omega)]
          · rw [if_neg c, if_neg (by omega)]
        rw [this]
      rw [e2, gs_one, if_pos (by omega)]
    | succ f ih =>
      intro k x1 o2 o3 Z1 e y1 y2 l hv
      have e6 := l.now.2.1
      have hk : 0 ≤ (k : Int) ∧ (k : Int) < a.1.2.1 := by omega
      have tk := tb (k : Int) (by omega) (by omega)
      refine w232_31 ⟨by unfold zR; omega, by unfold zR; omega, fun c => by omega, fun _ => ?_⟩
      -- copied back
      have back : ∀ (g : Nat) (x2 : Int) (o3 : Option zV) (Z3 : zM), g = (108 - x2).toNat → 0 ≤ x2 → x2 ≤ 108 → QS Z Z3 a → (∀ i, 0 ≤ i → i < x2 → Z3 118 i = Z3 119 i) → (∀ h, 0 ≤ h → h < 12 → gs (fun i => Z3 119 i * gG a h (k + 1) i) 108 = grw a h) → TZ d 232 142 [some (.inr 100), some (.inl x1), some (.inl x2), o3] [] Z3 (zrv Q) := by
        intro g
        induction g with
        | zero =>
          intro x2 o3 Z3 eg z1 z2 l3 cp hv3
          refine w232_142 ⟨by unfold zR; omega, fun _ => ih (k + 1) _ _ _ Z3 (by omega) (by omega) (by omega) l3 fun h h1 h2 => ?_, fun c => absurd (show 108 ≤ x2 by omega) c⟩
          rw [← hv3 h h1 h2, show ((k + 1 : Nat) : Int) = (k : Int) + 1 by omega]
          exact gs_congr 108 fun i i1 i2 => by rw [cp i i1 (by omega)]
        | succ g ihg =>
          intro x2 o3 Z3 eg z1 z2 l3 cp hv3
          refine w232_142 ⟨by unfold zR; omega, fun c => by omega, fun _ => ⟨by omega, by omega, fun Z5 e5 => ?_⟩⟩
          have q119 : Z5 119 = Z3 119 := by rw [e5]; funext p; exact zup_cell _ _ _ _ (by decide)
          refine ihg _ _ Z5 (by omega) (by omega) (by omega) (by subst e5; exact l3.up wx (by unfold scq; omega)) (fun i i1 i2 => ?_) (by rw [q119]; exact hv3)
          rw [q119, e5]
          by_cases ei : i = x2
          · rw [ei, zup_same]
          · rw [zup_place _ _ _ _ ei]; exact cp i i1 (by omega)
      -- all pushed on
      have push : ∀ (g : Nat) (x2 : Int) (o3 : Option zV) (Z3 : zM), g = (108 - x2).toNat → 0 ≤ x2 → x2 ≤ 108 → QS Z Z3 a → (∀ i, 0 ≤ i → i < 108 → Z3 118 i = Z1 118 i) → (∀ h, 0 ≤ h → h < 12 → gs (fun i => Z3 119 i * gG a h (k + 1) i) 108 = gs (fun i => Z1 118 i * gG a h k i) x2.toNat) → TZ d 232 62 [some (.inr 100), some (.inl x1), some (.inl x2), o3] [] Z3 (zrv Q) := by
        intro g
        induction g with
        | zero =>
          intro x2 o3 Z3 eg z1 z2 l3 cp hv3
          refine w232_62 ⟨by unfold zR; omega, fun _ => back 108 0 o3 Z3 rfl (by decide) (by decide) l3 (fun i i1 i2 => by omega) (fun h h1 h2 => ?_), fun c => absurd (show 108 ≤ x2 by omega) c⟩
          rw [hv3 h h1 h2, show x2.toNat = 108 by omega]
          exact hv h h1 h2
        | succ g ihg =>
          intro x2 o3 Z3 eg z1 z2 l3 cp hv3
          refine w232_62 ⟨by unfold zR; omega, fun c => by omega, fun _ => ?_⟩
          have t1 : Int.tdiv x2 12 = x2 / 12 := Int.tdiv_eq_ediv_of_nonneg z1
          have t2 : Int.tmod x2 12 = x2 % 12 := Int.tmod_eq_emod_of_nonneg z1
          suffices H : ∀ (j m : Nat) (x3 : Int) (Z4 : zM), x3 = m → j = 5 - m → m ≤ 5 → QS Z Z4 a → (∀ i, 0 ≤ i → i < 108 → Z4 118 i = Z1 118 i) → (∀ h, 0 ≤ h → h < 12 → gs (fun i => Z4 119 i * gG a h (k + 1) i) 108 = gs (fun i => Z1 118 i * gG a h k i) x2.toNat + Z1 118 x2 * gs (fun on => if on ≤ a.1.1 - x2 / 12 then gG a h (k + 1) (12 * (x2 / 12 + on) + (x2 % 12 + on * a.1.2.2.2.2.2.2 k) % 12) else 0) m) → TZ d 232 70 [some (.inr 100), some (.inl x1), some (.inl x2), some (.inl x3)] [] Z4 (zrv Q) from H 5 0 0 Z3 rfl rfl (by decide) l3 cp (fun h h1 h2 => by rw [hv3 h h1 h2]; show _ = _ + Z1 118 x2 * 0; omega)
          intro j
          -- on to the next, m of the five done, no more of them can come
          have next : ∀ (m : Nat) (x3 : Int) (Z4 : zM), m ≤ 5 → (m = 5 ∨ a.1.1 - x2 / 12 < m) → QS Z Z4 a → (∀ i, 0 ≤ i → i < 108 → Z4 118 i = Z1 118 i) → (∀ h, 0 ≤ h → h < 12 → gs (fun i => Z4 119 i * gG a h (k + 1) i) 108 = gs (fun i => Z1 118 i * gG a h k i) x2.toNat + Z1 118 x2 * gs (fun on => if on ≤ a.1.1 - x2 / 12 then gG a h (k + 1) (12 * (x2 / 12 + on) + (x2 % 12 + on * a.1.2.2.2.2.2.2 k) % 12) else 0) m) → TZ d 232 62 [some (.inr 100), some (.inl x1), some (.inl (x2 + 1)), some (.inl x3)] [] Z4 (zrv Q) := by
            intro m x3 Z4 m5 mm l4 cp4 hv4
            refine ihg _ _ Z4 (by omega) (by omega) (by omega) l4 cp4 fun h h1 h2 => ?_
            rw [hv4 h h1 h2, show (x2 + 1).toNat = x2.toNat + 1 by omega]
            show _ = gs (fun i => Z1 118 i * gG a h k i) x2.toNat + Z1 118 ((x2.toNat : Nat) : Int) * gG a h k ((x2.toNat : Nat) : Int)
            rw [show ((x2.toNat : Nat) : Int) = x2 by omega, gG_s (i := x2) hk]
            have more : ∀ q : Nat, m + q ≤ 5 → gs (fun on => if on ≤ a.1.1 - x2 / 12 then gG a h (k + 1) (12 * (x2 / 12 + on) + (x2 % 12 + on * a.1.2.2.2.2.2.2 k) % 12) else 0) (m + q) = gs (fun on => if on ≤ a.1.1 - x2 / 12 then gG a h (k + 1) (12 * (x2 / 12 + on) + (x2 % 12 + on * a.1.2.2.2.2.2.2 k) % 12) else 0) m := by
              intro q
              induction q with
              | zero => intro _; rfl
              | succ q ihq =>
                intro hq
                have e : gs (fun on => if on ≤ a.1.1 - x2 / 12 then gG a h (k + 1) (12 * (x2 / 12 + on) + (x2 % 12 + on * a.1.2.2.2.2.2.2 k) % 12) else 0) (m + (q + 1)) = gs (fun on => if on ≤ a.1.1 - x2 / 12 then gG a h (k + 1) (12 * (x2 / 12 + on) + (x2 % 12 + on * a.1.2.2.2.2.2.2 k) % 12) else 0) (m + q) + (if ((m + q : Nat) : Int) ≤ a.1.1 - x2 / 12 then gG a h (k + 1) (12 * (x2 / 12 + ((m + q : Nat) : Int)) + (x2 % 12 + ((m + q : Nat) : Int) * a.1.2.2.2.2.2.2 k) % 12) else 0) := rfl
                rw [e, if_neg (by omega), Int.add_zero, ihq (by omega)]
            have := more (5 - m) (by omega)
            rw [show m + (5 - m) = 5 by omega] at this
            rw [this]
          induction j with
          | zero =>
            intro m x3 Z4 em q1 q2 l4 cp4 hv4
            exact w232_70 ⟨by unfold zR; omega, fun _ => next m _ Z4 q2 (by omega) l4 cp4 hv4, fun c => absurd (show 4 < x3 by omega) c⟩
          | succ j ihj =>
            intro m x3 Z4 em q1 q2 l4 cp4 hv4
            have e5 := l4.now.1
            have ew : Z4 102 x1 = a.1.2.2.2.2.2.2 k := by rw [e]; exact l4.1.1.2.2.2.2 k (by omega) (by omega)
            have mm := mulb (x := x3) (y := a.1.2.2.2.2.2.2 k) (a := 4) (b := 11) (by omega) (by omega) tk.1 tk.2
            have t3 : Int.tmod (x2 % 12 + x3 * a.1.2.2.2.2.2.2 k) 12 = (x2 % 12 + x3 * a.1.2.2.2.2.2.2 k) % 12 := Int.tmod_eq_emod_of_nonneg (by omega)
            refine w232_70 ?_
            rw [t1, t2, ew, t3, e5]
            refine ⟨by unfold zR; omega, fun c => by omega, fun _ => ⟨by unfold zR; omega, by unfold zR; omega, by unfold zR; omega, fun c => next m _ Z4 q2 (by omega) l4 cp4 hv4, fun c => ⟨by unfold zR; omega, by unfold zR; omega, by omega, by unfold zR; omega, by omega, by omega, by omega, fun Z14 e14 => ?_⟩⟩⟩
            have c118 : Z14 118 = Z4 118 := by rw [e14]; funext p; exact zup_cell _ _ _ _ (by decide)
            refine ihj (m + 1) _ Z14 (by omega) (by omega) (by omega) (by subst e14; exact l4.up wx (by unfold scq; omega)) (by rw [c118]; exact cp4) fun h h1 h2 => ?_
            have up := gs_up (f := Z4 119) (G := gG a h (k + 1)) (t := 12 * (x2 / 12 + x3) + (x2 % 12 + x3 * a.1.2.2.2.2.2.2 k) % 12) (v := Z4 118 x2) 108
            have e119 : (fun i => Z14 119 i * gG a h (k + 1) i) = fun i => (if i = 12 * (x2 / 12 + x3) + (x2 % 12 + x3 * a.1.2.2.2.2.2.2 k) % 12 then Z4 119 (12 * (x2 / 12 + x3) + (x2 % 12 + x3 * a.1.2.2.2.2.2.2 k) % 12) + Z4 118 x2 else Z4 119 i) * gG a h (k + 1) i := by
              funext i
              rw [e14]
              by_cases ei : i = 12 * (x2 / 12 + x3) + (x2 % 12 + x3 * a.1.2.2.2.2.2.2 k) % 12
              · rw [if_pos ei, ei, zup_same]
              · rw [if_neg ei, zup_place _ _ _ _ ei]
            rw [e119, up, if_pos (by omega), hv4 h h1 h2, cp4 x2 z1 (by omega)]
            have st : gs (fun on => if on ≤ a.1.1 - x2 / 12 then gG a h (k + 1) (12 * (x2 / 12 + on) + (x2 % 12 + on * a.1.2.2.2.2.2.2 k) % 12) else 0) (m + 1) = gs (fun on => if on ≤ a.1.1 - x2 / 12 then gG a h (k + 1) (12 * (x2 / 12 + on) + (x2 % 12 + on * a.1.2.2.2.2.2.2 k) % 12) else 0) m + (if (m : Int) ≤ a.1.1 - x2 / 12 then gG a h (k + 1) (12 * (x2 / 12 + (m : Int)) + (x2 % 12 + (m : Int) * a.1.2.2.2.2.2.2 k) % 12) else 0) := rfl
            rw [st, if_pos (by omega), Int.mul_add (Z1 118 x2), em]
            omega
      -- cleared
      suffices H : ∀ (g : Nat) (x2 : Int) (o3 : Option zV) (Z3 : zM), g = (108 - x2).toNat → 0 ≤ x2 → x2 ≤ 108 → QS Z Z3 a → (∀ i, 0 ≤ i → i < 108 → Z3 118 i = Z1 118 i) → (∀ i, 0 ≤ i → i < x2 → Z3 119 i = 0) → TZ d 232 41 [some (.inr 100), some (.inl x1), some (.inl x2), o3] [] Z3 (zrv Q) from H 108 0 o3 Z1 rfl (by decide) (by decide) l (fun _ _ _ => rfl) (fun i i1 i2 => by omega)
      intro g
      induction g with
      | zero =>
        intro x2 o3 Z3 eg z1 z2 l3 cp z0
        refine w232_41 ⟨by unfold zR; omega, fun _ => push 108 0 o3 Z3 rfl (by decide) (by decide) l3 cp fun h h1 h2 => ?_, fun c => absurd (show 108 ≤ x2 by omega) c⟩
        show _ = (0 : Int)
        exact gs_0 108 fun i i1 i2 => by rw [z0 i i1 (by omega), Int.zero_mul]
      | succ g ihg =>
        intro x2 o3 Z3 eg z1 z2 l3 cp z0
        refine w232_41 ⟨by unfold zR; omega, fun c => by omega, fun _ => ⟨by omega, fun Z4 e4 => ihg _ _ Z4 (by omega) (by omega) (by omega) (by subst e4; exact l3.up wx (by unfold scq; omega)) (fun i i1 i2 => ?_) (fun i i1 i2 => ?_)⟩⟩
        · rw [e4, zup_cell _ _ _ _ (by decide)]; exact cp i i1 i2
        · rw [e4]
          by_cases ei : i = x2
          · rw [ei, zup_same]
          · rw [zup_place _ _ _ _ ei]; exact z0 i i1 (by omega)
  -- at first: nobody sits, in one way
  suffices H : ∀ (g : Nat) (x1 : Int) (Z3 : zM), g = (108 - x1).toNat → 0 ≤ x1 → x1 ≤ 108 → QS Z Z3 a → (∀ i, 0 ≤ i → i < x1 → Z3 118 i = if i = 0 then 1 else 0) → TZ d 232 2 [some (.inr 100), some (.inl x1), none, none] [] Z3 (zrv Q) from H 108 0 Z1 rfl (by decide) (by decide) m (fun i i1 i2 => by omega)
  intro g
  induction g with
  | zero =>
    intro x1 Z3 eg z1 z2 l3 z0
    refine w232_2 ⟨by unfold zR; omega, fun _ => main a.1.2.1.toNat 0 0 none none Z3 rfl rfl (by omega) l3 fun h h1 h2 => ?_, fun c => absurd (show 108 ≤ x1 by omega) c⟩
    have e : gs (fun i => Z3 118 i * gG a h ((0 : Nat) : Int) i) 108 = gs (fun i => gG a h 0 i * (if i = 0 then 1 else 0)) 108 := gs_congr 108 fun i i1 i2 => by
      rw [z0 i i1 (by omega), Int.mul_comm]; rfl
    rw [e, gs_one, if_pos (by decide)]
    unfold gG grw
    rw [show a.1.2.1 - 0 = a.1.2.1 by omega, show a.1.1 - (0 : Int) / 12 = a.1.1 by omega]
    rfl
  | succ g ihg =>
    intro x1 Z3 eg z1 z2 l3 z0
    refine w232_2 ⟨by unfold zR; omega, fun c => by omega, fun _ => ⟨by unfold zR; omega, fun q => ⟨by omega, fun Z6 e6 => ihg _ Z6 (by omega) (by omega) (by omega) (by subst e6; exact l3.up wx (by unfold scq; omega)) fun i i1 i2 => ?_⟩, fun q => ⟨by omega, fun Z6 e6 => ihg _ Z6 (by omega) (by omega) (by omega) (by subst e6; exact l3.up wx (by unfold scq; omega)) fun i i1 i2 => ?_⟩⟩⟩
    all_goals
      rw [e6]
      by_cases ei : i = x1
      · rw [ei, zup_same]
        first | rw [if_neg q] | rw [if_pos (by omega)]
      · rw [zup_place _ _ _ _ ei]; exact z0 i i1 (by omega)
theorem Y_read {x1 : Int} (A : RX Z a) (wx : WX a) (h1 : zR x1) : TI (d + 3) 233 [.inr 100, .inl x1] Z (PostR Z (oq a (gunk x1 1) (vRead a x1))) := by
  have m := QS.refl A
  have hn : 0 ≤ a.1.1 ∧ a.1.1 ≤ 8 := wx.1.1.1
  refine w233_0 (R_isIn h1 (by decide) (by decide) (fun i => ⟨by decide, fun _ => G_sits m wx fun Z2 l hv => ?_, fun e => absurd (show (1 : Int) ≠ 0 by decide) e⟩) (fun i => ⟨by decide, fun e => absurd rfl e, fun _ => G_no m wx (gu2 i) (by decide)⟩))
  have e5 := l.now.1
  have sb : 0 ≤ gshows a.1 ∧ gshows a.1 < 12 := gshow_b wx.1.1
  have ok := G_ok (v := vRead a x1) l (gunk_0.mpr i)
  suffices H : ∀ (f m : Nat) (x3 : Int), x3 = m → f = 12 - m → m ≤ 12 → TZ (d + 3) 233 24 [some (.inr 100), some (.inl x1), some (.inl (grb a m)), some (.inl x3)] [] Z2 (zri (PostR Z (oq a (gunk x1 1) (vRead a x1)))) from H 12 0 0 rfl rfl (by decide)
  intro f
  induction f with
  | zero =>
    intro m x3 em y1 y2
    have e12 : m = 12 := by omega
    subst em
    subst e12
    unfold vRead at ok ⊢
    refine w233_24 ⟨by decide, fun _ => ⟨h1, fun e => ?_, fun e => ?_⟩, fun y => absurd (show (12 : Int) ≤ ((12 : Nat) : Int) by decide) y⟩
    · rw [if_neg e] at ok ⊢; exact ok
    · rw [if_pos (by omega)] at ok ⊢
      refine R_shown (n := a.1.1) (W := a.1.2.1) (h := a.1.2.2.1) (K := a.1.2.2.2.1) (F := a.1.2.2.2.2.1) (P := a.1.2.2.2.2.2.1) (T := a.1.2.2.2.2.2.2) l.1.1 wx.1.1 ?_
      show (0 ≤ 12 * Z2 100 5 + gshows a.1 ∧ 12 * Z2 100 5 + gshows a.1 < 108) ∧ PostR Z _ (Z2 118 (12 * Z2 100 5 + gshows a.1)) Z2
      rw [e5, hv _ sb.1 sb.2]
      exact ⟨by omega, ok⟩
  | succ f ih =>
    intro m x3 em y1 y2
    have v := hv x3 (by omega) (by omega)
    have b := @grw_b a wx x3
    have st : grb a (m + 1) = if grw a m ≤ 0 then grb a m else zbit 4 (grb a m) (zbit 6 1 m) := rfl
    rw [← em] at st
    have ih' := ih (m + 1) (x3 + 1) (by omega) (by omega) (by omega)
    rw [st] at ih'
    refine w233_24 ⟨by unfold zR; omega, fun y => by omega, fun _ => ⟨by omega, ?_⟩⟩
    rw [e5, v]
    refine ⟨by unfold zR; omega, fun q => ?_, fun q => ?_⟩
    · rw [if_pos q] at ih'
      rw [zor_z (grb_r m)]; exact ih'
    · rw [if_neg q] at ih'; exact ih'
end
