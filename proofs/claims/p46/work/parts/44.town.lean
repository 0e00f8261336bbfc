/-! letters, TOWNS -/
def tl (L : Int) (t : Int → Int) (p : Int) : Int := if 0 ≤ p ∧ p < L then t p else -1
def td (L : Int) (t : Int → Int) (p : Int) : Int := if 48 ≤ tl L t p ∧ tl L t p ≤ 57 then tl L t p - 48 else -9
def tn (c : Int) : Int := if c = 98 ∨ c = 119 then 3 else if c = 99 ∨ c = 102 ∨ c = 110 then 1 else if c = 104 ∨ c = 114 ∨ c = 115 then 0 else -9
def CT (Z : zM) (L : Int) (t : Int → Int) : Prop := Z 37 1 = L ∧ (0 ≤ L ∧ L ≤ 96) ∧ ∀ p, 0 ≤ p → p < L → Z 38 p = t p ∧ 0 ≤ t p ∧ t p ≤ 255
def gdg (L : Int) (t : Int → Int) (p dg : Int) : Nat → Int → Int
  | 0, _ => -9
  | f + 1, i => if dg < i then -9 else if td L t (p + i) < 0 then p + i else gdg L t p dg f (i + 1)
def gOdd (L : Int) (t : Int → Int) : Nat → Int → Int
  | 0, _ => -9
  | f + 1, p => if tn (tl L t p) < 0 then p else if 0 ≤ gdg L t p (tn (tl L t p)) 5 1 then gdg L t p (tn (tl L t p)) 5 1 else if tl L t (p + tn (tl L t p) + 1) ≠ 59 then p + tn (tl L t p) + 1 else if p + (tn (tl L t p) + 2) < L then gOdd L t f (p + (tn (tl L t p) + 2)) else -9
theorem td_b {L : Int} {t : Int → Int} {p : Int} : td L t p = -9 ∨ (0 ≤ td L t p ∧ td L t p ≤ 9) := by unfold td; split <;> omega
theorem tn_b {c : Int} : tn c = -9 ∨ tn c = 0 ∨ tn c = 1 ∨ tn c = 3 := by
  unfold tn
  repeat' split
  all_goals omega
abbrev gS : Type := Int × Int × Int × (Int → Int) × (Int → Int) × (Int → Int) × (Int → Int)
def CFs (k : Nat) (Z : zM) (s : gS) : Prop := CF k Z s.1 s.2.1 s.2.2.1 s.2.2.2.1 s.2.2.2.2.1 s.2.2.2.2.2.1 s.2.2.2.2.2.2
def WFs (s : gS) : Prop := WF s.1 s.2.1 s.2.2.1 s.2.2.2.1 s.2.2.2.2.1 s.2.2.2.2.2.1 s.2.2.2.2.2.2
def gpass (fl : Int) (s : gS) : gS := match s with | (n, W, h, K, F, P, T) => (n, W, h + 1, K, F, (gP n W h K F P fl n.toNat).1, T)
def ghours (fl : Int) : Nat → gS → gS
  | 0, s => s
  | m + 1, s => gpass fl (ghours fl m s)
def gadd (kd fg w : Int) (s : gS) : gS := match s with | (n, W, h, K, F, P, T) => (n + 1, W, h, gup K n kd, gup F n fg, gup P n w, T)
def gwt (w v : Int) (s : gS) : gS := match s with | (n, W, h, K, F, P, T) => (n, W, h, K, F, P, gup T w v)
def gcat (w : Int) (s : gS) : gS := match s with | (n, W, h, K, F, P, T) => (n, W, h, K, F, (gC n W P w n.toNat).1, T)
def ghawk (s : gS) : gS := match s with | (n, W, h, K, F, P, T) => (n, W, h, K, F, (gH n W P n.toNat).1, T)
def grain (s : gS) : gS := match s with | (n, W, h, K, F, P, T) => (n, W, h, K, F, (gR n W P n.toNat).1, T)
def ghung (x : Int) (s : gS) : gS := match s with | (n, W, h, K, F, P, T) => (n, if x = 1 then 6 else 5, h, K, F, ghang n W P x, T)
/-- a STATEMENT that begins at p: what is behind it; none if it is not as it must be -/
def gstmt (L : Int) (t : Int → Int) (p : Int) (s : gS) : Option gS :=
  if tl L t p = 98 then (if (0 ≤ td L t (p + 1) ∧ td L t (p + 1) ≤ 5) ∧ s.1 < 8 ∧ roomb s.2.2.2.2.2.1 s.1 s.2.1 (td L t (p + 3)) = true then some (gadd (td L t (p + 1)) (td L t (p + 2)) (td L t (p + 3)) s) else none)
  else if tl L t p = 99 then (if 0 ≤ td L t (p + 1) ∧ td L t (p + 1) < s.2.1 then some (gcat (td L t (p + 1)) s) else none)
  else if tl L t p = 102 then (if (0 ≤ td L t (p + 1) ∧ td L t (p + 1) < s.2.1) ∧ s.2.2.1 + 1 ≤ 999 then some (gpass (td L t (p + 1)) s) else none)
  else if tl L t p = 104 then some (ghawk s)
  else if tl L t p = 110 then (if s.2.2.1 + td L t (p + 1) ≤ 999 then some (ghours (-1) (td L t (p + 1)).toNat s) else none)
  else if tl L t p = 114 then some (grain s)
  else if tl L t p = 119 then (if (0 ≤ td L t (p + 1) ∧ td L t (p + 1) < s.2.1) ∧ 0 ≤ 10 * td L t (p + 2) + td L t (p + 3) ∧ 10 * td L t (p + 2) + td L t (p + 3) ≤ 11 then some (gwt (td L t (p + 1)) (10 * td L t (p + 2) + td L t (p + 3)) s) else none)
  else some (ghung (if s.2.1 = 6 then 0 else 1) s)
def gTown (L : Int) (t : Int → Int) : Nat → Int → gS → Int → Int × Option gS
  | 0, _, s, c => (c, some s)
  | f + 1, p, s, c => if L ≤ p then (c, some s) else match gstmt L t p s with
    | none => (-2000 - p, none)
    | some s' => gTown L t f (p + (max 0 (tn (tl L t p)) + 2)) s' (c + 1)
theorem gpass_wf {s : gS} {fl : Int} (wf : WFs s) (hf : -1 ≤ fl ∧ fl < s.2.1) (hh : s.2.2.1 < 1000000) : WFs (gpass fl s) := by
  obtain ⟨n, W, h, K, F, P, T⟩ := s
  have wf : WF n W h K F P T := wf
  have hh : h < 1000000 := hh
  have h0 := wf.2.2.1
  exact (gP_wf wf hf n.toNat (by have := wf.1; omega)).hour (h' := h + 1) ⟨by omega, by omega⟩
theorem ghours_h {fl : Int} : ∀ (m : Nat) (s : gS), (ghours fl m s).2.2.1 = s.2.2.1 + m ∧ (ghours fl m s).2.1 = s.2.1 ∧ (ghours fl m s).1 = s.1
  | 0, s => ⟨by simp [ghours], rfl, rfl⟩
  | m + 1, s => by
    have ih := ghours_h (fl := fl) m s
    unfold ghours
    have e : ∀ q : gS, (gpass fl q).2.2.1 = q.2.2.1 + 1 ∧ (gpass fl q).2.1 = q.2.1 ∧ (gpass fl q).1 = q.1 := fun q => ⟨rfl, rfl, rfl⟩
    rw [(e _).1, (e _).2.1, (e _).2.2]
    exact ⟨by rw [ih.1]; omega, ih.2⟩
theorem ghours_wf {fl : Int} {s : gS} (wf : WFs s) (hf : -1 ≤ fl ∧ fl < s.2.1) : ∀ m : Nat, s.2.2.1 + m ≤ 1000000 → WFs (ghours fl m s)
  | 0, _ => wf
  | m + 1, hm => by
    have ih := ghours_wf wf hf m (by omega)
    have e := ghours_h (fl := fl) m s
    exact gpass_wf ih (by rw [e.2.1]; exact hf) (by rw [e.1]; omega)
theorem ghung_wf {s : gS} {x : Int} (wf : WFs s) (hx : x = 0 ∨ x = 1) : WFs (ghung x s) := by
  obtain ⟨n, W, h, K, F, P, T⟩ := s
  exact ghang_wf wf hx
theorem gwt_wf {s : gS} {w v : Int} (wf : WFs s) (hv : 0 ≤ v ∧ v ≤ 11) : WFs (gwt w v s) := by
  obtain ⟨n, W, h, K, F, P, T⟩ := s
  obtain ⟨hn, hW, hh, wb, ww⟩ := wf
  refine ⟨hn, hW, hh, wb, fun q h1 h2 => ?_⟩
  show 0 ≤ gup T w v q ∧ gup T w v q ≤ 11
  unfold gup
  split
  · exact hv
  · exact ww q h1 h2
theorem gstmt_wf {L p : Int} {t : Int → Int} {s s' : gS} (wf : WFs s) (hh : s.2.2.1 ≤ 999) (hd : tl L t p = 98 → 0 ≤ td L t (p + 2)) (h : gstmt L t p s = some s') : WFs s' ∧ s'.2.2.1 ≤ 999 := by
  obtain ⟨n, W, h0, K, F, P, T⟩ := s
  have wf0 : WF n W h0 K F P T := wf
  have hh : h0 ≤ 999 := hh
  have hn := wf0.1
  have hW := wf0.2.1
  have h00 := wf0.2.2.1
  unfold gstmt at h
  dsimp only at h
  have d1 := td_b (L := L) (t := t) (p := p + 1)
  have d2 := td_b (L := L) (t := t) (p := p + 2)
  split at h
  · next hl =>
    split at h
    · next hc =>
      cases h
      obtain ⟨c1, c2, c3⟩ := hc
      rw [roomb_iff] at c3
      exact ⟨gadd_wf wf0 c2 ⟨c3.1, c3.2.1⟩ c1 (by have := hd hl; omega), hh⟩
    · cases h
  · split at h
    · split at h
      · next hc => cases h; exact ⟨gC_wf wf0 hc.1 _ (by omega), hh⟩
      · cases h
    · split at h
      · split at h
        · next hc => cases h; exact ⟨gpass_wf (s := (n, W, h0, K, F, P, T)) wf (by dsimp only; omega) (by dsimp only; omega), by show h0 + 1 ≤ 999; omega⟩
        · cases h
      · split at h
        · cases h; exact ⟨gH_wf wf0 _ (by omega), hh⟩
        · split at h
          · split at h
            · next hc =>
              cases h
              have e := ghours_h (fl := -1) (td L t (p + 1)).toNat (n, W, h0, K, F, P, T)
              exact ⟨ghours_wf (s := (n, W, h0, K, F, P, T)) wf (by dsimp only; omega) _ (by dsimp only; omega), by rw [e.1]; dsimp only; omega⟩
            · cases h
          · split at h
            · cases h; exact ⟨gR_wf wf0 _ (by omega), hh⟩
            · split at h
              · split at h
                · next hc => cases h; exact ⟨gwt_wf (s := (n, W, h0, K, F, P, T)) wf (by omega), hh⟩
                · cases h
              · cases h; exact ⟨ghung_wf (s := (n, W, h0, K, F, P, T)) wf (by split <;> omega), hh⟩
section
variable {d : Nat} {Z : zM} {L : Int} {t : Int → Int} {Q : Int → zM → Prop}
theorem tl_b (B : CT Z L t) {p : Int} : -1 ≤ tl L t p ∧ tl L t p ≤ 255 := by
  unfold tl
  split
  · next h => have := B.2.2 p h.1 h.2; omega
  · omega
theorem C_letterAt {p : Int} (hp : zR p) (B : CT Z L t) (hQ : Q (tl L t p) Z) : TI d 66 [.inr 37, .inl p] Z Q := by
  obtain ⟨e1, e2, e3⟩ := B
  unfold tl at hQ
  refine w66_0 ⟨hp, fun c => ?_, fun c => ⟨hp, by unfold zR; omega, fun c2 => ?_, fun c2 => ⟨by omega, ?_⟩⟩⟩
  · rwa [if_neg (by omega)] at hQ
  · rwa [if_neg (by omega)] at hQ
  · rw [if_pos (by omega)] at hQ
    rw [(e3 p (by omega) (by omega)).1]
    exact hQ
theorem C_digitAt {p : Int} (hp : zR p) (B : CT Z L t) (hQ : Q (td L t p) Z) : TI (d + 1) 67 [.inr 37, .inl p] Z Q := by
  have hb := tl_b B (p := p)
  unfold td at hQ
  refine w67_0 (C_letterAt hp B ⟨by unfold zR; omega, fun c => ?_, fun c => ⟨by unfold zR; omega, fun c2 => ?_, fun c2 => ?_⟩⟩)
  · rwa [if_neg (by omega)] at hQ
  · rwa [if_neg (by omega)] at hQ
  · rwa [if_pos (by omega)] at hQ
theorem C_digits {c : Int} (hc : zR c) (hQ : Q (tn c) Z) : TI d 68 [.inl c] Z Q := by
  unfold tn at hQ
  refine w68_0 ⟨hc, fun a => by rwa [if_pos a] at hQ, fun a => ?_, fun a => ?_, fun a => ?_⟩
  · rwa [if_neg (by omega), if_pos a] at hQ
  · rwa [if_neg (by omega), if_neg (by omega), if_pos a] at hQ
  · rwa [if_neg (by omega), if_neg (by omega), if_neg (by omega)] at hQ
theorem C_put {c : Int} (hc : 0 ≤ c ∧ c ≤ 255) (B : CT Z L t) (hL : L < 96) (hQ : ∀ Z', CT Z' (L + 1) (gup t L c) → frs (fun q => q = 37 ∨ q = 38) Z Z' → Q (L + 1) Z') : TI d 65 [.inr 37, .inl c] Z Q := by
  obtain ⟨e1, e2, e3⟩ := B
  refine w65_0 ?_
  rw [e1]
  refine ⟨by unfold zR; omega, fun x => absurd x (by omega), fun _ => ⟨by omega, fun Z1 z1 Z2 z2 => ?_⟩⟩
  have f1 : Z2 37 1 = L + 1 := by subst z2; subst z1; simp [zup, e1]
  rw [f1]
  refine hQ Z2 ⟨f1, by omega, fun p h1 h2 => ?_⟩ ?_
  · subst z2; subst z1
    by_cases e : p = L
    · subst e; simp [zup, gup]; omega
    · have := e3 p h1 (by omega)
      simp [zup, gup, e, this]
  · subst z2; subst z1; exact frs.trans (frs_up (Or.inr rfl)) (frs_up (Or.inl rfl))
theorem gdg_b {p dg : Int} (hp : 0 ≤ p) : ∀ (f : Nat) (i : Int), 0 ≤ i → gdg L t p dg f i = -9 ∨ (0 ≤ gdg L t p dg f i ∧ gdg L t p dg f i ≤ p + dg)
  | 0, i, _ => Or.inl rfl
  | f + 1, i, hi => by
    unfold gdg
    split
    · exact Or.inl rfl
    · split
      · exact Or.inr ⟨by omega, by omega⟩
      · exact gdg_b hp f (i + 1) (by omega)
theorem C_odd1 {p dg : Int} (B : CT Z L t) (hp : 0 ≤ p ∧ p ≤ 96) (hd : 0 ≤ dg ∧ dg ≤ 3) : ∀ (f : Nat) (i : Int), dg - i < f → 0 ≤ i → i ≤ 5 → (gdg L t p dg f i < 0 → ∀ x3 : Int, dg < x3 → x3 < 100 → TZ (d + 2) 69 19 [some (.inr 37), some (.inl p), some (.inl dg), some (.inl x3)] [] Z (zri Q)) → (0 ≤ gdg L t p dg f i → Q (gdg L t p dg f i) Z) → TZ (d + 2) 69 19 [some (.inr 37), some (.inl p), some (.inl dg), some (.inl i)] [] Z (zri Q)
  | 0, i, h1, h2, h3, E, hQ => E (by show (-9 : Int) < 0; decide) i (by omega) (by omega)
  | f + 1, i, h1, h2, h3, E, hQ => by
    unfold gdg at hQ E
    by_cases c : dg < i
    · rw [if_pos c] at E
      exact E (by decide) i c (by omega)
    · rw [if_neg c] at hQ E
      have b := td_b (L := L) (t := t) (p := p + i)
      refine w69_19 ⟨by unfold zR; omega, by unfold zR; omega, fun x => absurd x c, fun _ => C_digitAt (by unfold zR; omega) B ⟨by unfold zR; omega, fun c2 => ?_, fun c2 => ?_⟩⟩
      · rw [if_neg (by omega)] at hQ E
        exact C_odd1 B hp hd f (i + 1) (by omega) (by omega) (by omega) E hQ
      · rw [if_pos (by omega)] at hQ
        exact hQ (by omega)
theorem C_odd (B : CT Z L t) : ∀ (f : Nat) (p : Int) (o2 o3 : Option zV), L - p < f → 0 ≤ p → p ≤ 96 → 1 ≤ f → Q (gOdd L t f p) Z → TZ (d + 2) 69 2 [some (.inr 37), some (.inl p), o2, o3] [] Z (zri Q)
  | 0, p, _, _, h1, h2, h3, h4, hQ => absurd h4 (by omega)
  | f + 1, p, o2, o3, h1, h2, h3, h4, hQ => by
    have hb := tl_b B (p := p)
    have hn := tn_b (c := tl L t p)
    have e2 := B.1
    have e3 := B.2.1
    have tb := tl_b B (p := p + tn (tl L t p) + 1)
    unfold gOdd at hQ
    refine w69_2 (C_letterAt (by unfold zR; omega) B (C_digits (by unfold zR; omega) ⟨by unfold zR; omega, fun c => ?_, fun c => ?_⟩))
    · rw [if_neg (by omega)] at hQ
      refine C_odd1 B (by omega) (by omega) 5 1 (by omega) (by omega) (by omega) (fun g x3 c1 c2 => ?_) (fun g => by rwa [if_pos g] at hQ)
      rw [if_neg (by omega)] at hQ
      refine w69_19 ⟨by unfold zR; omega, by unfold zR; omega, fun _ => C_letterAt (by unfold zR; omega) B ⟨by unfold zR; omega, fun c4 => ⟨by unfold zR; omega, by unfold zR; omega, fun c5 => ?_, fun c5 => ?_⟩, fun c4 => ?_⟩, fun x => absurd c1 x⟩
      · rw [if_neg (fun x => x c4), if_pos (by omega)] at hQ
        exact C_odd B f _ _ _ (by omega) (by omega) (by omega) (by omega) hQ
      · rw [if_neg (fun x => x c4), if_neg (by omega)] at hQ
        exact hQ
      · rw [if_pos c4] at hQ
        exact hQ
    · rwa [if_pos (by omega)] at hQ
theorem C_oddPlace (B : CT Z L t) (hQ : Q (gOdd L t 100 0) Z) : TI (d + 2) 69 [.inr 37] Z Q :=
  w69_0 (C_odd B 100 0 none none (by have := B.2.1; omega) (by decide) (by decide) (by decide) hQ)
end
/-- a STATEMENT stands at p as it must be written -/
def okst (L : Int) (t : Int → Int) (p : Int) : Prop := 0 ≤ tn (tl L t p) ∧ (∀ i, 1 ≤ i → i ≤ tn (tl L t p) → 0 ≤ td L t (p + i)) ∧ tl L t (p + tn (tl L t p) + 1) = 59
theorem gdg_ok {L : Int} {t : Int → Int} {p dg : Int} (hp : 0 ≤ p) : ∀ (f : Nat) (i : Int), dg - i < f → 0 ≤ i → gdg L t p dg f i < 0 → ∀ k, i ≤ k → k ≤ dg → 0 ≤ td L t (p + k)
  | 0, i, h1, _, _, k, h2, h3 => by omega
  | f + 1, i, h1, h0, h, k, h2, h3 => by
    unfold gdg at h
    rw [if_neg (by omega)] at h
    split at h
    · omega
    · next c =>
      by_cases e : k = i
      · subst e; omega
      · exact gdg_ok hp f (i + 1) (by omega) (by omega) h k (by omega) h3
theorem gOdd_ok {L : Int} {t : Int → Int} {f : Nat} {p : Int} (hp : 0 ≤ p) (h : gOdd L t (f + 1) p < 0) : okst L t p ∧ (p + (tn (tl L t p) + 2) < L → gOdd L t f (p + (tn (tl L t p) + 2)) < 0) := by
  unfold gOdd at h
  have hn := tn_b (c := tl L t p)
  split at h
  · omega
  · split at h
    · omega
    · next g1 g2 =>
      split at h
      · omega
      · next g3 =>
        refine ⟨⟨by omega, fun i h1 h2 => gdg_ok hp 5 1 (by omega) (by decide) (by omega) i h1 h2, by omega⟩, fun c => ?_⟩
        rwa [if_pos c] at h
section
variable {d : Nat} {Z : zM} {L : Int} {t : Int → Int}
def S13 (q : Nat) : Prop := 13 ≤ q ∧ q ≤ 18
theorem fr13 {Z Z' : zM} (h : fr 13 Z Z') : frs S13 Z Z' := h.frs fun q h1 h2 => ⟨h1, h2⟩
theorem C_hours {n : Int} {fl : Int} {s : gS} {Q : Int → zM → Prop} (A : CFs 13 Z s) (wf : WFs s) (hf : -1 ≤ fl ∧ fl < s.2.1) (hh : s.2.2.1 ≤ 999) (hn : -9 ≤ n ∧ n ≤ 9) (h1 : s.2.2.1 + n ≤ 999 → ∀ Z', CFs 13 Z' (ghours fl n.toNat s) → frs S13 Z Z' → Q 1 Z') (h0 : ¬ s.2.2.1 + n ≤ 999 → Q 0 Z) : TI (d + 4) 85 [.inr 0, .inl n, .inl fl] Z Q := by
  have e7 : Z 13 7 = s.2.2.1 := A.2.2.1
  have wh := wf.2.2.1
  refine w85_0 ?_
  rw [e7]
  refine ⟨by unfold zR; omega, fun c => ?_, h0⟩
  have h1 := h1 c
  suffices H : ∀ m : Nat, m ≤ n.toNat → ∀ Z1 : zM, CFs 13 Z1 (ghours fl m s) → frs S13 Z Z1 → TZ (d + 4) 85 19 [some (.inr 0), some (.inl n), some (.inl fl), some (.inl (m : Int))] [] Z1 (zri Q) from H 0 (Nat.zero_le _) Z A (frs.refl _ _)
  intro m hm
  refine zdown (P := fun m => ∀ Z1 : zM, CFs 13 Z1 (ghours fl m s) → frs S13 Z Z1 → TZ (d + 4) 85 19 [some (.inr 0), some (.inl n), some (.inl fl), some (.inl (m : Int))] [] Z1 (zri Q)) (n := n.toNat) ?_ ?_ m hm
  · intro Z1 A1 f1
    exact w85_19 ⟨by unfold zR; omega, by unfold zR; omega, fun _ => h1 Z1 A1 f1, fun x => absurd (show n ≤ (n.toNat : Int) by omega) x⟩
  · intro m hm ih Z1 A1 f1
    have e := ghours_h (fl := fl) m s
    refine w85_19 ⟨by unfold zR; omega, by unfold zR; omega, fun x => absurd x (by omega), fun _ => ?_⟩
    exact C_pass zF13 A1 (ghours_wf wf hf m (by omega)) (by rw [e.2.1]; exact hf) (by rw [e.1]; omega) fun Z' A2 f2 => ih Z' A2 (f1.trans (fr13 f2))
theorem C_bird {kd fg w : Int} {s : gS} {Q : Int → zM → Prop} (A : CFs 13 Z s) (wf : WFs s) (hk : zR kd) (hw : zR w) (h1 : (0 ≤ kd ∧ kd ≤ 5) ∧ s.1 < 8 ∧ roomb s.2.2.2.2.2.1 s.1 s.2.1 w = true → ∀ Z', CFs 13 Z' (gadd kd fg w s) → frs S13 Z Z' → Q 1 Z') (h0 : ¬ ((0 ≤ kd ∧ kd ≤ 5) ∧ s.1 < 8 ∧ roomb s.2.2.2.2.2.1 s.1 s.2.1 w = true) → Q 0 Z) : TI (d + 2) 83 [.inr 0, .inl kd, .inl fg, .inl w] Z Q := by
  obtain ⟨n, W, h, K, F, P, T⟩ := s
  have A0 : CF 13 Z n W h K F P T := A
  have wf0 : WF n W h K F P T := wf
  have e5 := A0.1
  have hn := wf0.1
  dsimp only at h1 h0
  refine w83_0 ⟨hk, fun c => h0 (by omega), fun c => ⟨hk, fun c2 => h0 (by omega), fun c2 => ?_⟩⟩
  rw [e5]
  refine ⟨by unfold zR; omega, fun c3 => h0 (by omega), fun c3 => C_room zF13 A0 wf0 hw (fun r => ?_) (fun r => ?_)⟩
  · refine ⟨by decide, fun _ => C_add zF13 A0 wf0 (by omega) r fun Z' A' f' => h1 ⟨by omega, by omega, roomb_iff.mpr r⟩ Z' A' (fr13 f'), fun x => absurd (show (1 : Int) ≠ 0 by decide) x⟩
  · exact ⟨by decide, fun x => absurd rfl x, fun _ => h0 fun x => r (roomb_iff.mp x.2.2)⟩
theorem C_weightC {w v : Int} {s : gS} {Q : Int → zM → Prop} (A : CFs 13 Z s) (wf : WFs s) (hw : zR w) (hv : zR v) (h1 : (0 ≤ w ∧ w < s.2.1) ∧ 0 ≤ v ∧ v ≤ 11 → ∀ Z', CFs 13 Z' (gwt w v s) → frs S13 Z Z' → Q 1 Z') (h0 : ¬ ((0 ≤ w ∧ w < s.2.1) ∧ 0 ≤ v ∧ v ≤ 11) → Q 0 Z) : TI (d + 1) 84 [.inr 0, .inl w, .inl v] Z Q := by
  obtain ⟨n, W, h, K, F, P, T⟩ := s
  have A0 : CF 13 Z n W h K F P T := A
  have hW := wf.2.1
  dsimp only at h1 h0 hW
  obtain ⟨e5, e6, e7, eb, ew⟩ := A0
  refine w84_0 (C_isWire zF13 hw (by rw [e6]; unfold zR; omega) (fun c => ?_) (fun c => ?_))
  · rw [e6] at c
    refine ⟨by decide, fun x => absurd x (by decide), fun _ => ⟨hv, fun c2 => h0 (by omega), fun c2 => ⟨hv, fun c3 => ⟨by omega, fun Z1 z1 => h1 ⟨c, by omega, c3⟩ Z1 ?_ ?_⟩, fun c3 => h0 (by omega)⟩⟩⟩
    · subst z1
      show CF 13 _ n W h K F P (gup T w v)
      refine ⟨by simp [zup, e5], by simp [zup, e6], by simp [zup, e7], fun b x y => by simpa [zup] using eb b x y, fun q x y => ?_⟩
      have := ew q x y
      by_cases e : q = w
      · subst e; simp [zup, gup, this.2]
      · simp [zup, gup, e, this.1, this.2]
    · subst z1; exact frs_up ⟨by decide, by decide⟩
  · rw [e6] at c
    exact ⟨by decide, fun _ => h0 (fun x => c x.1), fun x => absurd rfl x⟩
theorem C_catC {w : Int} {s : gS} {Q : Int → zM → Prop} (A : CFs 13 Z s) (wf : WFs s) (hw : zR w) (h1 : 0 ≤ w ∧ w < s.2.1 → ∀ Z', CFs 13 Z' (gcat w s) → frs S13 Z Z' → Q 1 Z') (h0 : ¬ (0 ≤ w ∧ w < s.2.1) → Q 0 Z) : TI (d + 3) 86 [.inr 0, .inl w] Z Q := by
  obtain ⟨n, W, h, K, F, P, T⟩ := s
  have A0 : CF 13 Z n W h K F P T := A
  have hW := wf.2.1
  dsimp only at h1 h0 hW
  have e6 := A0.2.1
  refine w86_0 (C_isWire zF13 hw (by rw [e6]; unfold zR; omega) (fun c => ?_) (fun c => ?_))
  · rw [e6] at c
    exact ⟨by decide, fun _ => C_scare zF13 A0 wf (by omega) fun Z' A' f' => h1 c Z' A' (fr13 f'), fun x => absurd (show (1 : Int) ≠ 0 by decide) x⟩
  · rw [e6] at c
    exact ⟨by decide, fun x => absurd rfl x, fun _ => h0 c⟩
theorem CT.keep {Z' : zM} (B : CT Z L t) (h1 : Z' 37 = Z 37) (h2 : Z' 38 = Z 38) : CT Z' L t := by
  unfold CT; rw [h1, h2]; exact B
theorem C_comesTrue {p : Int} {s : gS} {Q : Int → zM → Prop} (B : CT Z L t) (A : CFs 13 Z s) (wf : WFs s) (hh : s.2.2.1 ≤ 999) (hp : 0 ≤ p ∧ p ≤ 1000) (h1 : ∀ s', gstmt L t p s = some s' → ∀ Z', CFs 13 Z' s' → frs S13 Z Z' → Q 1 Z') (h0 : gstmt L t p s = none → Q 0 Z) : TI (d + 5) 82 [.inr 0, .inl p] Z Q := by
  have hb := tl_b B (p := p)
  have d1 := td_b (L := L) (t := t) (p := p + 1)
  have d2 := td_b (L := L) (t := t) (p := p + 2)
  have d3 := td_b (L := L) (t := t) (p := p + 3)
  have hW : 5 ≤ s.2.1 ∧ s.2.1 ≤ 6 := wf.2.1
  have e6 : Z 13 6 = s.2.1 := A.2.1
  unfold gstmt at h1 h0
  refine w82_0 (C_digitAt (by unfold zR; omega) B (C_letterAt (by unfold zR; omega) B ⟨by unfold zR; omega, fun c => ?_, fun c => ?_, fun c => ?_, fun c => ?_, fun c => ?_, fun c => ?_, fun c => ?_, fun c => ?_⟩))
  · rw [if_pos c] at h1 h0
    refine C_digitAt (by unfold zR; omega) B (C_digitAt (by unfold zR; omega) B (C_bird A wf (by unfold zR; omega) (by unfold zR; omega) (fun x Z' A' f' => ⟨Or.inr rfl, ?_⟩) (fun x => ⟨Or.inl rfl, ?_⟩)))
    · rw [if_pos x] at h1
      exact h1 _ rfl Z' A' f'
    · rw [if_neg x] at h0
      exact h0 rfl
  · rw [if_neg (by omega), if_pos c] at h1 h0
    refine C_catC A wf (by unfold zR; omega) (fun x Z' A' f' => ⟨Or.inr rfl, ?_⟩) (fun x => ⟨Or.inl rfl, ?_⟩)
    · rw [if_pos x] at h1
      exact h1 _ rfl Z' A' f'
    · rw [if_neg x] at h0
      exact h0 rfl
  · rw [if_neg (by omega), if_neg (by omega), if_pos c] at h1 h0
    refine C_isWire zF13 (by unfold zR; omega) (by rw [e6]; unfold zR; omega) (fun x => ?_) (fun x => ?_)
    · rw [e6] at x
      refine ⟨by decide, fun y => absurd y (by decide), fun _ => C_hours A wf (by omega) hh (by decide) (fun y Z' A' f' => ⟨by decide, fun z => absurd z (by decide), fun _ => ?_⟩) (fun y => ⟨by decide, fun _ => ?_, fun z => absurd rfl z⟩)⟩
      · rw [if_pos ⟨x, y⟩] at h1
        exact h1 _ rfl Z' A' f'
      · rw [if_neg (fun z => y z.2)] at h0
        exact h0 rfl
    · rw [e6] at x
      rw [if_neg (fun z => x z.1)] at h0
      exact ⟨by decide, fun _ => h0 rfl, fun z => absurd rfl z⟩
  · rw [if_neg (by omega), if_neg (by omega), if_neg (by omega), if_pos c] at h1
    obtain ⟨n, W, h, K, F, P, T⟩ := s
    exact C_up zF13 A wf fun Z' A' f' => h1 _ rfl Z' A' (fr13 f')
  · rw [if_neg (by omega), if_neg (by omega), if_neg (by omega), if_neg (by omega), if_pos c] at h1 h0
    refine C_hours A wf (by omega) hh (by omega) (fun y Z' A' f' => ⟨Or.inr rfl, ?_⟩) (fun y => ⟨Or.inl rfl, ?_⟩)
    · rw [if_pos y] at h1
      exact h1 _ rfl Z' A' f'
    · rw [if_neg y] at h0
      exact h0 rfl
  · rw [if_neg (by omega), if_neg (by omega), if_neg (by omega), if_neg (by omega), if_neg (by omega), if_pos c] at h1
    obtain ⟨n, W, h, K, F, P, T⟩ := s
    exact C_down zF13 A wf fun Z' A' f' => h1 _ rfl Z' A' (fr13 f')
  · rw [if_neg (by omega), if_neg (by omega), if_neg (by omega), if_neg (by omega), if_neg (by omega), if_neg (by omega), if_pos c] at h1 h0
    refine C_digitAt (by unfold zR; omega) B (C_digitAt (by unfold zR; omega) B (C_weightC A wf (by unfold zR; omega) (by unfold zR; omega) (fun x Z' A' f' => ⟨Or.inr rfl, ?_⟩) (fun x => ⟨Or.inl rfl, ?_⟩)))
    · rw [if_pos x] at h1
      exact h1 _ rfl Z' A' f'
    · rw [if_neg x] at h0
      exact h0 rfl
  · rw [if_neg (by omega), if_neg (by omega), if_neg (by omega), if_neg (by omega), if_neg (by omega), if_neg (by omega), if_neg (by omega)] at h1
    rw [e6]
    obtain ⟨n, W, h, K, F, P, T⟩ := s
    dsimp only at h1 hW ⊢
    refine ⟨by unfold zR; omega, fun x => ?_, fun x => ?_⟩
    · rw [if_pos x] at h1
      exact C_hang zF13 A wf (Or.inl rfl) fun Z' A' f' => h1 _ rfl Z' A' (fr13 f')
    · rw [if_neg x] at h1
      exact C_hang zF13 A wf (Or.inr rfl) fun Z' A' f' => h1 _ rfl Z' A' (fr13 f')
def S1318 (q : Nat) : Prop := (1 ≤ q ∧ q ≤ 6) ∨ (13 ≤ q ∧ q ≤ 18) ∨ q = 26
end
