/-! THE CLASS: a flock's own methods, against the picture -/
section
variable {d k : Nat} {Z : zM} {n W h : Int} {K F P T : Int → Int}
theorem C_room {w : Int} {Q : Int → zM → Prop} (hk : k ∈ zFl) (A : CF k Z n W h K F P T) (wf : WF n W h K F P T) (hw : zR w) (h1 : room P n W w → Q 1 Z) (h0 : ¬ room P n W w → Q 0 Z) : TI d 17 [.inr k, .inl w] Z Q := by
  obtain ⟨e5, e6, e7, eb, ew⟩ := A
  obtain ⟨hn, hW, hh, wb, ww⟩ := wf
  refine w17_0 hk ⟨hw, fun a => h0 (by unfold room; omega), fun a => ⟨hw, by unfold zR; omega, fun b => h0 (by unfold room; omega), fun b => ⟨by omega, ?_⟩⟩⟩
  have e := (ew w (by omega) (by omega)).2
  have hc := cnt_b P w n.toNat
  exact ⟨by unfold zR; omega, fun c => h0 (by unfold room; omega), fun c => h1 (by unfold room; omega)⟩
theorem C_go {b to : Int} {Q : zM → Prop} (hk : k ∈ zFl) (A : CF k Z n W h K F P T) (wf : WF n W h K F P T) (hb : 0 ≤ b ∧ b < n) (ht : 0 ≤ to ∧ to < W) (hQ : ∀ Z', CF k Z' n W h K F (gup P b to) T → fr k Z Z' → Q Z') : TV (d + 1) 20 [.inr k, .inl b, .inl to] Z Q := by
  have A0 := A
  obtain ⟨e5, e6, e7, eb, ew⟩ := A
  obtain ⟨hn, hW, hh, wb, ww⟩ := wf
  have e3 := (eb b hb.1 hb.2).2.2
  have b3 := (wb b hb.1 hb.2).2.2
  refine w20_0 hk ⟨by omega, ?_⟩
  refine w19_0 hk ⟨by omega, by omega, fun Z1 z1 => ⟨by omega, by omega, fun Z2 z2 => ⟨by omega, fun Z3 z3 => hQ Z3 ?_ ?_⟩⟩⟩
  · subst z1; subst z2; subst z3
    rw [e3]
    refine ⟨by simp [zup, e5], by simp [zup, e6], by simp [zup, e7], fun c hc hc2 => ?_, fun w hw hw2 => ?_⟩
    · obtain ⟨q1, q2, q3⟩ := eb c hc hc2
      refine ⟨by simp [zup, q1], by simp [zup, q2], ?_⟩
      simp only [zup, gup]
      by_cases hcb : c = b
      · simp [hcb]
      · simp [hcb, q3]
    · obtain ⟨q1, q2⟩ := ew w hw hw2
      refine ⟨by simp [zup, q1], ?_⟩
      rw [cnt_up hb.1, if_pos (by omega)]
      have q3 := (ew (P b) (by omega) (by omega)).2
      have q4 := (ew to (by omega) (by omega)).2
      by_cases h1 : to = w
      · subst h1
        by_cases h2 : P b = to
        · rw [h2] at q3 ⊢
          simp [zup]; omega
        · have h3 : ¬ to = P b := fun e => h2 e.symm
          simp [zup, h2, h3]; omega
      · have h4 : ¬ w = to := fun e => h1 e.symm
        by_cases h2 : P b = w
        · rw [h2] at q3 ⊢
          simp [zup, h1, h4]; omega
        · have h3 : ¬ w = P b := fun e => h2 e.symm
          simp [zup, h1, h2, h3, h4]; omega
  · subst z1; subst z2; subst z3
    exact fr.trans (fr.trans (fr_up (by omega)) (fr_up (by omega))) (fr_up (by omega))
theorem C_near {own fl : Int} {Q : Int → zM → Prop} (ho : zR own) (hf : zR fl) (hQ : Q (gnear own fl) Z) : TI d 27 [.inl own, .inl fl] Z Q := by
  unfold gnear at hQ
  refine w27_0 ⟨hf, fun a => by rwa [if_pos (Or.inl a)] at hQ, fun a => ⟨hf, ho, fun b => ⟨hf, ho, fun c => ?_, fun c => ?_⟩, fun b => ?_⟩⟩
  · rwa [if_neg (by omega), if_pos c] at hQ
  · rwa [if_neg (by omega), if_neg c] at hQ
  · rwa [if_pos (Or.inr (by omega))] at hQ
theorem ztm3 (x : Int) : -3 < x.tmod 3 ∧ x.tmod 3 < 3 := ⟨Int.lt_tmod_of_pos x (by decide), Int.tmod_lt_of_pos x (by decide)⟩
theorem C_young {b to : Int} {Q : Int → zM → Prop} (hk : k ∈ zFl) (A : CF k Z n W h K F P T) (wf : WF n W h K F P T) (hb : 0 ≤ b ∧ b < n) (ht : -100 ≤ to ∧ to ≤ 100) (hQ : Q (gyoung F h b to) Z) : TI (d + 1) 28 [.inr k, .inl b, .inl to] Z Q := by
  obtain ⟨e5, e6, e7, eb, ew⟩ := A
  obtain ⟨hn, hW, hh, wb, ww⟩ := wf
  have q := eb b hb.1 hb.2
  have q' := wb b hb.1 hb.2
  have m := ztm3 (h + F b)
  unfold gyoung at hQ
  refine w28_0 hk ?_
  rw [e7, q.2.1]
  refine ⟨by omega, by unfold zR; omega, by unfold zR; omega, fun a => ?_, fun a => ⟨by unfold zR; omega, ?_⟩⟩
  · rwa [if_neg a] at hQ
  · rwa [if_pos (by omega)] at hQ
theorem C_old {own fl to : Int} {Q : Int → zM → Prop} (ho : -100 ≤ own ∧ own ≤ 100) (hf : -100 ≤ fl ∧ fl ≤ 100) (hQ : Q (gold own fl to) Z) : TI (d + 1) 29 [.inl own, .inl fl, .inl to] Z Q := by
  unfold gold at hQ
  refine w29_0 ⟨by unfold zR; omega, fun a => by rwa [if_neg (by omega)] at hQ, fun a => ⟨by unfold zR; omega, ?_, fun b => ?_, fun b => ?_⟩⟩
  · unfold zR; split <;> omega
  · rwa [if_neg (by split at b <;> omega)] at hQ
  · rwa [if_pos (by split at b <;> omega)] at hQ
theorem C_reach {b fl : Int} {Q : Int → zM → Prop} (hk : k ∈ zFl) (A : CF k Z n W h K F P T) (wf : WF n W h K F P T) (hb : 0 ≤ b ∧ b < n) (hf : -100 ≤ fl ∧ fl ≤ 100) (h1 : greachb F P b fl = true → Q 1 Z) (h0 : ¬ greachb F P b fl = true → Q 0 Z) : TI (d + 1) 30 [.inr k, .inl b, .inl fl] Z Q := by
  rw [greachb_iff] at h1 h0
  obtain ⟨e5, e6, e7, eb, ew⟩ := A
  obtain ⟨hn, hW, hh, wb, ww⟩ := wf
  have q := eb b hb.1 hb.2
  have q' := wb b hb.1 hb.2
  refine w30_0 hk ?_
  rw [q.2.1, q.2.2]
  refine ⟨by unfold zR; omega, fun a => h0 (by unfold greach; omega), fun a => ⟨by omega, by unfold zR; omega, by omega, ?_, by unfold zR; omega, fun c => h0 ?_, fun c => h1 ?_⟩⟩
  · unfold zR; split <;> omega
  · unfold greach; split at c <;> omega
  · unfold greach; split at c <;> omega
theorem gnear_b {own fl W : Int} (ho : 0 ≤ own ∧ own < W) (hf : -1 ≤ fl ∧ fl < W) : 0 ≤ gnear own fl ∧ gnear own fl < W := by
  unfold gnear; split
  · exact ho
  · split <;> omega
theorem gold_b {own fl to W : Int} (ho : 0 ≤ own ∧ own < W) (ht : 0 ≤ to ∧ to < W) : 0 ≤ gold own fl to ∧ gold own fl to < W := by
  unfold gold; split
  · exact ho
  · exact ht
theorem gyoung_b {F : Int → Int} {h b to W : Int} (ht : 0 ≤ to ∧ to < W) : 0 ≤ gyoung F h b to ∧ gyoung F h b to < W := by
  unfold gyoung; split <;> omega
theorem gwant_b {b fl : Int} (wf : WF n W h K F P T) (hb : 0 ≤ b ∧ b < n) (hf : -1 ≤ fl ∧ fl < W) : 0 ≤ gwant n h K F P b fl ∧ gwant n h K F P b fl < W := by
  obtain ⟨hn, hW, hh, wb, ww⟩ := wf
  obtain ⟨q1, q2, q3⟩ := wb b hb.1 hb.2
  have m1 := gnear_b q3 hf
  have m2 := gold_b (fl := fl) q3 m1
  have m3 := gyoung_b (F := F) (h := h) (b := b) m1
  have m4 : 0 ≤ (F b).tdiv 3 ∧ (F b).tdiv 3 ≤ 3 := by
    rw [Int.tdiv_eq_ediv_of_nonneg q2.1]; omega
  unfold gwant
  repeat' split
  all_goals first | exact m1 | exact m2 | exact m3 | (rename_i hr; rw [greachb_iff] at hr; unfold greach at hr; omega) | omega
theorem C_want {b fl : Int} {Q : Int → zM → Prop} (hk : k ∈ zFl) (A : CF k Z n W h K F P T) (wf : WF n W h K F P T) (hb : 0 ≤ b ∧ b < n) (hf : -1 ≤ fl ∧ fl < W) (hQ : Q (gwant n h K F P b fl) Z) : TI (d + 2) 26 [.inr k, .inl b, .inl fl] Z Q := by
  have A0 := A
  have wf0 := wf
  obtain ⟨e5, e6, e7, eb, ew⟩ := A
  obtain ⟨hn, hW, hh, wb, ww⟩ := wf
  have q := eb b hb.1 hb.2
  have q' := wb b hb.1 hb.2
  have m1 := gnear_b q'.2.2 hf
  have m2 := gold_b (fl := fl) q'.2.2 m1
  have m4 : 0 ≤ (F b).tdiv 3 ∧ (F b).tdiv 3 ≤ 3 := by
    rw [Int.tdiv_eq_ediv_of_nonneg q'.2.1.1]; omega
  have es := (ew (P b) (by omega) (by omega)).2
  have hc := cnt_b P (P b) n.toNat
  unfold gwant at hQ
  refine w26_0 hk ?_
  rw [q.2.2]
  refine ⟨by omega, C_near (by unfold zR; omega) (by unfold zR; omega) ?_⟩
  rw [q.1, es]
  refine ⟨by omega, by unfold zR; omega, fun c => ?_, fun c => ?_, fun c => ?_, fun c => ?_, fun c => ?_, fun c => ?_⟩
  · rw [if_pos c] at hQ
    exact C_young hk A0 wf0 hb (by omega) hQ
  · rw [if_neg (by omega), if_pos c] at hQ
    exact C_old (by omega) (by omega) hQ
  · rw [if_neg (by omega), if_neg (by omega), if_pos c] at hQ
    refine C_reach hk A0 wf0 hb (by omega) (fun r => ?_) (fun r => ?_)
    · rw [if_pos r] at hQ
      exact ⟨by decide, fun x => absurd x (by decide), fun _ => hQ⟩
    · rw [if_neg r] at hQ
      exact ⟨by decide, fun _ => C_young hk A0 wf0 hb (by omega) hQ, fun x => absurd rfl x⟩
  · rw [if_neg (by omega), if_neg (by omega), if_neg (by omega), if_pos c] at hQ
    refine ⟨by omega, by unfold zR; omega, fun r => ?_, fun r => ?_⟩
    · rw [if_neg r] at hQ
      exact C_old (by omega) (by omega) hQ
    · rwa [if_pos (by omega)] at hQ
  · rw [if_neg (by omega), if_neg (by omega), if_neg (by omega), if_neg (by omega), if_pos c] at hQ
    refine C_old (by omega) (by omega) ?_
    rw [q.2.1]
    exact ⟨by omega, by unfold zR; omega, by unfold zR; omega, by unfold zR; omega, hQ⟩
  · rwa [if_neg (by omega), if_neg (by omega), if_neg (by omega), if_neg (by omega), if_neg (by omega)] at hQ
theorem gup_wf {b to : Int} (wf : WF n W h K F P T) (ht : 0 ≤ to ∧ to < W) : WF n W h K F (gup P b to) T := by
  obtain ⟨hn, hW, hh, wb, ww⟩ := wf
  refine ⟨hn, hW, hh, fun c h1 h2 => ⟨(wb c h1 h2).1, (wb c h1 h2).2.1, ?_⟩, ww⟩
  unfold gup
  split
  · exact ht
  · exact (wb c h1 h2).2.2
theorem gP_wf {fl : Int} (wf : WF n W h K F P T) (hf : -1 ≤ fl ∧ fl < W) : ∀ m : Nat, (m : Int) ≤ n → WF n W h K F (gP n W h K F P fl m).1 T
  | 0, _ => wf
  | m + 1, hm => by
    have ih := gP_wf wf hf m (by omega)
    have hw := gwant_b (b := m) ih (by omega) hf
    unfold gP
    dsimp only
    split
    · exact gup_wf ih hw
    · exact ih
theorem WF.hour {h' : Int} (wf : WF n W h K F P T) (hh : 0 ≤ h' ∧ h' ≤ 1000000) : WF n W h' K F P T := ⟨wf.1, wf.2.1, hh, wf.2.2.2⟩
theorem C_pass {fl : Int} {Q : Int → zM → Prop} (hk : k ∈ zFl) (A : CF k Z n W h K F P T) (wf : WF n W h K F P T) (hf : -1 ≤ fl ∧ fl < W) (hh : h < 1000000) (hQ : ∀ Z', CF k Z' n W (h + 1) K F (gP n W h K F P fl n.toNat).1 T → fr k Z Z' → Q (gP n W h K F P fl n.toNat).2 Z') : TI (d + 3) 25 [.inr k, .inl fl] Z Q := by
  obtain ⟨hn, hW, hh0, wb, ww⟩ := id wf
  refine w25_0 hk ?_
  suffices H : ∀ m : Nat, m ≤ n.toNat → ∀ (Z1 : zM) (o4 : Option zV), CF k Z1 n W h K F (gP n W h K F P fl m).1 T → fr k Z Z1 → TZ (d + 3) 25 4 [some (.inr k), some (.inl fl), some (.inl (gP n W h K F P fl m).2), some (.inl (m : Int)), o4] [] Z1 (zri Q) by
    exact H 0 (Nat.zero_le _) Z none A (fr.refl _ _)
  intro m hm
  refine zdown (P := fun m => ∀ (Z1 : zM) (o4 : Option zV), CF k Z1 n W h K F (gP n W h K F P fl m).1 T → fr k Z Z1 → TZ (d + 3) 25 4 [some (.inr k), some (.inl fl), some (.inl (gP n W h K F P fl m).2), some (.inl (m : Int)), o4] [] Z1 (zri Q)) (n := n.toNat) ?_ ?_ m hm
  · intro Z1 o4 A1 f1
    obtain ⟨e5, e6, e7, eb, ew⟩ := A1
    refine w25_4 hk ⟨by unfold zR; omega, by unfold zR; omega, fun c Z2 z2 => hQ Z2 ?_ ?_, fun c => absurd (show Z1 k 5 ≤ (n.toNat : Int) by omega) c⟩
    · subst z2
      rw [e7]
      exact ⟨by simp [zup, e5], by simp [zup, e6], by simp [zup], fun b h1 h2 => by simpa [zup] using eb b h1 h2, fun w h1 h2 => by simpa [zup] using ew w h1 h2⟩
    · subst z2
      exact fr.trans f1 (fr_up (by omega))
  · intro m hm ih Z1 o4 A1 f1
    have wf1 := gP_wf wf hf m (by omega)
    have A1' := A1
    obtain ⟨e5, e6, e7, eb, ew⟩ := A1
    have hw := gwant_b (b := m) wf1 (by omega) hf
    have e3 := (eb m (by omega) (by omega)).2.2
    have b3 := (wf1.2.2.2.1 m (by omega) (by omega)).2.2
    refine w25_4 hk ⟨by unfold zR; omega, by unfold zR; omega, fun c => absurd c (by omega), fun c => ?_⟩
    refine C_want hk A1' wf1 (by omega) hf ?_
    rw [e3]
    unfold gP at ih
    dsimp only at ih
    refine ⟨by omega, by unfold zR; omega, by unfold zR; omega, fun r => ?_, fun r => ?_⟩
    · rw [if_neg (fun x => x.1 r)] at ih
      exact ih Z1 _ A1' f1
    · refine C_room hk A1' wf1 (by unfold zR; omega) (fun x => ?_) (fun x => ?_)
      · rw [if_pos ⟨r, roomb_iff.mpr x⟩] at ih
        refine ⟨by decide, fun y => absurd y (by decide), fun _ => ?_⟩
        exact C_go hk A1' wf1 (by omega) hw fun Z' A2 f2 => ih Z' _ A2 (fr.trans f1 f2)
      · rw [if_neg (fun y => x (roomb_iff.mp y.2))] at ih
        exact ⟨by decide, fun _ => ih Z1 _ A1' f1, fun y => absurd rfl y⟩
end
