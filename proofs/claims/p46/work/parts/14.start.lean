-- ===== end of PART A; then your names; then what follows =====
/-! THE CLAIM OUT OF ONE WALK OF THE LAW'S BODY. Your part is whole_start (and what it stands on); all else here is the same for every law, but numbers. -/
def R_law : String := "ClockOfSwallowsLaw"
def lw_P (b : Addr) (xs : List Int32) (args : Array Value) (s : State) : Prop := args = #[.ref b] ∧ s.IntsAt b xs ∧ xs.length ≤ 2560 ∧ (Jvm.Cond.and given_1 narrow_1).before args s = true
def lw_Q (_ : Array Value) (s : State) (o : Outcome) (t : State) : Prop := o = .returned (some (.int 1)) ∧ Framed s o t [] 600000 7302250
def lw_Z (below : List Frame) (a : Array Value) (s : State) : State → Prop := fun t => ∃ o, t.status = .running ∧ Ended t below o ∧ lw_Q a s o t
/-- the law's own end, with 1 on the stack, nothing written that was there before, its room as the claim has it -/
theorem lw_ret {p : Program} {l : Launch} {e : Env} {s : State} {m : MethodId} {below : List Frame} {meth : Method} {c : Code} {b : Nat} (hx : p.tables.exec = Jvm.exec) (hb : c.code = code) (hr : meth.sig.returnType = ret) (hlocks : meth.locks = false) {pc : Nat} {H : Heap} {ls : Array Slot} (hdg : decode code pc = .ok (.ireturn, 1)) : W p l e room_1 s m #[Value.ref b] below meth c H [] 600000 7302250 (lw_Z below #[Value.ref b] s) (F0 m pc ls [.int 1]) := by
  intro T hT X
  obtain ⟨fs, hret, hrun, hended, hW, hframe⟩ := X.leave (v := some (.int 1)) (hlocks := hlocks) (fun h => by rw [hr] at h; cases h)
  have hmeth' : T.vm.method? m = some meth := X.method'
  refine ⟨T.setFrames fs, ?_, .returned (some (.int 1)), hrun, hended, rfl, ⟨_, rfl⟩, hW, hframe⟩
  jvm_step X.here [X.here.top, hx, hb, hdg, hmeth', hr, ret, narrow_b1]
  (try refine ⟨rfl, ?_⟩); (try refine ⟨rfl, ?_⟩)
  first | (intro acts; rw [hret _ acts rfl rfl rfl]) | rw [hret _ _ rfl rfl rfl]
  exact Steps.refl _
/-- what holds at the law's entry: the machine, the code, the tables' words (any of lw_tbl by 'hts w (by decide +kernel)'), the script of L ints xs at the cell b, what the Statement gives of the start (any of its parts by flat_of_before) -/
def lw_At (p : Program) (s : State) (m : MethodId) (meth : Method) (c : Code) (b L : Nat) (xs : Nat → Int32) : Prop :=
  p.tables.exec = Jvm.exec ∧ c.code = code ∧ meth.sig.returnType = ret ∧ c.maxLocals = 4 ∧ s.vm.findClass R_law = some m.cls ∧ (∀ w ∈ lw_tbl, w.before #[Value.ref b] s = true) ∧ va_X b L xs s s.heap ∧ b < s.heap.size ∧ meth.locks = false ∧ (Jvm.Cond.and given_1 narrow_1).before #[Value.ref b] s = true
theorem mAOFlock : (.arrayOver (.object RX2) : Cond) ∈ mTL := wd165
theorem mAOII : (.arrayOver (.array .int) : Cond) ∈ mTL := wd173
/-- WHAT IS LEFT: the mini-machine runs the law to 1, for every script -/
def mGoal : Prop := ∀ (L : Nat) (xs : Nat → Int32), L ≤ 2560 → ∃ (n : Nat) (M' : List mE), exA n 800 (some (L, xs)) mLawN 0 [some (.ref mSCR), none, none, none] [] [] = some (some (.int 1), M') ∧ M'.length ≤ 600000 ∧ msz M' ≤ 7302250
theorem mTW_of {A : Array Value} {s : State} (h : ∀ w ∈ lw_tbl, w.before A s = true) : mTW s := by
  intro w hw a
  have hm := (List.mem_filter.mp hw).2
  have h0 := h w (List.mem_filter.mp hw).1
  cases w with
  | fieldLinkNest a1 a2 a3 a4 a5 a6 => exact va_Nw.use rfl (va_Nw.of rfl h0)
  | methodLinkNest a1 a2 a3 a4 => exact va_Nw.use rfl (va_Nw.of rfl h0)
  | declares a1 => exact va_Nw.use rfl (va_Nw.of rfl h0)
  | arrayOver a1 => exact h0
  | _ => exact word_at (State.WarmedH.refl s) (good_of_word (by simpa [mmv] using hm)) h0
theorem mAOa_spec {ty : FieldType} {s : State} {A : Array Value} (h : (Cond.arrayOver (.array ty)).before A s = true) : ∃ (c : Nat) (k : Class) (comp : ClassId), s.vm.classes[c]? = some k ∧ k.kind = .array comp (.array ty) ∧ s.vm.findClass ("[" ++ (FieldType.array ty).toString) = some c := by
  unfold Cond.before Cond.holds at h
  simp only [Cond.value, beq_iff_eq] at h
  cases hc : s.vm.findClass (FieldType.array ty).toString with
  | none => simp [hc] at h
  | some comp =>
    simp only [hc, Option.bind_some, Option.bind_eq_some_iff, Option.map_eq_some_iff] at h
    obtain ⟨c, hi, k, hk, hb⟩ := h
    cases hkind : k.kind with
    | array component t =>
      rw [hkind] at hb
      simp at hb
      exact ⟨c, k, component, hk, by rw [hkind, hb.1], hb.2⟩
    | _ => rw [hkind] at hb; simp at hb
theorem mKK_of {s : State} (hT : mTW s) : ∃ (D : va_G) (g : Nat → ClassId), mKK D g s := by
  have h1 : ∀ c : Nat, ∃ z : ClassId × (Nat → Nat), ∀ q : vw_C, mcl[c]? = some q → u_Kn s q.1 q.2.1 q.2.2 z.1 z.2 := by
    intro c
    cases hq : mcl[c]? with
    | none => exact ⟨(0, fun _ => 0), fun q h => by cases h⟩
    | some q =>
      obtain ⟨cC, iS, hK⟩ := u_known (C := q.1) (T := q.2.1) (N := q.2.2) (n := q.2.2) (ws := mTL) (args := #[]) (fun w hw => hT w hw #[]) (mlay_all c q hq) (hT _ (mins_all c q hq) #[])
      exact ⟨(cC, iS), fun q' h => by cases h; exact hK⟩
  obtain ⟨cI, kI, compI, a1, a2, a3⟩ := Cond.arrayClass_spec (hT _ warr #[])
  obtain ⟨compF, cF, kF, b1, -, b2, b3, b4⟩ := Cond.arrayOver_spec (hT _ mAOFlock #[])
  obtain ⟨cA, kA, compA, d1, d2, d3⟩ := mAOa_spec (hT _ mAOII #[])
  refine ⟨(fun c => (Classical.choose (h1 c)).1, fun c => (Classical.choose (h1 c)).2), fun k => if k = 0 then cI else if k = 1 then cF else cA, ⟨fun c q hq => Classical.choose_spec (h1 c) q hq, fun k q hk => ?_⟩, hT⟩
  match k, hk with
  | 0, hk => cases hk; exact ⟨fun n z => ⟨fun k h => (by cases h), kI, a2, compI, a3⟩, a1⟩
  | 1, hk => cases hk; exact ⟨fun n z => ⟨fun k h => (by cases h), kF, b2, compF, b3⟩, kF, compF, b2, b3, b1, b4⟩
  | 2, hk => cases hk; exact ⟨fun n z => ⟨fun k h => (by cases h), kA, d1, compA, d2⟩, d3⟩
  | k + 3, hk => cases hk
set_option maxRecDepth 20000 in
theorem mLaw_facts : mB mLawN = code ∧ mLo mLawN = 4 ∧ mR mLawN = some .boolean ∧ mcn (mCno mLawN) = R_law ∧ (mN mLawN).name = "law" := ⟨rfl, rfl, rfl, rfl, rfl⟩
set_option maxHeartbeats 2000000 in
theorem whole_of (hG : mGoal) {p : Program} {e : Env} {s : State} {m : MethodId} {below : List Frame} {meth : Method} {c : Code} (l : Launch) {b L : Nat} {xs : Nat → Int32} (hL : L ≤ 2560) (C0 : lw_At p s m meth c b L xs) : W p l e room_1 s m #[Value.ref b] below meth c s.heap [] 0 0 (lw_Z below #[Value.ref b] s) (entryFrame m ([Value.ref b] : List Value).toArray 4) := by
  obtain ⟨hx, hb, hr, hml, hown, hts, hX, hbl, hlocks, hgv⟩ := C0
  obtain ⟨f1, f2, f3, f4, f5⟩ := mLaw_facts
  obtain ⟨D, g, hK⟩ := mKK_of (mTW_of hts)
  obtain ⟨n, M', hrun, hc9, hs9⟩ := hG L xs hL
  have hl0 := lv_entry ([.ref b]) (n := 4) (Nat.le_of_ble_eq_true rfl)
  rw [lg_entry_eq]
  generalize (lg_sl ([.ref b]) ++ List.replicate (4 - (lg_sl ([.ref b])).length) Slot.unset).toArray = ls at hl0 ⊢
  have hl : lv_has ls (mLo mLawN) (mkl s.heap.size b [some (.ref mSCR), none, none, none]) := by
    rw [f2]
    refine lv_less hl0 (fun q hq => ?_)
    obtain ⟨i, w⟩ := q
    obtain ⟨v, h1, rfl⟩ := mkl_mem.mp hq
    match i, h1 with
    | 0, h1 => cases h1; exact List.mem_cons_self
    | 1, h1 => cases h1
    | 2, h1 => cases h1
    | 3, h1 => cases h1
    | i + 4, h1 => simp [mget] at h1
  have hRel : mRel D g s.heap.size b [] s.heap := ⟨rfl, by decide, fun k q h => by cases h⟩
  refine snd_W l D g n 800 (some (L, xs)) mLawN 0 _ [] [] _ M' hrun p e room_1 s m #[Value.ref b] below meth c s.heap s.heap [] 0 0 _ s.heap.size b ls ⟨hx, hb.trans f1.symm, by rw [f4]; exact hown, hK, fun h => absurd (f5.symm.trans h) (by decide), hml.trans f2.symm⟩ (by rw [f2]; rfl) hl (Nat.le_of_ble_eq_true rfl) (Nat.le_of_ble_eq_true rfl) (by show 0 + M'.length ≤ 600000 + 0; omega) (by show 0 + msz M' ≤ 7302250 + 0; omega) hRel va_S.rf ⟨hX, hbl, hbl⟩ ?_
  intro pc' op a bb ls' st' H1 locs1 cells1 slots1 hrt hd hc1 hs1 hR1 hS1
  have hc1 : cells1 = M'.length := by have : cells1 + 0 = 0 + M'.length := hc1; omega
  have hs1 : slots1 = msz M' := by have : slots1 + 0 = 0 + msz M' := hs1; omega
  refine W.widen (k := 600000) (n := 7302250) (by omega) (by omega) (va_forget (fun q hq => hS1.2.2 q hq) ?_)
  rw [f1] at hd
  match op, hrt, hd with
  | 0, hrt, hd =>
    simp only [mret] at hrt
    split at hrt
    · rw [f3] at hrt
      simp only at hrt
      split at hrt
      · cases hrt; exact lw_ret hx hb hr hlocks hd
      · cases hrt
    · cases hrt
  | 1, hrt, hd =>
    simp only [mret] at hrt
    repeat' split at hrt
    all_goals cases hrt
  | 2, hrt, hd =>
    simp only [mret] at hrt
    repeat' split at hrt
    all_goals cases hrt
  | op + 3, hrt, hd => cases hrt
