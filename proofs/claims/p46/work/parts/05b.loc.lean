def mchk (cc : ByteArray) (q : mIt) : Bool := decide (decode cc q.1 = .ok (mraw q.2.1 q.2.2.1 q.2.2.2.1 q.2.2.2.2, mlen q.2.1 q.2.2.1 q.2.2.2.2))
/-- a site belongs to its method's class -/
def mown (c : Nat) (q : mIt) : Bool := match q with
  | (_, g, op, a, b) => match g with
    | 2 => match op with
      | 0 => match mFS[a]? with | some z => z.1 == c | none => false
      | 1 => match mFS[a]? with | some z => z.1 == c | none => false
      | 6 => match mNS[a]? with | some z => z.1 == c && z.2.2.1 == 0 | none => false
      | 8 => match mNS[a]? with | some z => z.1 == c && z.2.2.1 == 1 | none => false
      | 9 => match mNS[a]? with | some z => z.1 == c && z.2.2.1 == 2 && b == 2 | none => false
      | _ => true
    | 4 => match op with
      | 0 => match mVS[a]? with | some z => z.1 == c | none => false
      | 1 => match mSS[a]? with | some z => z.1 == c && decide (z.2.2.2.1 < 2) | none => false
      | _ => match mIS[a]? with | some z => z.1 == c && decide (z.2.2.2.1 < 2) | none => false
    | 5 => match op with
      | 0 => match mSS[a]? with | some z => z.1 == c && z.2.2.2.1 == 2 | none => false
      | 2 => match mSS[a]? with | some z => z.1 == c && z.2.2.2.1 == 3 | none => false
      | 3 => match mSS[a]? with | some z => z.1 == c && z.2.2.2.1 == 4 | none => false
      | 4 => match mSS[a]? with | some z => z.1 == c && z.2.2.2.1 == 5 | none => false
      | _ => match mIS[a]? with | some z => z.1 == c && z.2.2.2.1 == 2 | none => false
    | 6 => match mKS[a]? with
      | some z => z.1 == c && (match op with | 0 => !z.2.2.1 | 1 => !z.2.2.1 | _ => z.2.2.1)
      | none => false
    | _ => true
def yExt (c' : ByteArray) (p' : Nat) (c : ByteArray) (p : Nat) : Prop := ∀ j, (h : p' + j < c'.size) → ∃ h2 : p + j < c.size, c[p + j] = c'[p' + j]
theorem yExt.up {c' c : ByteArray} {p' p : Nat} (e : yExt c' p' c p) (k : Nat) : yExt c' (p' + k) c (p + k) := fun j h => by
  have e := e (k + j)
  simp only [← Nat.add_assoc] at e
  exact e h
def yLoc {α : Type} (r : Decoder α) : Prop := ∀ c' p' c p, yExt c' p' c p → ∀ x q, r.runAt c' p' = .ok (x, q) → ∃ k, q = p' + k ∧ r.runAt c p = .ok (x, p + k)
theorem yLoc.pure {α : Type} (x : α) : yLoc (pure x) := fun c' p' c p e y q h => by cases h; exact ⟨0, rfl, rfl⟩
theorem yLoc.throw {α : Type} (x : DecodeError) : yLoc (throw x : Decoder α) := fun c' p' c p e y q h => by cases h
theorem yrun_bind {α β : Type} (r : Decoder α) (f : α → Decoder β) (c : ByteArray) (p : Nat) : (r >>= f).runAt c p = (match r.runAt c p with | .ok z => (f z.1).runAt c z.2 | .error e => .error e) := by
  show Except.bind (r.runAt c p) _ = _
  cases r.runAt c p <;> rfl
theorem yLoc.bind {α β : Type} {r : Decoder α} {f : α → Decoder β} (h : yLoc r) (g : ∀ x, yLoc (f x)) : yLoc (r >>= f) := by
  intro c' p' c p e y q hh
  rw [yrun_bind] at hh
  cases h1 : r.runAt c' p' with
  | error e => rw [h1] at hh; cases hh
  | ok z =>
    rw [h1] at hh
    obtain ⟨x, q1⟩ := z
    obtain ⟨k, ek, h2⟩ := h c' p' c p e x q1 h1
    subst ek
    obtain ⟨k2, e2, h3⟩ := g x c' (p' + k) c (p + k) (e.up k) y q hh
    refine ⟨k + k2, by omega, ?_⟩
    rw [yrun_bind, h2]
    show (f x).runAt c (p + k) = _
    rw [h3, Nat.add_assoc]
theorem yrun_u1 (c : ByteArray) (p : Nat) : (Reader.u1 : Decoder Nat).runAt c p = if h : p < c.size then .ok (c[p].toNat, p + 1) else .error (.truncated p) := by
  show (dite (p < c.size) (fun h => (do set (p + 1); Pure.pure c[p].toNat : Decoder Nat)) (fun _ => throw (HasTruncated.truncated p))) c p = _
  by_cases h : p < c.size
  · rw [dif_pos h, dif_pos h]; rfl
  · rw [dif_neg h, dif_neg h]; rfl
theorem yLoc.u1 : yLoc Reader.u1 := by
  intro c' p' c p e x q h
  rw [yrun_u1] at h
  by_cases h1 : p' < c'.size
  · rw [dif_pos h1] at h
    obtain ⟨h2, e2⟩ := e 0 h1
    refine ⟨1, ?_, ?_⟩
    · injection h with h; injection h with h3 h4; exact h4.symm
    · injection h with h; injection h with h3 h4
      have h2 : p < c.size := h2
      have e2 : c[p] = c'[p'] := e2
      rw [yrun_u1, dif_pos h2, ← h3, e2]
  · rw [dif_neg h1] at h; cases h
theorem yLoc.map {α β : Type} {r : Decoder α} (f : α → β) (h : yLoc r) : yLoc (f <$> r) := yLoc.bind (f := fun x => Pure.pure (f x)) h fun x => yLoc.pure (f x)
theorem yLoc.u2 : yLoc Reader.u2 := yLoc.bind yLoc.u1 fun _ => yLoc.bind yLoc.u1 fun _ => yLoc.pure _
theorem yLoc.u4 : yLoc Reader.u4 := yLoc.bind yLoc.u2 fun _ => yLoc.bind yLoc.u2 fun _ => yLoc.pure _
theorem yLoc.s1 : yLoc Reader.s1 := yLoc.map _ yLoc.u1
theorem yLoc.s2 : yLoc Reader.s2 := yLoc.map _ yLoc.u2
theorem yLoc.s4 : yLoc Reader.s4 := yLoc.map _ yLoc.u4
theorem yLoc.ite {α : Type} {p : Prop} [Decidable p] {r r' : Decoder α} (h : yLoc r) (h' : yLoc r') : yLoc (if p then r else r') := by split <;> assumption
theorem yLoc.newarray (pc : Nat) : yLoc (Decoder.newarray pc) := by
  unfold Decoder.newarray
  refine yLoc.bind yLoc.u1 fun x => ?_
  split <;> first | exact yLoc.pure _ | exact yLoc.throw _
theorem yLoc.multi (pc : Nat) : yLoc (Decoder.multianewarray pc) := by
  unfold Decoder.multianewarray
  refine yLoc.bind yLoc.u2 fun x => yLoc.bind yLoc.u1 fun y => ?_
  dsimp only
  split
  · exact yLoc.pure _
  · exact yLoc.bind (yLoc.throw _) fun _ => yLoc.pure _
theorem yLoc.iface (pc : Nat) : yLoc (Decoder.invokeinterface pc) := by
  unfold Decoder.invokeinterface
  refine yLoc.bind yLoc.u2 fun x => yLoc.bind yLoc.u1 fun y => yLoc.bind yLoc.u1 fun z => ?_
  dsimp only
  split
  · exact yLoc.pure _
  · exact yLoc.bind (yLoc.throw _) fun _ => yLoc.pure _
theorem yLoc.dyn (pc : Nat) : yLoc (Decoder.invokedynamic pc) := by
  unfold Decoder.invokedynamic
  refine yLoc.bind yLoc.u2 fun x => yLoc.bind yLoc.u2 fun y => ?_
  dsimp only
  split
  · exact yLoc.pure _
  · exact yLoc.bind (yLoc.throw _) fun _ => yLoc.pure _
theorem yLoc.wide (pc : Nat) : yLoc (Decoder.wide pc) := by
  unfold Decoder.wide
  refine yLoc.bind yLoc.u1 fun x => ?_
  split <;> first | exact yLoc.bind yLoc.u2 fun _ => yLoc.pure _ | exact yLoc.throw _ | exact yLoc.bind yLoc.u2 fun _ => yLoc.bind yLoc.s2 fun _ => yLoc.pure _

set_option maxRecDepth 8000 in
theorem yinstr (pc : Nat) {c' c : ByteArray} {p' p : Nat} (e : yExt c' p' c p) (x : Instr) (q b : Nat) (hb : (Reader.u1 : Decoder Nat).runAt c' p' = .ok (b, p' + 1)) (n1 : b ≠ 170) (n2 : b ≠ 171) (h : (Decoder.instr pc).runAt c' p' = .ok (x, q)) : ∃ k, q = p' + k ∧ (Decoder.instr pc).runAt c p = .ok (x, p + k) := by
  unfold Decoder.instr at h ⊢
  obtain ⟨k, ek, h2⟩ := yLoc.u1 c' p' c p e b _ hb
  have ek : k = 1 := by omega
  subst ek
  rw [yrun_bind, hb] at h
  rw [yrun_bind, h2]
  dsimp only at h ⊢
  have fin : ∀ (f : Decoder Instr), yLoc f → f.runAt c' (p' + 1) = .ok (x, q) → ∃ k, q = p' + k ∧ f.runAt c (p + 1) = .ok (x, p + k) := fun f lf hf => by
    obtain ⟨k, e1, e2⟩ := lf c' (p' + 1) c (p + 1) (e.up 1) x q hf
    exact ⟨1 + k, by omega, by rw [e2, Nat.add_assoc]⟩
  refine fin _ ?_ h
  clear h h2 hb fin
  split <;> first | exact yLoc.pure _ | exact yLoc.bind yLoc.u1 fun _ => yLoc.pure _ | exact yLoc.bind yLoc.s2 fun _ => yLoc.pure _ | exact yLoc.bind yLoc.u2 fun _ => yLoc.pure _ | exact yLoc.bind yLoc.s1 fun _ => yLoc.pure _ | exact yLoc.bind yLoc.s4 fun _ => yLoc.pure _ | exact yLoc.bind yLoc.u1 fun _ => yLoc.bind yLoc.s1 fun _ => yLoc.pure _ | exact absurd rfl n1 | exact absurd rfl n2 | exact yLoc.iface _ | exact yLoc.dyn _ | exact yLoc.newarray _ | exact yLoc.multi _ | exact yLoc.wide _ | exact yLoc.throw _
def ysl (s : List UInt8) : ByteArray := ⟨⟨s.take 8⟩⟩
/-- all in one walk over the bytes -/
def ywk (cc : ByteArray) : List UInt8 → Nat → List mIt → Bool
  | _, _, [] => true
  | l, pc, q :: r => match l.drop (q.1 - pc) with
    | [] => false
    | b :: t => decide (pc ≤ q.1) && ((b.toNat != 170 && b.toNat != 171 && decide ((Decoder.instr q.1).runAt (ysl (b :: t)) 0 = .ok (mraw q.2.1 q.2.2.1 q.2.2.2.1 q.2.2.2.2, mlen q.2.1 q.2.2.1 q.2.2.2.2))) || mchk cc q) && ywk cc (b :: t) q.1 r
theorem ywk_s {cc : ByteArray} {l : List UInt8} {pc : Nat} {q : mIt} {r : List mIt} : ywk cc l pc (q :: r) = (match l.drop (q.1 - pc) with | [] => false | b :: t => decide (pc ≤ q.1) && ((b.toNat != 170 && b.toNat != 171 && decide ((Decoder.instr q.1).runAt (ysl (b :: t)) 0 = .ok (mraw q.2.1 q.2.2.1 q.2.2.2.1 q.2.2.2.2, mlen q.2.1 q.2.2.1 q.2.2.2.2))) || mchk cc q) && ywk cc (b :: t) q.1 r) := rfl
theorem yext {cc : ByteArray} {p : Nat} {s : List UInt8} (h : s = cc.data.toList.drop p) : yExt (ysl s) 0 cc p := by
  intro j hj
  have h1 : j < (s.take 8).length := by have : 0 + j < (s.take 8).length := hj; omega
  have h2 : j < s.length := by rw [List.length_take] at h1; omega
  have h3 : p + j < cc.data.toList.length := by rw [h, List.length_drop] at h2; omega
  refine ⟨h3, ?_⟩
  show cc.data.toList[p + j] = (s.take 8)[0 + j]
  simp only [Nat.zero_add, List.getElem_take]
  subst h
  rw [List.getElem_drop]
theorem ywk_ok {cc : ByteArray} : ∀ (its : List mIt) (l : List UInt8) (pc : Nat), l = cc.data.toList.drop pc → ywk cc l pc its = true → its.all (mchk cc) = true
  | [], _, _, _, _ => rfl
  | q :: r, l, pc, hl, h => by
    rw [ywk_s] at h
    cases hs : l.drop (q.1 - pc) with
    | nil => rw [hs] at h; cases h
    | cons b t =>
      rw [hs] at h
      have h : (decide (pc ≤ q.1) && ((b.toNat != 170 && b.toNat != 171 && decide ((Decoder.instr q.1).runAt (ysl (b :: t)) 0 = .ok (mraw q.2.1 q.2.2.1 q.2.2.2.1 q.2.2.2.2, mlen q.2.1 q.2.2.1 q.2.2.2.2))) || mchk cc q) && ywk cc (b :: t) q.1 r) = true := h
      rw [Bool.and_eq_true, Bool.and_eq_true, Bool.or_eq_true, Bool.and_eq_true, Bool.and_eq_true] at h
      obtain ⟨⟨h1, h2⟩, h3⟩ := h
      have h1 := of_decide_eq_true h1
      have hb : b :: t = cc.data.toList.drop q.1 := by
        rw [← hs, hl, List.drop_drop]
        rw [show pc + (q.1 - pc) = q.1 by omega]
      show (mchk cc q && r.all (mchk cc)) = true
      rw [ywk_ok r (b :: t) q.1 hb h3, Bool.and_true]
      rcases h2 with ⟨⟨n1, n2⟩, h4⟩ | h4
      · have h4 := of_decide_eq_true h4
        have hu : (Reader.u1 : Decoder Nat).runAt (ysl (b :: t)) 0 = .ok (b.toNat, 0 + 1) := rfl
        obtain ⟨k, ek, hr⟩ := yinstr q.1 (yext hb) _ _ b.toNat hu (by intro e; rw [e] at n1; exact absurd n1 (by decide)) (by intro e; rw [e] at n2; exact absurd n2 (by decide)) h4
        unfold mchk
        refine decide_eq_true ?_
        show (Except.bind ((Decoder.instr q.1).runAt cc q.1) _) = _
        rw [hr]
        show Except.ok (_, q.1 + k - q.1) = _
        rw [ek, show q.1 + k - q.1 = 0 + k by omega]
      · exact h4
