/-! THE MACHINE OVER INTEGERS: what a stretch of code needs of integers, step by step; calls by contract -/
abbrev zV : Type := Int ⊕ Nat
abbrev zM : Type := Nat → Int → Int
def zv : zV → Value
  | .inl x => .int (Int32.ofInt x)
  | .inr k => .ref k
def zm (Z : zM) : mMem := fun k j => Int32.ofInt (Z k (j : Int))
def zS (st : List zV) : List Value := st.map zv
def zL (L : List (Option zV)) : List (Option Value) := L.map (Option.map zv)
abbrev zR (x : Int) : Prop := -2147483648 ≤ x ∧ x ≤ 2147483647
def zup (Z : zM) (k : Nat) (j x : Int) : zM := fun q p => if q = k then (if p = j then x else Z q p) else Z q p
def zcpy (Z : zM) (ks kd : Nat) (n : Int) : zM := fun q p => if q = kd then (if 0 ≤ p ∧ p < n then Z ks p else Z q p) else Z q p
def TZ (d y pc : Nat) (L : List (Option zV)) (st : List zV) (Z : zM) (R : Option zV → zM → Prop) : Prop :=
  ∃ r Z', EvS d none y pc (zL L) (zS st) (zm Z) (r.map zv, zm Z') ∧ R r Z'
def zent (y : Nat) (args : List zV) : List (Option zV) := args.map some ++ List.replicate (mLo y - args.length) none
def zri (Q : Int → zM → Prop) : Option zV → zM → Prop := fun r Z => ∃ x, r = some (.inl x) ∧ Q x Z
def zrv (Q : zM → Prop) : Option zV → zM → Prop := fun r Z => r = none ∧ Q Z
def zrr (Q : Nat → zM → Prop) : Option zV → zM → Prop := fun r Z => ∃ x, r = some (.inr x) ∧ Q x Z
/-- a method is called: it ends, with an int (TI), with nothing (TV), with a cell (TR) -/
def TI (d y : Nat) (args : List zV) (Z : zM) (Q : Int → zM → Prop) : Prop := TZ d y 0 (zent y args) [] Z (zri Q)
def TV (d y : Nat) (args : List zV) (Z : zM) (Q : zM → Prop) : Prop := TZ d y 0 (zent y args) [] Z (zrv Q)
def TR (d y : Nat) (args : List zV) (Z : zM) (Q : Nat → zM → Prop) : Prop := TZ d y 0 (zent y args) [] Z (zrr Q)
theorem zoi {x : Int} (h : zR x) : (Int32.ofInt x).toInt = x := by
  rw [Int32.toInt_ofInt]
  exact abmod h.1 h.2
theorem zio (x : Int32) : Int32.ofInt x.toInt = x := Int32.ofInt_toInt x
theorem zrg (x : Int32) : zR x.toInt := ⟨x.le_toInt, by have := x.toInt_lt; omega⟩
theorem zS_cat {st : List zV} : ((zS st).map fun v => v.category).sum = st.length := by
  induction st with
  | nil => rfl
  | cons v r ih =>
    have e : (zv v).category = 1 := by cases v <;> rfl
    show ((zv v).category :: ((zS r).map fun v => v.category)).sum = r.length + 1
    rw [List.sum_cons, ih, e]
    omega
theorem zv_cat (v : zV) : (zv v).category = 1 := by cases v <;> rfl
theorem zL_get (L : List (Option zV)) (j : Nat) : mget (zL L) j = (L[j]?).join.map zv := by
  unfold mget zL
  rw [List.getElem?_map]
  cases L[j]? with
  | none => rfl
  | some o => cases o <;> rfl
theorem zL_free (L : List (Option zV)) (j : Nat) : mfree (zL L) j = true := by
  cases j with
  | zero => rfl
  | succ i =>
    show (match mget (zL L) i with | some v => v.category != 2 | none => true) = true
    rw [zL_get]
    cases h : (L[i]?).join with
    | none => rfl
    | some v => simp [zv_cat v]
theorem zL_len (L : List (Option zV)) : (zL L).length = L.length := by unfold zL; rw [List.length_map]
theorem zL_set (L : List (Option zV)) (j : Nat) (v : zV) : (zL L).set j (some (zv v)) = zL (L.set j (some v)) := by
  unfold zL
  rw [List.map_set]
  rfl
theorem zL_put {L : List (Option zV)} {j : Nat} (v : zV) (h : j < L.length) : mput (zL L) j (zv v) = some (zL (L.set j (some v))) := by
  unfold mput
  rw [if_pos ⟨by rw [zL_len]; exact h, zL_free _ _, zv_cat v⟩, zL_set]
theorem zslots (args : List zV) : mslots (zS args) = args.map (fun v => some (zv v)) := by
  induction args with
  | nil => rfl
  | cons v r ih =>
    unfold mslots zS at ih ⊢
    rw [List.map_cons, List.flatMap_cons, ih, if_neg (by rw [zv_cat]; decide)]
    rfl
theorem zent_ok (y : Nat) (args : List zV) : zL (zent y args) = ment y (zS args) := by
  unfold ment zent zL
  rw [zslots, List.map_append, List.map_map, List.map_replicate, List.length_map]
  rfl
/-- and, or, xor, shifts -/
def zbit (a : Nat) (x y : Int) : Int := match mbin a (Int32.ofInt x) (Int32.ofInt y) with
  | some z => z.toInt
  | none => 0
theorem zbit_r (a : Nat) (x y : Int) : zR (zbit a x y) := by
  unfold zbit
  split
  · exact zrg _
  · exact ⟨by decide, by decide⟩
def zput (L : List (Option zV)) (j : Nat) (v : zV) : Option (List (Option zV)) := if j < L.length then some (L.set j (some v)) else none
/-- what touches locals and stack alone and asks nothing -/
def zpure (op a : Nat) (b : Int) (L : List (Option zV)) (st : List zV) : Option (List (Option zV) × List zV) := match op with
  | 0 => some (L, .inl b :: st)
  | 1 => if -128 ≤ b ∧ b < 128 then some (L, .inl b :: st) else none
  | 2 => if -32768 ≤ b ∧ b < 32768 then some (L, .inl b :: st) else none
  | 3 => match L[a % 4]? with | some (some (.inl x)) => some (L, .inl x :: st) | _ => none
  | 4 => match L[a]? with | some (some (.inl x)) => some (L, .inl x :: st) | _ => none
  | 5 => match L[a % 4]? with | some (some (.inr x)) => some (L, .inr x :: st) | _ => none
  | 6 => match L[a]? with | some (some (.inr x)) => some (L, .inr x :: st) | _ => none
  | 7 => match st with | .inl x :: r => (zput L (a % 4) (.inl x)).map (fun L' => (L', r)) | _ => none
  | 8 => match st with | .inl x :: r => (zput L a (.inl x)).map (fun L' => (L', r)) | _ => none
  | 9 => match st with | .inr x :: r => (zput L (a % 4) (.inr x)).map (fun L' => (L', r)) | _ => none
  | 10 => match st with | .inr x :: r => (zput L a (.inr x)).map (fun L' => (L', r)) | _ => none
  | 11 => match L[a]? with | some (some (.inl x)) => (zput L a (.inl (x + b))).map (fun L' => (L', st)) | _ => none
  | 12 => match st with
    | .inl y :: .inl x :: r => match a with
      | 0 => some (L, .inl (x + y) :: r)
      | 1 => some (L, .inl (x - y) :: r)
      | 2 => some (L, .inl (x * y) :: r)
      | 3 => some (L, .inl (zbit 3 x y) :: r)
      | 4 => some (L, .inl (zbit 4 x y) :: r)
      | 5 => some (L, .inl (zbit 5 x y) :: r)
      | 6 => some (L, .inl (zbit 6 x y) :: r)
      | 7 => some (L, .inl (zbit 7 x y) :: r)
      | 8 => some (L, .inl (zbit 8 x y) :: r)
      | _ => none
    | _ => none
  | 13 => match st with | .inl x :: r => some (L, .inl (-x) :: r) | _ => none
  | 14 => match st with | _ :: r => some (L, r) | _ => none
  | 15 => match st with | v :: r => some (L, v :: v :: r) | _ => none
  | 16 => match st with | v :: w :: r => some (L, v :: w :: v :: w :: r) | _ => none
  | _ => none
theorem zget_of {L : List (Option zV)} {j : Nat} {v : zV} (h : L[j]? = some (some v)) : mget (zL L) j = some (zv v) := by rw [zL_get, h]; rfl
theorem zput_of {L L' : List (Option zV)} {j : Nat} {v : zV} (h : zput L j v = some L') : mput (zL L) j (zv v) = some (zL L') := by
  unfold zput at h
  split at h
  · next hj => cases h; exact zL_put v hj
  · cases h
theorem zi8 {b : Int} (h : -128 ≤ b ∧ b < 128) : (Int8.ofInt b).toInt32 = Int32.ofInt b := by
  apply Int32.toInt_inj.mp
  rw [Int8.toInt_toInt32, Int8.toInt_ofInt, zoi ⟨by omega, by omega⟩]
  have e : Int8.size = 256 := rfl
  exact Int.bmod_eq_of_le (by omega) (by omega)
theorem zi16 {b : Int} (h : -32768 ≤ b ∧ b < 32768) : (Int16.ofInt b).toInt32 = Int32.ofInt b := by
  apply Int32.toInt_inj.mp
  rw [Int16.toInt_toInt32, Int16.toInt_ofInt, zoi ⟨by omega, by omega⟩]
  have e : Int16.size = 65536 := rfl
  exact Int.bmod_eq_of_le (by omega) (by omega)
theorem zbin_of {a : Nat} {x y : Int} (h : 3 ≤ a ∧ a ≤ 8) : mbin a (Int32.ofInt x) (Int32.ofInt y) = some (Int32.ofInt (zbit a x y)) := by
  obtain ⟨h1, h2⟩ := h
  have : a = 3 ∨ a = 4 ∨ a = 5 ∨ a = 6 ∨ a = 7 ∨ a = 8 := by omega
  unfold zbit
  rcases this with rfl | rfl | rfl | rfl | rfl | rfl <;> (simp only [mbin]; rw [zio])
theorem zpure_ok {op a : Nat} {b : Int} {L L' : List (Option zV)} {st st' : List zV} (h : zpure op a b L st = some (L', st')) : mpure op a b (zL L) (zS st) = some (zL L', zS st') := by
  match op, h with
  | 0, h => cases h; rfl
  | 1, h =>
    simp only [zpure] at h
    split at h
    · next hb => cases h; simp only [mpure]; rw [zi8 hb]; rfl
    · cases h
  | 2, h =>
    simp only [zpure] at h
    split at h
    · next hb => cases h; simp only [mpure]; rw [zi16 hb]; rfl
    · cases h
  | 3, h =>
    simp only [zpure] at h
    split at h
    · next x hx => cases h; simp only [mpure, zget_of hx]; rfl
    · cases h
  | 4, h =>
    simp only [zpure] at h
    split at h
    · next x hx => cases h; simp only [mpure, zget_of hx]; rfl
    · cases h
  | 5, h =>
    simp only [zpure] at h
    split at h
    · next x hx => cases h; simp only [mpure, zget_of hx]; rfl
    · cases h
  | 6, h =>
    simp only [zpure] at h
    split at h
    · next x hx => cases h; simp only [mpure, zget_of hx]; rfl
    · cases h
  | 7, h =>
    match st, h with
    | .inl x :: r, h =>
      simp only [zpure, Option.map_eq_some_iff] at h
      obtain ⟨L1, h1, h2⟩ := h
      cases h2
      have := zput_of h1
      show (mput (zL L) (a % 4) (.int (Int32.ofInt x))).map (fun L' => (L', zS st')) = _
      rw [show Value.int (Int32.ofInt x) = zv (.inl x) from rfl, this]; rfl
    | .inr x :: r, h => cases h
    | [], h => cases h
  | 8, h =>
    match st, h with
    | .inl x :: r, h =>
      simp only [zpure, Option.map_eq_some_iff] at h
      obtain ⟨L1, h1, h2⟩ := h
      cases h2
      have := zput_of h1
      show (mput (zL L) a (.int (Int32.ofInt x))).map (fun L' => (L', zS st')) = _
      rw [show Value.int (Int32.ofInt x) = zv (.inl x) from rfl, this]; rfl
    | .inr x :: r, h => cases h
    | [], h => cases h
  | 9, h =>
    match st, h with
    | .inr x :: r, h =>
      simp only [zpure, Option.map_eq_some_iff] at h
      obtain ⟨L1, h1, h2⟩ := h
      cases h2
      have := zput_of h1
      show (mput (zL L) (a % 4) (.ref x)).map (fun L' => (L', zS st')) = _
      rw [show Value.ref x = zv (.inr x) from rfl, this]; rfl
    | .inl x :: r, h => cases h
    | [], h => cases h
  | 10, h =>
    match st, h with
    | .inr x :: r, h =>
      simp only [zpure, Option.map_eq_some_iff] at h
      obtain ⟨L1, h1, h2⟩ := h
      cases h2
      have := zput_of h1
      show (mput (zL L) a (.ref x)).map (fun L' => (L', zS st')) = _
      rw [show Value.ref x = zv (.inr x) from rfl, this]; rfl
    | .inl x :: r, h => cases h
    | [], h => cases h
  | 11, h =>
    simp only [zpure] at h
    split at h
    · next x hx =>
      simp only [Option.map_eq_some_iff] at h
      obtain ⟨L1, h1, h2⟩ := h
      cases h2
      have := zput_of h1
      simp only [mpure, zget_of hx]
      show (mput (zL L) a (.int (Int32.ofInt x + Int32.ofInt b))).map (fun L' => (L', zS st)) = _
      rw [← Int32.ofInt_add, show Value.int (Int32.ofInt (x + b)) = zv (.inl (x + b)) from rfl, this]; rfl
    · cases h
  | 12, h =>
    match st, h with
    | .inl y :: .inl x :: r, h =>
      show (mbin a (Int32.ofInt x) (Int32.ofInt y)).map (fun z => (zL L, .int z :: zS r)) = _
      match a, h with
      | 0, h => cases h; show some (zL L, Value.int (Int32.ofInt x + Int32.ofInt y) :: zS r) = _; rw [← Int32.ofInt_add]; rfl
      | 1, h => cases h; show some (zL L, Value.int (Int32.ofInt x - Int32.ofInt y) :: zS r) = _; rw [← Int32.ofInt_sub]; rfl
      | 2, h => cases h; show some (zL L, Value.int (Int32.ofInt x * Int32.ofInt y) :: zS r) = _; rw [← Int32.ofInt_mul]; rfl
      | 3, h => cases h; rw [zbin_of (by decide)]; rfl
      | 4, h => cases h; rw [zbin_of (by decide)]; rfl
      | 5, h => cases h; rw [zbin_of (by decide)]; rfl
      | 6, h => cases h; rw [zbin_of (by decide)]; rfl
      | 7, h => cases h; rw [zbin_of (by decide)]; rfl
      | 8, h => cases h; rw [zbin_of (by decide)]; rfl
      | n + 9, h => cases h
    | [], h => cases h
    | [.inl x], h => cases h
    | .inr x :: r, h => cases h
    | .inl y :: .inr x :: r, h => cases h
  | 13, h =>
    match st, h with
    | .inl x :: r, h => cases h; show some (zL L, Value.int (-Int32.ofInt x) :: zS r) = _; rw [← Int32.ofInt_neg]; rfl
    | .inr x :: r, h => cases h
    | [], h => cases h
  | 14, h =>
    match st, h with
    | v :: r, h => cases h; show (if (zv v).category = 1 then some (zL L, zS st') else none) = _; rw [if_pos (zv_cat v)]
    | [], h => cases h
  | 15, h =>
    match st, h with
    | v :: r, h => cases h; show (if (zv v).category = 1 then some (zL L, zv v :: zv v :: zS r) else none) = _; rw [if_pos (zv_cat v)]; rfl
    | [], h => cases h
  | 16, h =>
    match st, h with
    | v :: w :: r, h => cases h; show (if (zv v).category = 1 ∧ (zv w).category = 1 then some (zL L, zv v :: zv w :: zv v :: zv w :: zS r) else none) = _; rw [if_pos ⟨zv_cat v, zv_cat w⟩]; rfl
    | [], h => cases h
    | [v], h => cases h
  | n + 17, h => cases h
section
variable {d y pc op a : Nat} {b : Int} {L L' : List (Option zV)} {st st' : List zV} {Z : zM} {R : Option zV → zM → Prop}
theorem TZ.mono {R' : Option zV → zM → Prop} (h : TZ d y pc L st Z R) (hi : ∀ r Z', R r Z' → R' r Z') : TZ d y pc L st Z R' := by
  obtain ⟨r, Z', h1, h2⟩ := h
  exact ⟨r, Z', h1, hi _ _ h2⟩
theorem TZ.ev (h : TZ d y pc L st Z R) {pc' y' d' : Nat} {L' : List (Option zV)} {st' : List zV} {Z' : zM} (hi : ∀ x, EvS d none y pc (zL L) (zS st) (zm Z) x → EvS d' none y' pc' (zL L') (zS st') (zm Z') x) : TZ d' y' pc' L' st' Z' R := by
  obtain ⟨r, Z1, h1, h2⟩ := h
  exact ⟨r, Z1, hi _ h1, h2⟩
theorem z0 (hI : mI y pc = some (0, op, a, b)) (hp : zpure op a b L st = some (L', st')) (h : TZ d y (pc + mlen 0 op b) L' st' Z R) : TZ d y pc L st Z R :=
  h.ev fun _ hx => EvS.pure hI (zpure_ok hp) hx
theorem z_goto {t : Nat} (hI : mI y pc = some (1, 2, a, b)) (hp : mto pc b = some t) (h : TZ d y t L st Z R) : TZ d y pc L st Z R :=
  h.ev fun _ hx => EvS.jump (pc' := t) (st' := zS st) hI (by show (mto pc b).map (fun t => (t, zS st)) = _; rw [hp]; rfl) hx
def zc (a : Nat) (x y : Int) : Prop := match a with
  | 0 => x = y | 1 => x ≠ y | 2 => x < y | 3 => y ≤ x | 4 => y < x | _ => x ≤ y
theorem zc_ok {a : Nat} {x y : Int} (hx : zR x) (hy : zR y) : mcmp a (Int32.ofInt x) (Int32.ofInt y) = true ↔ zc a x y := by
  have ex := zoi hx
  have ey := zoi hy
  have he : Int32.ofInt x = Int32.ofInt y ↔ x = y := ⟨fun h => by rw [← ex, ← ey, h], fun h => by rw [h]⟩
  match a with
  | 0 => simp only [mcmp, zc, decide_eq_true_eq]; exact he
  | 1 => simp only [mcmp, zc, Bool.not_eq_true', decide_eq_false_iff_not]; exact not_congr he
  | 2 => simp only [mcmp, zc, decide_eq_true_eq]; rw [Int32.lt_iff_toInt_lt, ex, ey]
  | 3 => simp only [mcmp, zc, decide_eq_true_eq]; rw [Int32.le_iff_toInt_le, ex, ey]
  | 4 => simp only [mcmp, zc, decide_eq_true_eq]; rw [Int32.lt_iff_toInt_lt, ex, ey]
  | n + 5 => simp only [mcmp, zc, decide_eq_true_eq]; rw [Int32.le_iff_toInt_le, ex, ey]
theorem z_if2 {x x2 : Int} {t : Nat} (hI : mI y pc = some (1, 1, a, b)) (hp : mto pc b = some t) (hx : zR x) (hx2 : zR x2) (h1 : zc a x x2 → TZ d y t L st Z R) (h2 : ¬ zc a x x2 → TZ d y (pc + 3) L st Z R) : TZ d y pc L (.inl x2 :: .inl x :: st) Z R := by
  have e : mjump 1 a b pc (zS (.inl x2 :: .inl x :: st)) = some (if mcmp a (Int32.ofInt x) (Int32.ofInt x2) = true then t else pc + 3, zS st) := by
    show (mto pc b).map (fun t => (if mcmp a (Int32.ofInt x) (Int32.ofInt x2) = true then t else pc + 3, zS st)) = _
    rw [hp]; rfl
  by_cases hc : zc a x x2
  · rw [if_pos ((zc_ok hx hx2).mpr hc)] at e
    exact (h1 hc).ev fun _ hx => EvS.jump hI e hx
  · rw [if_neg (fun h => hc ((zc_ok hx hx2).mp h))] at e
    exact (h2 hc).ev fun _ hx => EvS.jump hI e hx
theorem z_if0 {x : Int} {t : Nat} (hI : mI y pc = some (1, 0, a, b)) (hp : mto pc b = some t) (hx : zR x) (h1 : zc a x 0 → TZ d y t L st Z R) (h2 : ¬ zc a x 0 → TZ d y (pc + 3) L st Z R) : TZ d y pc L (.inl x :: st) Z R := by
  have e : mjump 0 a b pc (zS (.inl x :: st)) = some (if mcmp a (Int32.ofInt x) (Int32.ofInt 0) = true then t else pc + 3, zS st) := by
    show (mto pc b).map (fun t => (if mcmp a (Int32.ofInt x) 0 = true then t else pc + 3, zS st)) = _
    rw [hp]; rfl
  by_cases hc : zc a x 0
  · rw [if_pos ((zc_ok hx ⟨by decide, by decide⟩).mpr hc)] at e
    exact (h1 hc).ev fun _ hx => EvS.jump hI e hx
  · rw [if_neg (fun h => hc ((zc_ok hx ⟨by decide, by decide⟩).mp h))] at e
    exact (h2 hc).ev fun _ hx => EvS.jump hI e hx
end
/-! cells: fields, arrays -/
def zfr (a k : Nat) : Option Nat := match mFS[a]?, mSH[k]? with
  | some q, some (c + 3, _, fl) => if q.2.2.2.2.2.2.2.contains c = true then (fl[q.2.2.2.2.2.2.1]?).join else none
  | _, _ => none
def zfi (a k : Nat) : Option Nat := match mFS[a]?, mSH[k]? with
  | some q, some (c + 3, _, fl) => if q.2.2.2.2.2.2.2.contains c = true then (match fl[q.2.2.2.2.2.2.1]? with | some none => some q.2.2.2.2.2.2.1 | _ => none) else none
  | _, _ => none
def zpf (a k : Nat) : Option (Nat × Bool) := match mFS[a]? with
  | some q => match mSH[k]? with
    | some (c + 3, _, fl) => match mcl[c]?, mty[c]?, fl[q.2.2.2.2.2.2.1]? with
      | some (_, T, _), some ty, some none => if q.2.2.2.2.2.2.2.contains c = true ∧ (T q.2.2.2.2.2.2.1).2.2.2 = false then (match ty q.2.2.2.2.2.2.1 with | .int => some (q.2.2.2.2.2.2.1, false) | .boolean => some (q.2.2.2.2.2.2.1, true) | _ => none) else none
      | _, _, _ => none
    | _ => none
  | none => none
def zln (k : Nat) : Option Nat := match mSH[k]? with
  | some (0, n, _) => some n
  | _ => none
def zlen (k : Nat) : Option Nat := match mSH[k]? with
  | some (t, n, _) => if t < 3 then some n else none
  | none => none
def zat (k : Nat) (x : Int) : Option Nat := match mSH[k]? with
  | some (t, n, ts) => if t < 3 ∧ t ≠ 0 ∧ 0 ≤ x ∧ x < n then (ts[x.toNat]?).join else none
  | none => none
theorem zsh_lt {k : Nat} {s : Nat × Nat × List (Option Nat)} (h : mSH[k]? = some s) : k < 123 := (List.getElem?_eq_some_iff.mp h).1
theorem zm_up {Z : zM} {k : Nat} {j x : Int} (hj : 0 ≤ j) : zm (zup Z k j x) = mup (zm Z) k j.toNat (Int32.ofInt x) := by
  funext q p
  unfold zm zup mup upd
  by_cases hq : q = k
  · rw [if_pos hq, if_pos hq]
    by_cases hp : (p : Int) = j
    · rw [if_pos hp, if_pos (by omega)]
    · rw [if_neg hp, if_neg (by omega), hq]
  · rw [if_neg hq, if_neg hq]
theorem zidx {x : Int} {n : Nat} (h : 0 ≤ x ∧ x < n) (hn : n ≤ 1000000) : ¬ (Int32.ofInt x < 0 ∨ n ≤ (Int32.ofInt x).toNatClampNeg) ∧ (Int32.ofInt x).toNatClampNeg = x.toNat := by
  have e := zoi (x := x) ⟨by omega, by omega⟩
  have e2 : (Int32.ofInt x).toNatClampNeg = x.toNat := by show (Int32.ofInt x).toInt.toNat = x.toNat; rw [e]
  refine ⟨?_, e2⟩
  rintro (h1 | h1)
  · have := Int32.lt_iff_toInt_lt.mp h1
    rw [e] at this
    have e0 : (0 : Int32).toInt = 0 := rfl
    omega
  · rw [e2] at h1; omega
theorem zsz : mSH.all (fun s => decide (s.2.1 ≤ 1000000)) = true := by decide +kernel
theorem zsz2 {k t n : Nat} {l : List (Option Nat)} (h : mSH[k]? = some (t, n, l)) : n ≤ 1000000 :=
  of_decide_eq_true (List.all_eq_true.mp zsz (t, n, l) (List.mem_of_getElem? h))
section
variable {d y pc op a : Nat} {b : Int} {L L' : List (Option zV)} {st st' : List zV} {Z : zM} {R : Option zV → zM → Prop}
theorem z_fr {k t : Nat} (hI : mI y pc = some (2, 0, a, b)) (hf : zfr a k = some t) (h : TZ d y (pc + 3) L (.inr t :: st) Z R) : TZ d y pc L (.inr k :: st) Z R := by
  refine h.ev fun _ hh => EvS.mem (op := 0) (a := a) (bb := b) (st' := zS (.inr t :: st)) (M' := zm Z) hI ?_ hh
  unfold zfr at hf
  split at hf
  · next q c n fl hF hS =>
    split at hf
    · next hc =>
      show mmemS 0 a none (.ref k :: zS st) (zm Z) = _
      have hf2 : fl[q.2.2.2.2.2.2.1]? = some (some t) := by
        cases hj : fl[q.2.2.2.2.2.2.1]? with
        | none => rw [hj] at hf; cases hf
        | some o => rw [hj] at hf; cases hf; rfl
      simp only [mmemS, hF, hS, if_pos hc, hf2]
      rfl
    · cases hf
  · cases hf
theorem z_fi {k j : Nat} (hI : mI y pc = some (2, 0, a, b)) (hf : zfi a k = some j) (h : TZ d y (pc + 3) L (.inl (Z k (j : Int)) :: st) Z R) : TZ d y pc L (.inr k :: st) Z R := by
  refine h.ev fun _ hh => EvS.mem (op := 0) (a := a) (bb := b) (st' := zS (.inl (Z k (j : Int)) :: st)) (M' := zm Z) hI ?_ hh
  unfold zfi at hf
  split at hf
  · next q c n fl hF hS =>
    split at hf
    · next hc =>
      show mmemS 0 a none (.ref k :: zS st) (zm Z) = _
      split at hf
      · next hj =>
        cases hf
        simp only [mmemS, hF, hS, if_pos hc, hj]
        rfl
      · cases hf
    · cases hf
  · cases hf
theorem z_pf {k j : Nat} {bo : Bool} {x : Int} (hI : mI y pc = some (2, 1, a, b)) (hf : zpf a k = some (j, bo)) (hb : bo = true → x = 0 ∨ x = 1) (h : TZ d y (pc + 3) L st (zup Z k (j : Int) x) R) : TZ d y pc L (.inl x :: .inr k :: st) Z R := by
  refine h.ev fun _ hh => EvS.mem (op := 1) (a := a) (bb := b) (st' := zS st) (M' := zm (zup Z k (j : Int) x)) hI ?_ hh
  rw [zm_up (by omega)]
  unfold zpf at hf
  split at hf
  · next q hF =>
    split at hf
    · next c n fl hS =>
      split at hf
      · next C T N ty h1 h2 h3 =>
        split at hf
        · next hc =>
          show mmemS 1 a none (.int (Int32.ofInt x) :: .ref k :: zS st) (zm Z) = _
          simp only [mmemS, hF, hS, h1, h2, h3]
          split at hf
          · next hty =>
            cases hf
            rw [if_pos ⟨hc.1, by rw [hty]; unfold mnf; simp [narrow, fits], hc.2⟩]
            simp
          · next hty =>
            cases hf
            rw [if_pos ⟨hc.1, by rw [hty]; rcases hb rfl with rfl | rfl <;> rfl, hc.2⟩]
            simp
          · cases hf
        · cases hf
      · cases hf
    · cases hf
  · cases hf
theorem z_al {k n : Nat} {x : Int} (hI : mI y pc = some (2, 2, a, b)) (hn : zln k = some n) (hx : 0 ≤ x ∧ x < n) (h : TZ d y (pc + 1) L (.inl (Z k x) :: st) Z R) : TZ d y pc L (.inl x :: .inr k :: st) Z R := by
  refine h.ev fun _ hh => EvS.mem (op := 2) (a := a) (bb := b) (st' := zS (.inl (Z k x) :: st)) (M' := zm Z) hI ?_ hh
  unfold zln at hn
  split at hn
  · next n' l hS =>
    cases hn
    have hk := zsh_lt hS
    obtain ⟨i1, i2⟩ := zidx hx (zsz2 hS)
    show mmemS 2 a none (.int (Int32.ofInt x) :: .ref k :: zS st) (zm Z) = _
    simp only [mmemS]
    rw [if_neg (show ¬ k = mSCR by unfold mSCR; omega), hS]
    rw [i2] at i1
    simp only [i2]
    rw [if_neg i1]
    unfold zm
    rw [Int.toNat_of_nonneg hx.1]
    rfl
  · cases hn
theorem z_as {k n : Nat} {x v : Int} (hI : mI y pc = some (2, 3, a, b)) (hn : zln k = some n) (hx : 0 ≤ x ∧ x < n) (h : TZ d y (pc + 1) L st (zup Z k x v) R) : TZ d y pc L (.inl v :: .inl x :: .inr k :: st) Z R := by
  refine h.ev fun _ hh => EvS.mem (op := 3) (a := a) (bb := b) (st' := zS st) (M' := zm (zup Z k x v)) hI ?_ hh
  rw [zm_up hx.1]
  unfold zln at hn
  split at hn
  · next n' l hS =>
    cases hn
    obtain ⟨i1, i2⟩ := zidx hx (zsz2 hS)
    show mmemS 3 a none (.int (Int32.ofInt v) :: .int (Int32.ofInt x) :: .ref k :: zS st) (zm Z) = _
    rw [i2] at i1
    simp only [mmemS, hS, i2]
    rw [if_neg i1]
  · cases hn
theorem z_aal {k t : Nat} {x : Int} (hI : mI y pc = some (2, 4, a, b)) (hn : zat k x = some t) (h : TZ d y (pc + 1) L (.inr t :: st) Z R) : TZ d y pc L (.inl x :: .inr k :: st) Z R := by
  refine h.ev fun _ hh => EvS.mem (op := 4) (a := a) (bb := b) (st' := zS (.inr t :: st)) (M' := zm Z) hI ?_ hh
  unfold zat at hn
  split at hn
  · next tt n ts hS =>
    split at hn
    · next hc =>
      obtain ⟨c1, c2, c3, c4⟩ := hc
      obtain ⟨i1, i2⟩ := zidx ⟨c3, c4⟩ (zsz2 hS)
      show mmemS 4 a none (.int (Int32.ofInt x) :: .ref k :: zS st) (zm Z) = _
      have hj : ts[x.toNat]? = some (some t) := by
        cases hj : ts[x.toNat]? with
        | none => rw [hj] at hn; cases hn
        | some o => rw [hj] at hn; cases hn; rfl
      simp only [mmemS, hS, i2, hj]
      rw [if_neg (by rintro (h | h | h); (rw [← i2] at h; exact i1 h); omega; omega)]
      rfl
    · cases hn
  · cases hn
theorem z_len {k n : Nat} (hI : mI y pc = some (2, 5, a, b)) (hn : zlen k = some n) (h : TZ d y (pc + 1) L (.inl (n : Int) :: st) Z R) : TZ d y pc L (.inr k :: st) Z R := by
  refine h.ev fun _ hh => EvS.mem (op := 5) (a := a) (bb := b) (st' := zS (.inl (n : Int) :: st)) (M' := zm Z) hI ?_ hh
  unfold zlen at hn
  split at hn
  · next tt n' ts hS =>
    split at hn
    · next hc =>
      cases hn
      have hk := zsh_lt hS
      show mmemS 5 a none (.ref k :: zS st) (zm Z) = _
      simp only [mmemS]
      rw [if_neg (show ¬ k = mSCR by unfold mSCR; omega), hS]
      simp only [if_pos hc]
      rfl
    · cases hn
  · cases hn
theorem z_reti {x : Int} {Q : Int → zM → Prop} (hI : mI y pc = some (3, 0, a, b)) (hr : mR y = some .int) (h : Q x Z) : TZ d y pc L [.inl x] Z (zri Q) :=
  ⟨some (.inl x), Z, EvS.ret hI (by show mret 0 y [.int (Int32.ofInt x)] = _; simp only [mret, hr]; rfl), x, rfl, h⟩
theorem z_retb {x : Int} {Q : Int → zM → Prop} (hI : mI y pc = some (3, 0, a, b)) (hr : mR y = some .boolean) (hx : x = 0 ∨ x = 1) (h : Q x Z) : TZ d y pc L [.inl x] Z (zri Q) := by
  refine ⟨some (.inl x), Z, EvS.ret hI ?_, x, rfl, h⟩
  show mret 0 y [.int (Int32.ofInt x)] = _
  rcases hx with rfl | rfl
  · simp only [mret, hr]; rfl
  · simp only [mret, hr]; rfl
theorem z_retv {Q : zM → Prop} (hI : mI y pc = some (3, 2, a, b)) (hr : mR y = none) (h : Q Z) : TZ d y pc L [] Z (zrv Q) :=
  ⟨none, Z, EvS.ret hI (by show mret 2 y [] = _; simp only [mret, hr]; rfl), rfl, h⟩
theorem z_retr {k : Nat} {Q : Nat → zM → Prop} {s : String} (hI : mI y pc = some (3, 1, a, b)) (hr : mR y = some (.object s)) (h : Q k Z) : TZ d y pc L [.inr k] Z (zrr Q) :=
  ⟨some (.inr k), Z, EvS.ret hI (by show mret 1 y [.ref k] = _; simp only [mret, hr]; rfl), k, rfl, h⟩
/-! calls -/
def zcl (k : Nat) : Option Nat := match mSH[k]? with
  | some (c + 3, _, _) => some c
  | _ => none
def zvc (a c : Nat) (st : List zV) : Option (Nat × List zV × List zV) := match mVS[a]? with
  | some q => match st.drop q.2.2.2.2.2.1 with
    | .inr k :: r => match q.2.2.2.2.2.2.lookup c with
      | some z => if q.2.2.2.2.2.1 ≤ st.length ∧ r.length ≤ 8 ∧ q.2.2.2.2.2.1 + 1 ≤ mLo z.1 then some (z.1, .inr k :: (st.take q.2.2.2.2.2.1).reverse, r) else none
      | none => none
    | _ => none
  | none => none
def zsc (a : Nat) (st : List zV) : Option (Nat × List zV × List zV) := match mSS[a]? with
  | some q => if q.2.2.2.2.2 ≤ st.length ∧ (st.drop q.2.2.2.2.2).length ≤ 8 ∧ q.2.2.2.2.2 ≤ mLo q.2.2.2.2.1 then some (q.2.2.2.2.1, (st.take q.2.2.2.2.2).reverse, st.drop q.2.2.2.2.2) else none
  | none => none
theorem zvc_ok {c k y' : Nat} {As rest : List zV} (h : zvc a c st = some (y', .inr k :: As, rest)) (hk : zcl k = some c) : mcallS 0 a (zS st) = some (y', zS (.inr k :: As), zS rest) := by
  unfold zvc at h
  split at h
  · next q hq =>
    split at h
    · next k' r hdr =>
      split at h
      · next z hz =>
        split at h
        · next hc =>
          cases h
          unfold zcl at hk
          split at hk
          · next c' n fl hS =>
            cases hk
            have e1 : (zS st).drop q.2.2.2.2.2.1 = .ref k :: zS rest := by unfold zS; rw [← List.map_drop, hdr]; rfl
            have e2 : (Value.ref k :: ((zS st).take q.2.2.2.2.2.1).reverse) = zS (.inr k :: (st.take q.2.2.2.2.2.1).reverse) := by unfold zS; rw [← List.map_take, List.map_cons, List.map_reverse]; rfl
            simp only [mcallS, hq, e1, hS, hz]
            rw [if_pos, e2]
            refine ⟨by unfold zS; rw [List.length_map]; exact hc.1, by rw [zS_cat]; exact hc.2.1, ?_⟩
            rw [e2, zslots, List.length_map, List.length_cons, List.length_reverse, List.length_take]
            omega
          · cases hk
        · cases h
      · cases h
    · cases h
  · cases h
theorem zsc_ok {y' : Nat} {As rest : List zV} (h : zsc a st = some (y', As, rest)) : mcallS 1 a (zS st) = some (y', zS As, zS rest) := by
  unfold zsc at h
  split at h
  · next q hq =>
    split at h
    · next hc =>
      cases h
      have e1 : (zS st).drop q.2.2.2.2.2 = zS (st.drop q.2.2.2.2.2) := by unfold zS; rw [← List.map_drop]
      have e2 : ((zS st).take q.2.2.2.2.2).reverse = zS ((st.take q.2.2.2.2.2).reverse) := by unfold zS; rw [← List.map_take, List.map_reverse]
      show mcall 1 a (zS st) [] = _
      simp only [mcall, hq, e1, e2]
      rw [if_pos]
      refine ⟨by unfold zS; rw [List.length_map]; exact hc.1, by rw [zS_cat]; exact hc.2.1, ?_⟩
      rw [zslots, List.length_map, List.length_reverse, List.length_take]
      omega
    · cases h
  · cases h
theorem z_callg {y' : Nat} {As rest : List zV} (hI : mI y pc = some (4, op, a, b)) (hp : mcallS op a (zS st) = some (y', zS As, zS rest)) (h : TZ d y' 0 (zent y' As) [] Z (fun r Z1 => TZ (d + 1) y (pc + 3) L (r.toList ++ rest) Z1 R)) : TZ (d + 1) y pc L st Z R := by
  obtain ⟨r, Z1, h1, r2, Z2, h2, h3⟩ := h
  refine ⟨r2, Z2, EvS.call hI hp (by rw [← zent_ok]; exact h1) ?_, h3⟩
  have e : zS (r.toList ++ rest) = (r.map zv).toList ++ zS rest := by cases r <;> rfl
  rw [← e]
  exact h2
theorem z_vi {c k y' : Nat} {As rest : List zV} (hI : mI y pc = some (4, 0, a, b)) (hp : zvc a c st = some (y', .inr k :: As, rest)) (hk : zcl k = some c) (h : TI d y' (.inr k :: As) Z (fun x Z1 => TZ (d + 1) y (pc + 3) L (.inl x :: rest) Z1 R)) : TZ (d + 1) y pc L st Z R :=
  z_callg hI (zvc_ok hp hk) (TZ.mono h fun r Z1 hr => by obtain ⟨x, e, hr⟩ := hr; subst e; exact hr)
theorem z_vv {c k y' : Nat} {As rest : List zV} (hI : mI y pc = some (4, 0, a, b)) (hp : zvc a c st = some (y', .inr k :: As, rest)) (hk : zcl k = some c) (h : TV d y' (.inr k :: As) Z (fun Z1 => TZ (d + 1) y (pc + 3) L rest Z1 R)) : TZ (d + 1) y pc L st Z R :=
  z_callg hI (zvc_ok hp hk) (TZ.mono h fun r Z1 hr => by obtain ⟨e, hr⟩ := hr; subst e; exact hr)
theorem z_vr {c k y' : Nat} {As rest : List zV} (hI : mI y pc = some (4, 0, a, b)) (hp : zvc a c st = some (y', .inr k :: As, rest)) (hk : zcl k = some c) (h : TR d y' (.inr k :: As) Z (fun x Z1 => TZ (d + 1) y (pc + 3) L (.inr x :: rest) Z1 R)) : TZ (d + 1) y pc L st Z R :=
  z_callg hI (zvc_ok hp hk) (TZ.mono h fun r Z1 hr => by obtain ⟨x, e, hr⟩ := hr; subst e; exact hr)
theorem z_si {y' : Nat} {As rest : List zV} (hI : mI y pc = some (4, 1, a, b)) (hp : zsc a st = some (y', As, rest)) (h : TI d y' As Z (fun x Z1 => TZ (d + 1) y (pc + 3) L (.inl x :: rest) Z1 R)) : TZ (d + 1) y pc L st Z R :=
  z_callg hI (zsc_ok hp) (TZ.mono h fun r Z1 hr => by obtain ⟨x, e, hr⟩ := hr; subst e; exact hr)
theorem z_sv {y' : Nat} {As rest : List zV} (hI : mI y pc = some (4, 1, a, b)) (hp : zsc a st = some (y', As, rest)) (h : TV d y' As Z (fun Z1 => TZ (d + 1) y (pc + 3) L rest Z1 R)) : TZ (d + 1) y pc L st Z R :=
  z_callg hI (zsc_ok hp) (TZ.mono h fun r Z1 hr => by obtain ⟨e, hr⟩ := hr; subst e; exact hr)
/-! natives, division, constants, switches -/
theorem z_div {x x2 : Int} (hI : mI y pc = some (0, 12, 9, b)) (hx : zR x) (h2 : 1 ≤ x2 ∧ x2 ≤ 2147483647) (h : TZ d y (pc + 1) L (.inl (x.tdiv x2) :: st) Z R) : TZ d y pc L (.inl x2 :: .inl x :: st) Z R := by
  refine h.ev fun _ hh => EvS.pure (op := 12) (a := 9) (bb := b) (L' := zL L) (st' := zS (.inl (x.tdiv x2) :: st)) hI ?_ hh
  show (mbin 9 (Int32.ofInt x) (Int32.ofInt x2)).map (fun z => (zL L, Value.int z :: zS st)) = _
  have e2 := zoi (x := x2) ⟨by omega, by omega⟩
  have ex := zoi hx
  have hne : ¬ Int32.ofInt x2 = 0 := fun e => by have e0 : (0 : Int32).toInt = 0 := rfl; rw [e] at e2; omega
  have e3 : Int32.ofInt x / Int32.ofInt x2 = Int32.ofInt (x.tdiv x2) := by
    apply Int32.toInt_inj.mp
    rw [Int32.toInt_div, ex, e2, Int32.toInt_ofInt]
  simp only [mbin, if_neg hne, e3]
  rfl
theorem z_rem {x x2 : Int} (hI : mI y pc = some (0, 12, 10, b)) (hx : zR x) (h2 : 1 ≤ x2 ∧ x2 ≤ 2147483647) (h : TZ d y (pc + 1) L (.inl (x.tmod x2) :: st) Z R) : TZ d y pc L (.inl x2 :: .inl x :: st) Z R := by
  refine h.ev fun _ hh => EvS.pure (op := 12) (a := 10) (bb := b) (L' := zL L) (st' := zS (.inl (x.tmod x2) :: st)) hI ?_ hh
  show (mbin 10 (Int32.ofInt x) (Int32.ofInt x2)).map (fun z => (zL L, Value.int z :: zS st)) = _
  have e2 := zoi (x := x2) ⟨by omega, by omega⟩
  have ex := zoi hx
  have hne : ¬ Int32.ofInt x2 = 0 := fun e => by have e0 : (0 : Int32).toInt = 0 := rfl; rw [e] at e2; omega
  have e3 : Int32.ofInt x - Int32.ofInt x / Int32.ofInt x2 * Int32.ofInt x2 = Int32.ofInt (x.tmod x2) := by
    apply Int32.toInt_inj.mp
    rw [arem_toInt (by rw [e2]; omega), ex, e2, zoi]
    have h3 := Int.tmod_lt_of_pos x (show 0 < x2 by omega)
    have h4 := Int.lt_tmod_of_pos x (show 0 < x2 by omega)
    exact ⟨by omega, by omega⟩
  simp only [mbin, if_neg hne, e3]
  rfl
theorem z_con {v : Int} {op : Nat} (hI : mI y pc = some (6, op, a, b)) (hv : ((mKS[a]?).map (fun q => q.2.2.2)) = some v) (ho : op < 2) (h : TZ d y (pc + mlen 6 op b) L (.inl v :: st) Z R) : TZ d y pc L st Z R := by
  refine h.ev fun _ hh => EvS.con (st' := zS (.inl v :: st)) hI ?_ hh
  unfold mcon
  cases hk : mKS[a]? with
  | none => rw [hk] at hv; cases hv
  | some q =>
    rw [hk] at hv
    cases hv
    match op, ho with
    | 0, _ => rfl
    | 1, _ => rfl
theorem z_max {x x2 : Int} (hI : mI y pc = some (5, 2, a, b)) (hs : (mSS[a]?).isSome = true) (hl : st.length ≤ 8) (hx : zR x) (h2 : zR x2) (h : TZ (d + 1) y (pc + 3) L (.inl (max x x2) :: st) Z R) : TZ (d + 1) y pc L (.inl x2 :: .inl x :: st) Z R := by
  refine h.ev fun _ hh => EvS.nat (op := 2) (a := a) (bb := b) (st' := zS (.inl (max x x2) :: st)) (M' := zm Z) hI ?_ hh
  obtain ⟨q, hq⟩ := Option.isSome_iff_exists.mp hs
  have hsum : ¬ 8 < ((zS st).map fun v => v.category).sum := by rw [zS_cat]; omega
  have e : (if Int32.ofInt x < Int32.ofInt x2 then Int32.ofInt x2 else Int32.ofInt x) = Int32.ofInt (max x x2) := by
    split
    · next h => rw [Int32.lt_iff_toInt_lt, zoi hx, zoi h2] at h; rw [Int.max_eq_right (by omega)]
    · next h => rw [Int32.lt_iff_toInt_lt, zoi hx, zoi h2] at h; rw [Int.max_eq_left (by omega)]
  show mnatS 2 a (.int (Int32.ofInt x2) :: .int (Int32.ofInt x) :: zS st) (zm Z) = _
  simp only [mnatS, mnat, hq, if_neg hsum, e]
  rfl
theorem z_min {x x2 : Int} (hI : mI y pc = some (5, 3, a, b)) (hs : (mSS[a]?).isSome = true) (hl : st.length ≤ 8) (hx : zR x) (h2 : zR x2) (h : TZ (d + 1) y (pc + 3) L (.inl (min x x2) :: st) Z R) : TZ (d + 1) y pc L (.inl x2 :: .inl x :: st) Z R := by
  refine h.ev fun _ hh => EvS.nat (op := 3) (a := a) (bb := b) (st' := zS (.inl (min x x2) :: st)) (M' := zm Z) hI ?_ hh
  obtain ⟨q, hq⟩ := Option.isSome_iff_exists.mp hs
  have hsum : ¬ 8 < ((zS st).map fun v => v.category).sum := by rw [zS_cat]; omega
  have e : (if Int32.ofInt x2 < Int32.ofInt x then Int32.ofInt x2 else Int32.ofInt x) = Int32.ofInt (min x x2) := by
    split
    · next h => rw [Int32.lt_iff_toInt_lt, zoi hx, zoi h2] at h; rw [Int.min_eq_right (by omega)]
    · next h => rw [Int32.lt_iff_toInt_lt, zoi hx, zoi h2] at h; rw [Int.min_eq_left (by omega)]
  show mnatS 3 a (.int (Int32.ofInt x2) :: .int (Int32.ofInt x) :: zS st) (zm Z) = _
  simp only [mnatS, mnat, hq, if_neg hsum, e]
  rfl
theorem z_abs {x : Int} (hI : mI y pc = some (5, 4, a, b)) (hs : (mSS[a]?).isSome = true) (hl : st.length ≤ 8) (hx : zR x) (h : TZ (d + 1) y (pc + 3) L (.inl (if 0 ≤ x then x else -x) :: st) Z R) : TZ (d + 1) y pc L (.inl x :: st) Z R := by
  refine h.ev fun _ hh => EvS.nat (op := 4) (a := a) (bb := b) (st' := zS (.inl (if 0 ≤ x then x else -x) :: st)) (M' := zm Z) hI ?_ hh
  obtain ⟨q, hq⟩ := Option.isSome_iff_exists.mp hs
  have hsum : ¬ 8 < ((zS st).map fun v => v.category).sum := by rw [zS_cat]; omega
  have e0 : (0 : Int32).toInt = 0 := rfl
  have e : (if 0 ≤ Int32.ofInt x then Int32.ofInt x else 0 - Int32.ofInt x) = Int32.ofInt (if 0 ≤ x then x else -x) := by
    split
    · next h => rw [Int32.le_iff_toInt_le, zoi hx, e0] at h; rw [if_pos h]
    · next h =>
      rw [Int32.le_iff_toInt_le, zoi hx, e0] at h; rw [if_neg h]
      rw [show -x = 0 - x by omega, Int32.ofInt_sub]; rfl
  show mnatS 4 a (.int (Int32.ofInt x) :: zS st) (zm Z) = _
  simp only [mnatS, mnat, hq, if_neg hsum, e]
  rfl
theorem zm_cpy {ks kd : Nat} {n : Int} (hn : 0 ≤ n) : zm (zcpy Z ks kd n) = mcpy (zm Z) ks kd 0 0 n.toNat := by
  funext q p
  unfold zm zcpy mcpy va_cpy
  by_cases hq : q = kd
  · rw [if_pos hq, if_pos hq]
    by_cases hp : (p : Int) < n
    · rw [if_pos ⟨by omega, hp⟩, if_pos ⟨by omega, by omega⟩]
      simp
    · rw [if_neg (fun h => hp h.2), if_neg (fun h => hp (by omega)), hq]
  · rw [if_neg hq, if_neg hq]
theorem z_cpy {ks kd n0 n1 : Nat} {n : Int} (hI : mI y pc = some (5, 0, a, b)) (hs : (mSS[a]?).isSome = true) (hl : st.length ≤ 8) (h0 : zln ks = some n0) (h1 : zln kd = some n1) (hn : 0 ≤ n ∧ n ≤ n0 ∧ n ≤ n1) (h : TZ (d + 1) y (pc + 3) L st (zcpy Z ks kd n) R) : TZ (d + 1) y pc L (.inl n :: .inl 0 :: .inr kd :: .inl 0 :: .inr ks :: st) Z R := by
  refine h.ev fun _ hh => EvS.nat (op := 0) (a := a) (bb := b) (st' := zS st) (M' := zm (zcpy Z ks kd n)) hI ?_ hh
  rw [zm_cpy hn.1]
  obtain ⟨q, hq⟩ := Option.isSome_iff_exists.mp hs
  have hsum : ¬ 8 < ((zS st).map fun v => v.category).sum := by rw [zS_cat]; omega
  unfold zln at h0 h1
  split at h0
  · next m0 l0 hS0 =>
    split at h1
    · next m1 l1 hS1 =>
      cases h0; cases h1
      have k0 := zsz2 hS0
      have e := zoi (x := n) ⟨by omega, by omega⟩
      have en : (Int32.ofInt n).toNatClampNeg = n.toNat := by show (Int32.ofInt n).toInt.toNat = n.toNat; rw [e]
      have e00 : (Int32.ofInt 0).toNatClampNeg = 0 := rfl
      have hlt : ¬ Int32.ofInt n < 0 := fun h => by rw [Int32.lt_iff_toInt_lt, e] at h; have e0 : (0 : Int32).toInt = 0 := rfl; omega
      have hlt0 : ¬ Int32.ofInt 0 < 0 := by decide
      show mnatS 0 a (.int (Int32.ofInt n) :: .int (Int32.ofInt 0) :: .ref kd :: .int (Int32.ofInt 0) :: .ref ks :: zS st) (zm Z) = _
      simp only [mnatS, hq, hS0, hS1, en, e00]
      rw [if_neg]
      rintro (h | h | h | h | h | h)
      · exact hlt0 h
      · exact hlt0 h
      · exact hlt h
      · omega
      · omega
      · exact hsum h
    · cases h1
  · cases h0
theorem z_tsw {x dd lo hi : Int} {t : Nat} {offs : List Int} {ps : List (Int × Int)} (hI : mI y pc = some (1, 3, a, b)) (ht : mTS[a]? = some (dd, lo, hi, offs, ps)) (hlen : hi = lo + offs.length - 1) (hd : mto pc dd = some t) (hx : zR x) (h : ∀ (n : Nat) (o : Int), offs[n]? = some o → x = lo + n → ∃ t', mto pc o = some t' ∧ TZ d y t' L st Z R) (h2 : x < lo ∨ hi < x → TZ d y t L st Z R) : TZ d y pc L (.inl x :: st) Z R := by
  have ex := zoi hx
  by_cases hr : x < lo ∨ hi < x
  · refine (h2 hr).ev fun _ hh => EvS.jump (op := 3) (a := a) (bb := b) (pc' := t) (st' := zS st) hI ?_ hh
    show mjump 3 a b pc (.int (Int32.ofInt x) :: zS st) = _
    simp only [mjump, ht, ex]
    rw [if_pos hr, hd]
    rfl
  · have hn : (x - lo).toNat < offs.length := by omega
    obtain ⟨t', h3, h4⟩ := h (x - lo).toNat _ (List.getElem?_eq_getElem hn) (by omega)
    refine h4.ev fun _ hh => EvS.jump (op := 3) (a := a) (bb := b) (pc' := t') (st' := zS st) hI ?_ hh
    show mjump 3 a b pc (.int (Int32.ofInt x) :: zS st) = _
    simp only [mjump, ht, ex]
    rw [if_neg hr, List.getElem?_eq_getElem hn]
    simp only [h3]
    rfl
theorem z_lsw {x dd lo hi : Int} {offs : List Int} {ps : List (Int × Int)} (hI : mI y pc = some (1, 4, a, b)) (ht : mTS[a]? = some (dd, lo, hi, offs, ps)) (hs : (ps.zip (ps.drop 1)).all (fun (a, next) => decide (a.1 < next.1)) = true) (hx : zR x) (h : ∃ t', mto pc (Op.lookupswitch.offset ps dd x) = some t' ∧ TZ d y t' L st Z R) : TZ d y pc L (.inl x :: st) Z R := by
  have ex := zoi hx
  obtain ⟨t', h1, h2⟩ := h
  refine h2.ev fun _ hh => EvS.jump (op := 4) (a := a) (bb := b) (pc' := t') (st' := zS st) hI ?_ hh
  show mjump 4 a b pc (.int (Int32.ofInt x) :: zS st) = _
  simp only [mjump, ht, ex]
  rw [if_pos hs, h1]
  rfl
theorem z_lc {P : Nat → Prop} {pc : Nat} {x c o dd : Int} {ps : List (Int × Int)} (h1 : c = x → ∃ t', mto pc o = some t' ∧ P t') (h2 : ¬ c = x → ∃ t', mto pc (Op.lookupswitch.offset ps dd x) = some t' ∧ P t') : ∃ t', mto pc (Op.lookupswitch.offset ((c, o) :: ps) dd x) = some t' ∧ P t' := by
  rw [Op.lookupswitch.offset_cons]
  by_cases h : c = x
  · rw [if_pos h]; exact h1 h
  · rw [if_neg h]; exact h2 h
end
/-! reading behind a write -/
theorem zup_same (Z : zM) (k : Nat) (j x : Int) : zup Z k j x k j = x := by unfold zup; rw [if_pos rfl, if_pos rfl]
theorem zup_cell (Z : zM) {k q : Nat} (j x p : Int) (h : q ≠ k) : zup Z k j x q p = Z q p := by unfold zup; rw [if_neg h]
theorem zup_place (Z : zM) (k q : Nat) {j p : Int} (x : Int) (h : p ≠ j) : zup Z k j x q p = Z q p := by unfold zup; rw [if_neg h]; split <;> rfl
