/-- the cells behind the constructors: (0, n, []) an int array; (1 or 2, n, its cells) an array of cells; (class + 3, n, fields: none an int, some a cell) -/
def mSH : List (Nat × Nat × List (Option Nat)) := [(13, 18, [some 1, some 7, some 13, some 19, some 25, some 26, some 37, some 39, some 43, some 44, some 45, some 46, some 50, some 54, some 58, some 62, some 66, none]), (5, 8, [some 2, some 3, some 4, some 5, some 6, none, none, none]), (0, 8, []), (0, 8, []), (0, 8, []), (0, 6, []), (0, 6, []), (5, 8, [some 8, some 9, some 10, some 11, some 12, none, none, none]), (0, 8, []), (0, 8, []), (0, 8, []), (0, 6, []), (0, 6, []), (5, 8, [some 14, some 15, some 16, some 17, some 18, none, none, none]), (0, 8, []), (0, 8, []), (0, 8, []), (0, 6, []), (0, 6, []), (5, 8, [some 20, some 21, some 22, some 23, some 24, none, none, none]), (0, 8, []), (0, 8, []), (0, 8, []), (0, 6, []), (0, 6, []), (1, 5, [some 70, some 76, some 82, some 88, some 94]), (10, 4, [some 27, some 36, none, none]), (2, 8, [some 28, some 29, some 30, some 31, some 32, some 33, some 34, some 35]), (0, 8, []), (0, 8, []), (0, 8, []), (0, 8, []), (0, 8, []), (0, 8, []), (0, 8, []), (0, 8, []), (0, 8, []), (12, 2, [some 38, none]), (0, 96, []), (11, 4, [some 40, some 41, some 42, none]), (0, 12, []), (0, 12, []), (0, 12, []), (0, 7, []), (0, 12, []), (0, 72, []), (4, 6, [some 47, some 48, some 49, none, none, none]), (0, 4, []), (0, 4, []), (0, 4, []), (7, 7, [some 51, some 52, some 53, none, none, none, none]), (0, 4, []), (0, 4, []), (0, 4, []), (3, 6, [some 55, some 56, some 57, none, none, none]), (0, 4, []), (0, 4, []), (0, 4, []), (9, 8, [some 59, some 60, some 61, none, none, none, none, none]), (0, 4, []), (0, 4, []), (0, 4, []), (8, 8, [some 63, some 64, some 65, none, none, none, none, none]), (0, 4, []), (0, 4, []), (0, 4, []), (6, 7, [some 67, some 68, some 69, none, none, none, none]), (0, 4, []), (0, 4, []), (0, 4, []), (5, 8, [some 71, some 72, some 73, some 74, some 75, none, none, none]), (0, 8, []), (0, 8, []), (0, 8, []), (0, 6, []), (0, 6, []), (5, 8, [some 77, some 78, some 79, some 80, some 81, none, none, none]), (0, 8, []), (0, 8, []), (0, 8, []), (0, 6, []), (0, 6, []), (5, 8, [some 83, some 84, some 85, some 86, some 87, none, none, none]), (0, 8, []), (0, 8, []), (0, 8, []), (0, 6, []), (0, 6, []), (5, 8, [some 89, some 90, some 91, some 92, some 93, none, none, none]), (0, 8, []), (0, 8, []), (0, 8, []), (0, 6, []), (0, 6, []), (5, 8, [some 95, some 96, some 97, some 98, some 99, none, none, none]), (0, 8, []), (0, 8, []), (0, 8, []), (0, 6, []), (0, 6, []), (14, 33, [some 101, some 102, some 103, some 104, some 105, none, none, none, some 106, some 107, some 108, some 109, none, none, none, some 110, none, none, none, none, some 111, some 112, some 113, some 114, some 115, some 116, none, some 117, some 118, some 119, some 120, some 121, some 122]), (0, 7, []), (0, 6, []), (0, 8, []), (0, 8, []), (0, 8, []), (0, 96, []), (0, 48, []), (0, 48, []), (0, 144, []), (0, 400, []), (0, 64, []), (0, 64, []), (0, 64, []), (0, 4, []), (0, 4, []), (0, 12, []), (0, 8, []), (0, 108, []), (0, 108, []), (0, 12, []), (0, 12, []), (0, 8, [])]
/-! what the constructors make, by running them -/
def mNewX : mE := .inr (10, (List.range 18).map (fun j => defaultValue (tyX11 j)))
def mNewM : mE := .inr (11, (List.range 33).map (fun j => defaultValue (tyX12 j)))
def mRun1 : Option (Option Value × List mE) := exA 4000 799 none 70 0 (ment 70 [.ref 0]) [] [mNewX]
def mM1 : List mE := match mRun1 with | some q => q.2 | none => []
def mRun2 : Option (Option Value × List mE) := exA 4000 799 none 153 0 (ment 153 [.ref 100]) [] (mM1 ++ [mNewM])
def mM2 : List mE := match mRun2 with | some q => q.2 | none => []
def mRA (k : Nat) : Nat → Option Nat := match mM2[k]? with | some (.inl (_, _, .inr f)) => f | _ => fun _ => none
def mprj (e : mE) : Nat → Int32 := match e with
  | .inl (_, _, .inl f) => f
  | .inr (_, fs) => fun j => match fs[j]? with | some (.int x) => x | _ => 0
  | _ => fun _ => 0
abbrev mMem : Type := Nat → Nat → Int32
def mM0 : mMem := fun k => match mM2[k]? with | some e => mprj e | none => fun _ => 0
def mchkE (sh : Nat × Nat × List (Option Nat)) (e : mE) : Bool := match sh, e with
  | (0, n, _), .inl (0, n', .inl _) => n == n'
  | (t, n, ts), .inl (t', n', .inr f) => (t == 1 || t == 2) && t == t' && n == n' && (List.range n).all (fun i => f i == (ts[i]?).join)
  | (c + 3, _, fl), .inr (c', fs) => c == c' && fs.length == fl.length && (List.range fl.length).all (fun j => match fl[j]?, fs[j]? with | some (some t), some (.ref t') => t == t' | some none, some (.int _) => true | _, _ => false)
  | _, _ => false
set_option maxRecDepth 100000 in
theorem mRun1_is : (match mRun1 with | some (none, M) => M.length == 100 | _ => false) = true := by decide +kernel
set_option maxRecDepth 100000 in
theorem mRun2_all : (match mRun2 with | some (none, M) => M.length == 123 && decide (msz M ≤ 100000) && (List.range 123).all (fun k => match mSH[k]?, M[k]? with | some sh, some e => mchkE sh e | _, _ => false) | _ => false) = true := by decide +kernel
theorem mRun2_ex : ∃ M, mRun2 = some (none, M) ∧ mM2 = M ∧ M.length = 123 ∧ msz M ≤ 100000 ∧ (List.range 123).all (fun k => match mSH[k]?, M[k]? with | some sh, some e => mchkE sh e | _, _ => false) = true := by
  have h := mRun2_all
  cases e : mRun2 with
  | none => rw [e] at h; cases h
  | some q =>
    obtain ⟨v, M⟩ := q
    rw [e] at h
    cases v with
    | some v => cases h
    | none =>
      have h : (M.length == 123 && decide (msz M ≤ 100000) && (List.range 123).all (fun k => match mSH[k]?, M[k]? with | some sh, some e => mchkE sh e | _, _ => false)) = true := h
      rw [Bool.and_eq_true, Bool.and_eq_true] at h
      exact ⟨M, rfl, by unfold mM2; rw [e], eq_of_beq h.1.1, of_decide_eq_true h.1.2, h.2⟩
theorem mRun2_is : (match mRun2 with | some (none, M) => M.length == 123 | _ => false) = true := by
  obtain ⟨M, h1, h2, h3, h4, h5⟩ := mRun2_ex
  rw [h1]
  show (M.length == 123) = true
  rw [h3]; rfl
theorem mchk_all : (List.range 123).all (fun k => match mSH[k]?, mM2[k]? with | some sh, some e => mchkE sh e | _, _ => false) = true := by
  obtain ⟨M, h1, h2, h3, h4, h5⟩ := mRun2_ex
  rw [h2]; exact h5
theorem msz_M2 : msz mM2 ≤ 100000 := by
  obtain ⟨M, h1, h2, h3, h4, h5⟩ := mRun2_ex
  rw [h2]; exact h4
