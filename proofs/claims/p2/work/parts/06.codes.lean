def mchk (cc : ByteArray) (q : mIt) : Bool := decide (decode cc q.1 = .ok (mraw q.2.1 q.2.2.1 q.2.2.2.1 q.2.2.2.2, mlen q.2.1 q.2.2.1 q.2.2.2.2))
/-- a site belongs to its method's class -/
def mown (c : Nat) (q : mIt) : Bool := match q with
  | (_, g, op, a, b) => match g with
    | 2 => match op with
      | 0 => match mFS[a]? with | some z => z.1 == c | none => false
      | 1 => match mFS[a]? with | some z => z.1 == c | none => false
      | 6 => match mNS[a]? with | some z => z.1 == c && z.2.2.1 == 0 | none => false
      | 8 => match mNS[a]? with | some z => z.1 == c && z.2.2.1 == 1 | none => false
      | 9 => match mNS[a]? with | some z => z.1 == c && z.2.2.1 == 2 && b == 2 | none => false
      | _ => true
    | 4 => match op with
      | 0 => match mVS[a]? with | some z => z.1 == c | none => false
      | 1 => match mSS[a]? with | some z => z.1 == c && decide (z.2.2.2.1 < 2) | none => false
      | _ => match mIS[a]? with | some z => z.1 == c && decide (z.2.2.2.1 < 2) | none => false
    | 5 => match op with
      | 0 => match mSS[a]? with | some z => z.1 == c && z.2.2.2.1 == 2 | none => false
      | 2 => match mSS[a]? with | some z => z.1 == c && z.2.2.2.1 == 3 | none => false
      | 3 => match mSS[a]? with | some z => z.1 == c && z.2.2.2.1 == 4 | none => false
      | 4 => match mSS[a]? with | some z => z.1 == c && z.2.2.2.1 == 5 | none => false
      | _ => match mIS[a]? with | some z => z.1 == c && z.2.2.2.1 == 2 | none => false
    | 6 => match mKS[a]? with
      | some z => z.1 == c && (match op with | 0 => !z.2.2.1 | 1 => !z.2.2.1 | _ => z.2.2.1)
      | none => false
    | _ => true
theorem mcode_all : ∀ y, y < 275 → (mCd y).all (mchk (mB y)) = true ∧ (mCd y).all (mown (mCno y)) = true := sorry
