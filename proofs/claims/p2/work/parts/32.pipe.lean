/-! THE CHECKER OF SAFETY: method after method, found and checked (methods that write nothing) -/
def aPipe (T : aTyL) : List (Nat × List aAr × Nat × List (Nat × List aMc)) → List aCt → List (aCt × Nat × List aHd)
  | [], _ => []
  | s :: r, CS => match aFind T (fun _ _ _ => false) CS s.1 s.2.1 true 0 0 s.2.2.1 300 s.2.2.2 with
    | some q => q :: aPipe T r (q.1 :: CS)
    | none => []
/-- the same for methods that write: each contract has its flags -/
def aPipeW (T : aTyL) (wok : Nat → Nat → Nat → Bool) : List (Nat × List aAr × Nat × Nat × Nat × List (Nat × List aMc)) → List aCt → List (aCt × Nat × List aHd)
  | [], _ => []
  | s :: r, CS => match aFind T wok CS s.1 s.2.1 false s.2.2.1 s.2.2.2.1 s.2.2.2.2.1 300 s.2.2.2.2.2 with
    | some q => q :: aPipeW T wok r (q.1 :: CS)
    | none => []
