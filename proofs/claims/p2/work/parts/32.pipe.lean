/-! THE CHECKER OF SAFETY: method after method, found and checked (methods that write nothing) -/
def aPipe (T : aTyL) : List (Nat × List aAr × Nat × List (Nat × List aMc)) → List aCt → List (aCt × Nat × List aHd)
  | [], _ => []
  | s :: r, CS => match aFind T (fun _ _ _ => false) CS s.1 s.2.1 true 0 0 s.2.2.1 300 s.2.2.2 with
    | some q => q :: aPipe T r (q.1 :: CS)
    | none => []
def aT1 : aTyL := [.inr []] ++ [.inr [aTop, aTop, aTop, aTop, aTop, (0, 8), (5, 6), (0, 1000000)]] ++ [.inl (0, 1), .inl (0, 5), .inl (0, 5), .inl (0, 5), .inl (0, 11)] ++ List.replicate 116 (.inl aTop)
def aSp1 : List (Nat × List aAr × Nat × List (Nat × List aMc)) := [(27, [.inr aTop, .inr aTop], 1, []), (29, [.inr aTop, .inr aTop, .inr aTop], 1, []), (28, [.inl 1, .inr (0, 7), .inr aTop], 1, []), (30, [.inl 1, .inr (0, 7), .inr aTop], 1, []), (26, [.inl 1, .inr (0, 7), .inr (0, 5)], 2, []), (24, [.inl 1], 0, [(4, [(1, 2)])]), (14, [.inl 1, .inl 1], 0, [(2, [(1, 2)])])]
theorem aTry1 : (aPipe aT1 (aSp1.take 1) []).length = 1 := by decide +kernel
theorem aTry2 : (aPipe aT1 (aSp1.take 2) []).length = 2 := by decide +kernel
theorem aTry3 : (aPipe aT1 (aSp1.take 3) []).length = 3 := by decide +kernel
theorem aTry4 : (aPipe aT1 (aSp1.take 4) []).length = 4 := by decide +kernel
theorem aTry5 : (aPipe aT1 (aSp1.take 5) []).length = 5 := by decide +kernel
theorem aTry7 : (aPipe aT1 aSp1 []).length = 7 := by decide +kernel
theorem aTryA : aAllP aT1 [] (aPipe aT1 aSp1 []) = true := by decide +kernel
