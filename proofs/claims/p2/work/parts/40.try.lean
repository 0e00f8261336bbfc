def aT0 : aTyL := [.inr []] ++ [.inr [aTop, aTop, aTop, aTop, aTop, (0, 8), (5, 6), aTop]] ++ [.inl aTop, .inl aTop, .inl (0, 5), .inl (0, 5), .inl (0, 11)] ++ List.replicate 116 (.inl aTop)
theorem aTest24 : aChk aT0 (fun _ _ _ => false) [] 60 (24, [.inl 1], [(some (.inr aTop), [])], true, 0, 0, 0) [(4, [some (.inl 1), some (.inr aTop), some (.inr (0, 6))], 0, [(1, 2)])] = true := by decide +kernel
theorem aTest15 : aChk aT0 (fun _ _ _ => false) [] 60 (15, [.inl 1, .inr aTop], [(some (.inr (1, 1)), [none, some (0, 5)]), (some (.inr (0, 0)), [])], true, 0, 0, 0) [] = true := by decide +kernel
theorem aTest14 : aChk aT0 (fun _ _ _ => false) [] 60 (14, [.inl 1, .inl 1], [(some (.inr (0, 1)), [])], true, 0, 0, 0) [(2, [some (.inl 1), some (.inl 1), some (.inr (0, 8))], 0, [(1, 2)])] = true := by decide +kernel
theorem aTry24 : (aFind aT0 (fun _ _ _ => false) [] 24 [.inl 1] true 0 0 0 60 [(4, [(1, 2)])]).any (fun q => aChk aT0 (fun _ _ _ => false) [] q.2.1 q.1 q.2.2) = true := by decide +kernel
theorem aTry14 : (aFind aT0 (fun _ _ _ => false) [] 14 [.inl 1, .inl 1] true 0 0 0 60 [(2, [(1, 2)])]).any (fun q => aChk aT0 (fun _ _ _ => false) [] q.2.1 q.1 q.2.2 && q.1.2.2.1.all (fun o => aSame o.1 (some (.inr (0, 1))))) = true := by decide +kernel
def aT1 : aTyL := [.inr []] ++ [.inr [aTop, aTop, aTop, aTop, aTop, (0, 8), (5, 6), (0, 1000000)]] ++ [.inl (0, 1), .inl (0, 5), .inl (0, 5), .inl (0, 5), .inl (0, 11)] ++ List.replicate 116 (.inl aTop)
def aSp1 : List (Nat × List aAr × Nat × List (Nat × List aMc)) := [(27, [.inr aTop, .inr aTop], 1, []), (29, [.inr aTop, .inr aTop, .inr aTop], 1, []), (28, [.inl 1, .inr (0, 7), .inr aTop], 1, []), (30, [.inl 1, .inr (0, 7), .inr aTop], 1, []), (26, [.inl 1, .inr (0, 7), .inr (0, 5)], 2, []), (24, [.inl 1], 0, [(4, [(1, 2)])]), (14, [.inl 1, .inl 1], 0, [(2, [(1, 2)])])]
theorem aTry1 : (aPipe aT1 (aSp1.take 1) []).length = 1 := by decide +kernel
theorem aTry2 : (aPipe aT1 (aSp1.take 2) []).length = 2 := by decide +kernel
theorem aTry3 : (aPipe aT1 (aSp1.take 3) []).length = 3 := by decide +kernel
theorem aTry4 : (aPipe aT1 (aSp1.take 4) []).length = 4 := by decide +kernel
theorem aTry5 : (aPipe aT1 (aSp1.take 5) []).length = 5 := by decide +kernel
theorem aTry7 : (aPipe aT1 aSp1 []).length = 7 := by decide +kernel
theorem aTryA : aAllP aT1 [] (aPipe aT1 aSp1 []) = true := by decide +kernel
