/-! THE CHECKER OF SAFETY: what stands at the cuts, found by running (nothing is proved of it: aChk checks what it finds) -/
def aCol (T : aTyL) (wok : Nat → Nat → Nat → Bool) (CS : List aCt) (D y : Nat) (cuts : List Nat) : Nat → Nat → aSt → Option (List (Nat × aSt) × List (aSt × Option aAr))
  | 0, _, _ => none
  | n + 1, pc, A => match aStep T wok CS D y pc A with
    | none => none
    | some (.inr ro) => some ([], [(A, ro)])
    | some (.inl l) => l.foldl (fun acc q => match acc with
      | none => none
      | some (h, r) => if cuts.contains q.1 then some (q :: h, r) else match aCol T wok CS D y cuts n q.1 q.2 with
        | none => none
        | some (h', r') => some (h' ++ h, r' ++ r)) (some ([], []))
def aThLo : List Int := [100, 1, 0, -1, -9, -2147483648]
def aThHi : List Int := [-1, 0, 1, 4, 5, 6, 7, 8, 9, 11, 12, 19, 35, 36, 96, 99, 100, 999, 2147483647]
def aWid (a b : aIv) : aIv := (if a.1 ≤ b.1 then a.1 else ((aThLo.find? (fun t => decide (t ≤ b.1))).getD (-2147483648)), if b.2 ≤ a.2 then a.2 else ((aThHi.find? (fun t => decide (b.2 ≤ t))).getD 2147483647))
def aFrom (b : Option aV) : Option aAr := match b with | some (.inl k) => some (.inl k) | some (.inr (iv, _, _)) => some (.inr iv) | none => none
def aJn (a b : Option aAr) : Option aAr := match a, b with
  | some (.inl k), some (.inl k') => if k = k' then a else none
  | some (.inr x), some (.inr z) => some (.inr (aWid x z))
  | _, _ => none
def aAddH (H : List (Nat × List (Option aAr) × Nat)) (q : Nat × aSt) : List (Nat × List (Option aAr) × Nat) :=
  if H.any (fun h => h.1 == q.1) then H.map (fun h => if h.1 == q.1 then (h.1, (h.2.1.zip (q.2.1.map aFrom)).map (fun p => aJn p.1 p.2), h.2.2) else h)
  else (q.1, q.2.1.map aFrom, q.2.2.2.2) :: H
def aSame (a b : Option aAr) : Bool := match a, b with | none, none => true | some (.inl k), some (.inl k') => k == k' | some (.inr x), some (.inr z) => decide (x.1 = z.1 ∧ x.2 = z.2) | _, _ => false
def aSameH (H K : List (Nat × List (Option aAr) × Nat)) : Bool := H.length == K.length && (H.zip K).all (fun p => p.1.1 == p.2.1 && p.1.2.1.length == p.2.2.1.length && (p.1.2.1.zip p.2.2.1).all (fun q => aSame q.1 q.2))
/-- rounds of collecting; the answer: what stands at the cuts, what is returned in the last round -/
def aInf (T : aTyL) (wok : Nat → Nat → Nat → Bool) (CS : List aCt) (D y N : Nat) (cuts : List Nat) (e : aSt) : Nat → List (Nat × List (Option aAr) × Nat) → Option (List (Nat × List (Option aAr) × Nat) × List (aSt × Option aAr))
  | 0, _ => none
  | k + 1, H =>
    let es := (0, e) :: H.map (fun h => (h.1, aHSt h.2.1 h.2.2))
    match es.foldl (fun acc q => match acc with | none => none | some (h, r) => match aCol T wok CS D y cuts N q.1 q.2 with | none => none | some (h', r') => some (h' ++ h, r' ++ r)) (some (([] : List (Nat × aSt)), ([] : List (aSt × Option aAr)))) with
    | none => none
    | some (hs, rs) => let H' := hs.foldl aAddH H
      if aSameH H' H then some (H, rs) else aInf T wok CS D y N cuts e k H'
def aRoJ (a b : Option aAr) : Option aAr := match a, b with | some (.inr x), some (.inr z) => some (.inr (min x.1 z.1, max x.2 z.2)) | _, _ => a
/-- a contract and its cuts, found: arguments given, one outcome -/
def aFind (T : aTyL) (wok : Nat → Nat → Nat → Bool) (CS : List aCt) (y : Nat) (args : List aAr) (pure : Bool) (fi fo D N : Nat) (ms : List (Nat × List aMc)) : Option (aCt × Nat × List aHd) :=
  match aInf T wok CS D y N (ms.map (·.1)) (aHSt (args.map some ++ List.replicate (mLo y - args.length) none) fi) 12 [] with
  | some (H, r :: rs) => some ((y, args, [(rs.foldl (fun a q => aRoJ a q.2) r.2, [])], pure, fi, fo, D), N, H.map (fun h => (h.1, h.2.1, h.2.2, (ms.lookup h.1).getD [])))
  | _ => none
