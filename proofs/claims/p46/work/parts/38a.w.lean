/-! what stretches of code need of integers -/
theorem w0_0 {d : Nat} {x0 : Int} {Z : zM} {Q : Int → zM → Prop}
    (v : Q (zbit 3 (((zbit 3 (((zbit 3 (x0 - (zbit 3 (zbit 8 x0 1) 1431655765)) 858993459) + (zbit 3 (zbit 8 (x0 - (zbit 3 (zbit 8 x0 1) 1431655765)) 2) 858993459)) + (zbit 8 ((zbit 3 (x0 - (zbit 3 (zbit 8 x0 1) 1431655765)) 858993459) + (zbit 3 (zbit 8 (x0 - (zbit 3 (zbit 8 x0 1) 1431655765)) 2) 858993459)) 4)) 252645135) + (zbit 8 (zbit 3 (((zbit 3 (x0 - (zbit 3 (zbit 8 x0 1) 1431655765)) 858993459) + (zbit 3 (zbit 8 (x0 - (zbit 3 (zbit 8 x0 1) 1431655765)) 2) 858993459)) + (zbit 8 ((zbit 3 (x0 - (zbit 3 (zbit 8 x0 1) 1431655765)) 858993459) + (zbit 3 (zbit 8 (x0 - (zbit 3 (zbit 8 x0 1) 1431655765)) 2) 858993459)) 4)) 252645135) 8)) + (zbit 8 ((zbit 3 (((zbit 3 (x0 - (zbit 3 (zbit 8 x0 1) 1431655765)) 858993459) + (zbit 3 (zbit 8 (x0 - (zbit 3 (zbit 8 x0 1) 1431655765)) 2) 858993459)) + (zbit 8 ((zbit 3 (x0 - (zbit 3 (zbit 8 x0 1) 1431655765)) 858993459) + (zbit 3 (zbit 8 (x0 - (zbit 3 (zbit 8 x0 1) 1431655765)) 2) 858993459)) 4)) 252645135) + (zbit 8 (zbit 3 (((zbit 3 (x0 - (zbit 3 (zbit 8 x0 1) 1431655765)) 858993459) + (zbit 3 (zbit 8 (x0 - (zbit 3 (zbit 8 x0 1) 1431655765)) 2) 858993459)) + (zbit 8 ((zbit 3 (x0 - (zbit 3 (zbit 8 x0 1) 1431655765)) 858993459) + (zbit 3 (zbit 8 (x0 - (zbit 3 (zbit 8 x0 1) 1431655765)) 2) 858993459)) 4)) 252645135) 8)) 16)) 63) Z) :
    TZ d 0 0 [some (.inl x0)] [] Z (zri Q) := by
  refine z0 (op := 3) (a := 0) (b := 0) (by rfl) (by rfl) (?_ : TZ d 0 1 [some (.inl x0)] [.inl x0] Z (zri Q))
  refine z0 (op := 3) (a := 0) (b := 0) (by rfl) (by rfl) (?_ : TZ d 0 2 [some (.inl x0)] [.inl x0, .inl x0] Z (zri Q))
  refine z0 (op := 0) (a := 0) (b := 1) (by rfl) (by rfl) (?_ : TZ d 0 3 [some (.inl x0)] [.inl 1, .inl x0, .inl x0] Z (zri Q))
  refine z0 (op := 12) (a := 8) (b := 0) (by rfl) (by rfl) (?_ : TZ d 0 4 [some (.inl x0)] [.inl (zbit 8 x0 1), .inl x0] Z (zri Q))
  refine z_con (op := 1) (a := 0) (b := 0) (by rfl) (by rfl) (by decide) (?_ : TZ d 0 7 [some (.inl x0)] [.inl 1431655765, .inl (zbit 8 x0 1), .inl x0] Z (zri Q))
  refine z0 (op := 12) (a := 3) (b := 0) (by rfl) (by rfl) (?_ : TZ d 0 8 [some (.inl x0)] [.inl (zbit 3 (zbit 8 x0 1) 1431655765), .inl x0] Z (zri Q))
  refine z0 (op := 12) (a := 1) (b := 0) (by rfl) (by rfl) (?_ : TZ d 0 9 [some (.inl x0)] [.inl (x0 - (zbit 3 (zbit 8 x0 1) 1431655765))] Z (zri Q))
  refine z0 (op := 7) (a := 0) (b := 0) (by rfl) (by rfl) (?_ : TZ d 0 10 [some (.inl (x0 - (zbit 3 (zbit 8 x0 1) 1431655765)))] [] Z (zri Q))
  refine z0 (op := 3) (a := 0) (b := 0) (by rfl) (by rfl) (?_ : TZ d 0 11 [some (.inl (x0 - (zbit 3 (zbit 8 x0 1) 1431655765)))] [.inl (x0 - (zbit 3 (zbit 8 x0 1) 1431655765))] Z (zri Q))
  refine z_con (op := 1) (a := 1) (b := 0) (by rfl) (by rfl) (by decide) (?_ : TZ d 0 14 [some (.inl (x0 - (zbit 3 (zbit 8 x0 1) 1431655765)))] [.inl 858993459, .inl (x0 - (zbit 3 (zbit 8 x0 1) 1431655765))] Z (zri Q))
  refine z0 (op := 12) (a := 3) (b := 0) (by rfl) (by rfl) (?_ : TZ d 0 15 [some (.inl (x0 - (zbit 3 (zbit 8 x0 1) 1431655765)))] [.inl (zbit 3 (x0 - (zbit 3 (zbit 8 x0 1) 1431655765)) 858993459)] Z (zri Q))
  refine z0 (op := 3) (a := 0) (b := 0) (by rfl) (by rfl) (?_ : TZ d 0 16 [some (.inl (x0 - (zbit 3 (zbit 8 x0 1) 1431655765)))] [.inl (x0 - (zbit 3 (zbit 8 x0 1) 1431655765)), .inl (zbit 3 (x0 - (zbit 3 (zbit 8 x0 1) 1431655765)) 858993459)] Z (zri Q))
  refine z0 (op := 0) (a := 0) (b := 2) (by rfl) (by rfl) (?_ : TZ d 0 17 [some (.inl (x0 - (zbit 3 (zbit 8 x0 1) 1431655765)))] [.inl 2, .inl (x0 - (zbit 3 (zbit 8 x0 1) 1431655765)), .inl (zbit 3 (x0 - (zbit 3 (zbit 8 x0 1) 1431655765)) 858993459)] Z (zri Q))
  refine z0 (op := 12) (a := 8) (b := 0) (by rfl) (by rfl) (?_ : TZ d 0 18 [some (.inl (x0 - (zbit 3 (zbit 8 x0 1) 1431655765)))] [.inl (zbit 8 (x0 - (zbit 3 (zbit 8 x0 1) 1431655765)) 2), .inl (zbit 3 (x0 - (zbit 3 (zbit 8 x0 1) 1431655765)) 858993459)] Z (zri Q))
  refine z_con (op := 1) (a := 1) (b := 0) (by rfl) (by rfl) (by decide) (?_ : TZ d 0 21 [some (.inl (x0 - (zbit 3 (zbit 8 x0 1) 1431655765)))] [.inl 858993459, .inl (zbit 8 (x0 - (zbit 3 (zbit 8 x0 1) 1431655765)) 2), .inl (zbit 3 (x0 - (zbit 3 (zbit 8 x0 1) 1431655765)) 858993459)] Z (zri Q))
  refine z0 (op := 12) (a := 3) (b := 0) (by rfl) (by rfl) (?_ : TZ d 0 22 [some (.inl (x0 - (zbit 3 (zbit 8 x0 1) 1431655765)))] [.inl (zbit 3 (zbit 8 (x0 - (zbit 3 (zbit 8 x0 1) 1431655765)) 2) 858993459), .inl (zbit 3 (x0 - (zbit 3 (zbit 8 x0 1) 1431655765)) 858993459)] Z (zri Q))
  refine z0 (op := 12) (a := 0) (b := 0) (by rfl) (by rfl) (?_ : TZ d 0 23 [some (.inl (x0 - (zbit 3 (zbit 8 x0 1) 1431655765)))] [.inl ((zbit 3 (x0 - (zbit 3 (zbit 8 x0 1) 1431655765)) 858993459) + (zbit 3 (zbit 8 (x0 - (zbit 3 (zbit 8 x0 1) 1431655765)) 2) 858993459))] Z (zri Q))
  refine z0 (op := 7) (a := 0) (b := 0) (by rfl) (by rfl) (?_ : TZ d 0 24 [some (.inl ((zbit 3 (x0 - (zbit 3 (zbit 8 x0 1) 1431655765)) 858993459) + (zbit 3 (zbit 8 (x0 - (zbit 3 (zbit 8 x0 1) 1431655765)) 2) 858993459)))] [] Z (zri Q))
  refine z0 (op := 3) (a := 0) (b := 0) (by rfl) (by rfl) (?_ : TZ d 0 25 [some (.inl ((zbit 3 (x0 - (zbit 3 (zbit 8 x0 1) 1431655765)) 858993459) + (zbit 3 (zbit 8 (x0 - (zbit 3 (zbit 8 x0 1) 1431655765)) 2) 858993459)))] [.inl ((zbit 3 (x0 - (zbit 3 (zbit 8 x0 1) 1431655765)) 858993459) + (zbit 3 (zbit 8 (x0 - (zbit 3 (zbit 8 x0 1) 1431655765)) 2) 858993459))] Z (zri Q))
  refine z0 (op := 3) (a := 0) (b := 0) (by rfl) (by rfl) (?_ : TZ d 0 26 [some (.inl ((zbit 3 (x0 - (zbit 3 (zbit 8 x0 1) 1431655765)) 858993459) + (zbit 3 (zbit 8 (x0 - (zbit 3 (zbit 8 x0 1) 1431655765)) 2) 858993459)))] [.inl ((zbit 3 (x0 - (zbit 3 (zbit 8 x0 1) 1431655765)) 858993459) + (zbit 3 (zbit 8 (x0 - (zbit 3 (zbit 8 x0 1) 1431655765)) 2) 858993459)), .inl ((zbit 3 (x0 - (zbit 3 (zbit 8 x0 1) 1431655765)) 858993459) + (zbit 3 (zbit 8 (x0 - (zbit 3 (zbit 8 x0 1) 1431655765)) 2) 858993459))] Z (zri Q))
  refine z0 (op := 0) (a := 0) (b := 4) (by rfl) (by rfl) (?_ : TZ d 0 27 [some (.inl ((zbit 3 (x0 - (zbit 3 (zbit 8 x0 1) 1431655765)) 858993459) + (zbit 3 (zbit 8 (x0 - (zbit 3 (zbit 8 x0 1) 1431655765)) 2) 858993459)))] [.inl 4, .inl ((zbit 3 (x0 - (zbit 3 (zbit 8 x0 1) 1431655765)) 858993459) + (zbit 3 (zbit 8 (x0 - (zbit 3 (zbit 8 x0 1) 1431655765)) 2) 858993459)), .inl ((zbit 3 (x0 - (zbit 3 (zbit 8 x0 1) 1431655765)) 858993459) + (zbit 3 (zbit 8 (x0 - (zbit 3 (zbit 8 x0 1) 1431655765)) 2) 858993459))] Z (zri Q))
  refine z0 (op := 12) (a := 8) (b := 0) (by rfl) (by rfl) (?_ : TZ d 0 28 [some (.inl ((zbit 3 (x0 - (zbit 3 (zbit 8 x0 1) 1431655765)) 858993459) + (zbit 3 (zbit 8 (x0 - (zbit 3 (zbit 8 x0 1) 1431655765)) 2) 858993459)))] [.inl (zbit 8 ((zbit 3 (x0 - (zbit 3 (zbit 8 x0 1) 1431655765)) 858993459) + (zbit 3 (zbit 8 (x0 - (zbit 3 (zbit 8 x0 1) 1431655765)) 2) 858993459)) 4), .inl ((zbit 3 (x0 - (zbit 3 (zbit 8 x0 1) 1431655765)) 858993459) + (zbit 3 (zbit 8 (x0 - (zbit 3 (zbit 8 x0 1) 1431655765)) 2) 858993459))] Z (zri Q))
  refine z0 (op := 12) (a := 0) (b := 0) (by rfl) (by rfl) (?_ : TZ d 0 29 [some (.inl ((zbit 3 (x0 - (zbit 3 (zbit 8 x0 1) 1431655765)) 858993459) + (zbit 3 (zbit 8 (x0 - (zbit 3 (zbit 8 x0 1) 1431655765)) 2) 858993459)))] [.inl (((zbit 3 (x0 - (zbit 3 (zbit 8 x0 1) 1431655765)) 858993459) + (zbit 3 (zbit 8 (x0 - (zbit 3 (zbit 8 x0 1) 1431655765)) 2) 858993459)) + (zbit 8 ((zbit 3 (x0 - (zbit 3 (zbit 8 x0 1) 1431655765)) 858993459) + (zbit 3 (zbit 8 (x0 - (zbit 3 (zbit 8 x0 1) 1431655765)) 2) 858993459)) 4))] Z (zri Q))
  refine z_con (op := 1) (a := 2) (b := 0) (by rfl) (by rfl) (by decide) (?_ : TZ d 0 32 [some (.inl ((zbit 3 (x0 - (zbit 3 (zbit 8 x0 1) 1431655765)) 858993459) + (zbit 3 (zbit 8 (x0 - (zbit 3 (zbit 8 x0 1) 1431655765)) 2) 858993459)))] [.inl 252645135, .inl (((zbit 3 (x0 - (zbit 3 (zbit 8 x0 1) 1431655765)) 858993459) + (zbit 3 (zbit 8 (x0 - (zbit 3 (zbit 8 x0 1) 1431655765)) 2) 858993459)) + (zbit 8 ((zbit 3 (x0 - (zbit 3 (zbit 8 x0 1) 1431655765)) 858993459) + (zbit 3 (zbit 8 (x0 - (zbit 3 (zbit 8 x0 1) 1431655765)) 2) 858993459)) 4))] Z (zri Q))
  refine z0 (op := 12) (a := 3) (b := 0) (by rfl) (by rfl) (?_ : TZ d 0 33 [some (.inl ((zbit 3 (x0 - (zbit 3 (zbit 8 x0 1) 1431655765)) 858993459) + (zbit 3 (zbit 8 (x0 - (zbit 3 (zbit 8 x0 1) 1431655765)) 2) 858993459)))] [.inl (zbit 3 (((zbit 3 (x0 - (zbit 3 (zbit 8 x0 1) 1431655765)) 858993459) + (zbit 3 (zbit 8 (x0 - (zbit 3 (zbit 8 x0 1) 1431655765)) 2) 858993459)) + (zbit 8 ((zbit 3 (x0 - (zbit 3 (zbit 8 x0 1) 1431655765)) 858993459) + (zbit 3 (zbit 8 (x0 - (zbit 3 (zbit 8 x0 1) 1431655765)) 2) 858993459)) 4)) 252645135)] Z (zri Q))
  refine z0 (op := 7) (a := 0) (b := 0) (by rfl) (by rfl) (?_ : TZ d 0 34 [some (.inl (zbit 3 (((zbit 3 (x0 - (zbit 3 (zbit 8 x0 1) 1431655765)) 858993459) + (zbit 3 (zbit 8 (x0 - (zbit 3 (zbit 8 x0 1) 1431655765)) 2) 858993459)) + (zbit 8 ((zbit 3 (x0 - (zbit 3 (zbit 8 x0 1) 1431655765)) 858993459) + (zbit 3 (zbit 8 (x0 - (zbit 3 (zbit 8 x0 1) 1431655765)) 2) 858993459)) 4)) 252645135))] [] Z (zri Q))
  refine z0 (op := 3) (a := 0) (b := 0) (by rfl) (by rfl) (?_ : TZ d 0 35 [some (.inl (zbit 3 (((zbit 3 (x0 - (zbit 3 (zbit 8 x0 1) 1431655765)) 858993459) + (zbit 3 (zbit 8 (x0 - (zbit 3 (zbit 8 x0 1) 1431655765)) 2) 858993459)) + (zbit 8 ((zbit 3 (x0 - (zbit 3 (zbit 8 x0 1) 1431655765)) 858993459) + (zbit 3 (zbit 8 (x0 - (zbit 3 (zbit 8 x0 1) 1431655765)) 2) 858993459)) 4)) 252645135))] [.inl (zbit 3 (((zbit 3 (x0 - (zbit 3 (zbit 8 x0 1) 1431655765)) 858993459) + (zbit 3 (zbit 8 (x0 - (zbit 3 (zbit 8 x0 1) 1431655765)) 2) 858993459)) + (zbit 8 ((zbit 3 (x0 - (zbit 3 (zbit 8 x0 1) 1431655765)) 858993459) + (zbit 3 (zbit 8 (x0 - (zbit 3 (zbit 8 x0 1) 1431655765)) 2) 858993459)) 4)) 252645135)] Z (zri Q))
  refine z0 (op := 3) (a := 0) (b := 0) (by rfl) (by rfl) (?_ : TZ d 0 36 [some (.inl (zbit 3 (((zbit 3 (x0 - (zbit 3 (zbit 8 x0 1) 1431655765)) 858993459) + (zbit 3 (zbit 8 (x0 - (zbit 3 (zbit 8 x0 1) 1431655765)) 2) 858993459)) + (zbit 8 ((zbit 3 (x0 - (zbit 3 (zbit 8 x0 1) 1431655765)) 858993459) + (zbit 3 (zbit 8 (x0 - (zbit 3 (zbit 8 x0 1) 1431655765)) 2) 858993459)) 4)) 252645135))] [.inl (zbit 3 (((zbit 3 (x0 - (zbit 3 (zbit 8 x0 1) 1431655765)) 858993459) + (zbit 3 (zbit 8 (x0 - (zbit 3 (zbit 8 x0 1) 1431655765)) 2) 858993459)) + (zbit 8 ((zbit 3 (x0 - (zbit 3 (zbit 8 x0 1) 1431655765)) 858993459) + (zbit 3 (zbit 8 (x0 - (zbit 3 (zbit 8 x0 1) 1431655765)) 2) 858993459)) 4)) 252645135), .inl (zbit 3 (((zbit 3 (x0 - (zbit 3 (zbit 8 x0 1) 1431655765)) 858993459) + (zbit 3 (zbit 8 (x0 - (zbit 3 (zbit 8 x0 1) 1431655765)) 2) 858993459)) + (zbit 8 ((zbit 3 (x0 - (zbit 3 (zbit 8 x0 1) 1431655765)) 858993459) + (zbit 3 (zbit 8 (x0 - (zbit 3 (zbit 8 x0 1) 1431655765)) 2) 858993459)) 4)) 252645135)] Z (zri Q))
  refine z0 (op := 1) (a := 0) (b := 8) (by rfl) (by rfl) (?_ : TZ d 0 38 [some (.inl (zbit 3 (((zbit 3 (x0 - (zbit 3 (zbit 8 x0 1) 1431655765)) 858993459) + (zbit 3 (zbit 8 (x0 - (zbit 3 (zbit 8 x0 1) 1431655765)) 2) 858993459)) + (zbit 8 ((zbit 3 (x0 - (zbit 3 (zbit 8 x0 1) 1431655765)) 858993459) + (zbit 3 (zbit 8 (x0 - (zbit 3 (zbit 8 x0 1) 1431655765)) 2) 858993459)) 4)) 252645135))] [.inl 8, .inl (zbit 3 (((zbit 3 (x0 - (zbit 3 (zbit 8 x0 1) 1431655765)) 858993459) + (zbit 3 (zbit 8 (x0 - (zbit 3 (zbit 8 x0 1) 1431655765)) 2) 858993459)) + (zbit 8 ((zbit 3 (x0 - (zbit 3 (zbit 8 x0 1) 1431655765)) 858993459) + (zbit 3 (zbit 8 (x0 - (zbit 3 (zbit 8 x0 1) 1431655765)) 2) 858993459)) 4)) 252645135), .inl (zbit 3 (((zbit 3 (x0 - (zbit 3 (zbit 8 x0 1) 1431655765)) 858993459) + (zbit 3 (zbit 8 (x0 - (zbit 3 (zbit 8 x0 1) 1431655765)) 2) 858993459)) + (zbit 8 ((zbit 3 (x0 - (zbit 3 (zbit 8 x0 1) 1431655765)) 858993459) + (zbit 3 (zbit 8 (x0 - (zbit 3 (zbit 8 x0 1) 1431655765)) 2) 858993459)) 4)) 252645135)] Z (zri Q))
  refine z0 (op := 12) (a := 8) (b := 0) (by rfl) (by rfl) (?_ : TZ d 0 39 [some (.inl (zbit 3 (((zbit 3 (x0 - (zbit 3 (zbit 8 x0 1) 1431655765)) 858993459) + (zbit 3 (zbit 8 (x0 - (zbit 3 (zbit 8 x0 1) 1431655765)) 2) 858993459)) + (zbit 8 ((zbit 3 (x0 - (zbit 3 (zbit 8 x0 1) 1431655765)) 858993459) + (zbit 3 (zbit 8 (x0 - (zbit 3 (zbit 8 x0 1) 1431655765)) 2) 858993459)) 4)) 252645135))] [.inl (zbit 8 (zbit 3 (((zbit 3 (x0 - (zbit 3 (zbit 8 x0 1) 1431655765)) 858993459) + (zbit 3 (zbit 8 (x0 - (zbit 3 (zbit 8 x0 1) 1431655765)) 2) 858993459)) + (zbit 8 ((zbit 3 (x0 - (zbit 3 (zbit 8 x0 1) 1431655765)) 858993459) + (zbit 3 (zbit 8 (x0 - (zbit 3 (zbit 8 x0 1) 1431655765)) 2) 858993459)) 4)) 252645135) 8), .inl (zbit 3 (((zbit 3 (x0 - (zbit 3 (zbit 8 x0 1) 1431655765)) 858993459) + (zbit 3 (zbit 8 (x0 - (zbit 3 (zbit 8 x0 1) 1431655765)) 2) 858993459)) + (zbit 8 ((zbit 3 (x0 - (zbit 3 (zbit 8 x0 1) 1431655765)) 858993459) + (zbit 3 (zbit 8 (x0 - (zbit 3 (zbit 8 x0 1) 1431655765)) 2) 858993459)) 4)) 252645135)] Z (zri Q))
  refine z0 (op := 12) (a := 0) (b := 0) (by rfl) (by rfl) (?_ : TZ d 0 40 [some (.inl (zbit 3 (((zbit 3 (x0 - (zbit 3 (zbit 8 x0 1) 1431655765)) 858993459) + (zbit 3 (zbit 8 (x0 - (zbit 3 (zbit 8 x0 1) 1431655765)) 2) 858993459)) + (zbit 8 ((zbit 3 (x0 - (zbit 3 (zbit 8 x0 1) 1431655765)) 858993459) + (zbit 3 (zbit 8 (x0 - (zbit 3 (zbit 8 x0 1) 1431655765)) 2) 858993459)) 4)) 252645135))] [.inl ((zbit 3 (((zbit 3 (x0 - (zbit 3 (zbit 8 x0 1) 1431655765)) 858993459) + (zbit 3 (zbit 8 (x0 - (zbit 3 (zbit 8 x0 1) 1431655765)) 2) 858993459)) + (zbit 8 ((zbit 3 (x0 - (zbit 3 (zbit 8 x0 1) 1431655765)) 858993459) + (zbit 3 (zbit 8 (x0 - (zbit 3 (zbit 8 x0 1) 1431655765)) 2) 858993459)) 4)) 252645135) + (zbit 8 (zbit 3 (((zbit 3 (x0 - (zbit 3 (zbit 8 x0 1) 1431655765)) 858993459) + (zbit 3 (zbit 8 (x0 - (zbit 3 (zbit 8 x0 1) 1431655765)) 2) 858993459)) + (zbit 8 ((zbit 3 (x0 - (zbit 3 (zbit 8 x0 1) 1431655765)) 858993459) + (zbit 3 (zbit 8 (x0 - (zbit 3 (zbit 8 x0 1) 1431655765)) 2) 858993459)) 4)) 252645135) 8))] Z (zri Q))
  refine z0 (op := 7) (a := 0) (b := 0) (by rfl) (by rfl) (?_ : TZ d 0 41 [some (.inl ((zbit 3 (((zbit 3 (x0 - (zbit 3 (zbit 8 x0 1) 1431655765)) 858993459) + (zbit 3 (zbit 8 (x0 - (zbit 3 (zbit 8 x0 1) 1431655765)) 2) 858993459)) + (zbit 8 ((zbit 3 (x0 - (zbit 3 (zbit 8 x0 1) 1431655765)) 858993459) + (zbit 3 (zbit 8 (x0 - (zbit 3 (zbit 8 x0 1) 1431655765)) 2) 858993459)) 4)) 252645135) + (zbit 8 (zbit 3 (((zbit 3 (x0 - (zbit 3 (zbit 8 x0 1) 1431655765)) 858993459) + (zbit 3 (zbit 8 (x0 - (zbit 3 (zbit 8 x0 1) 1431655765)) 2) 858993459)) + (zbit 8 ((zbit 3 (x0 - (zbit 3 (zbit 8 x0 1) 1431655765)) 858993459) + (zbit 3 (zbit 8 (x0 - (zbit 3 (zbit 8 x0 1) 1431655765)) 2) 858993459)) 4)) 252645135) 8)))] [] Z (zri Q))
  refine z0 (op := 3) (a := 0) (b := 0) (by rfl) (by rfl) (?_ : TZ d 0 42 [some (.inl ((zbit 3 (((zbit 3 (x0 - (zbit 3 (zbit 8 x0 1) 1431655765)) 858993459) + (zbit 3 (zbit 8 (x0 - (zbit 3 (zbit 8 x0 1) 1431655765)) 2) 858993459)) + (zbit 8 ((zbit 3 (x0 - (zbit 3 (zbit 8 x0 1) 1431655765)) 858993459) + (zbit 3 (zbit 8 (x0 - (zbit 3 (zbit 8 x0 1) 1431655765)) 2) 858993459)) 4)) 252645135) + (zbit 8 (zbit 3 (((zbit 3 (x0 - (zbit 3 (zbit 8 x0 1) 1431655765)) 858993459) + (zbit 3 (zbit 8 (x0 - (zbit 3 (zbit 8 x0 1) 1431655765)) 2) 858993459)) + (zbit 8 ((zbit 3 (x0 - (zbit 3 (zbit 8 x0 1) 1431655765)) 858993459) + (zbit 3 (zbit 8 (x0 - (zbit 3 (zbit 8 x0 1) 1431655765)) 2) 858993459)) 4)) 252645135) 8)))] [.inl ((zbit 3 (((zbit 3 (x0 - (zbit 3 (zbit 8 x0 1) 1431655765)) 858993459) + (zbit 3 (zbit 8 (x0 - (zbit 3 (zbit 8 x0 1) 1431655765)) 2) 858993459)) + (zbit 8 ((zbit 3 (x0 - (zbit 3 (zbit 8 x0 1) 1431655765)) 858993459) + (zbit 3 (zbit 8 (x0 - (zbit 3 (zbit 8 x0 1) 1431655765)) 2) 858993459)) 4)) 252645135) + (zbit 8 (zbit 3 (((zbit 3 (x0 - (zbit 3 (zbit 8 x0 1) 1431655765)) 858993459) + (zbit 3 (zbit 8 (x0 - (zbit 3 (zbit 8 x0 1) 1431655765)) 2) 858993459)) + (zbit 8 ((zbit 3 (x0 - (zbit 3 (zbit 8 x0 1) 1431655765)) 858993459) + (zbit 3 (zbit 8 (x0 - (zbit 3 (zbit 8 x0 1) 1431655765)) 2) 858993459)) 4)) 252645135) 8))] Z (zri Q))
  refine z0 (op := 3) (a := 0) (b := 0) (by rfl) (by rfl) (?_ : TZ d 0 43 [some (.inl ((zbit 3 (((zbit 3 (x0 - (zbit 3 (zbit 8 x0 1) 1431655765)) 858993459) + (zbit 3 (zbit 8 (x0 - (zbit 3 (zbit 8 x0 1) 1431655765)) 2) 858993459)) + (zbit 8 ((zbit 3 (x0 - (zbit 3 (zbit 8 x0 1) 1431655765)) 858993459) + (zbit 3 (zbit 8 (x0 - (zbit 3 (zbit 8 x0 1) 1431655765)) 2) 858993459)) 4)) 252645135) + (zbit 8 (zbit 3 (((zbit 3 (x0 - (zbit 3 (zbit 8 x0 1) 1431655765)) 858993459) + (zbit 3 (zbit 8 (x0 - (zbit 3 (zbit 8 x0 1) 1431655765)) 2) 858993459)) + (zbit 8 ((zbit 3 (x0 - (zbit 3 (zbit 8 x0 1) 1431655765)) 858993459) + (zbit 3 (zbit 8 (x0 - (zbit 3 (zbit 8 x0 1) 1431655765)) 2) 858993459)) 4)) 252645135) 8)))] [.inl ((zbit 3 (((zbit 3 (x0 - (zbit 3 (zbit 8 x0 1) 1431655765)) 858993459) + (zbit 3 (zbit 8 (x0 - (zbit 3 (zbit 8 x0 1) 1431655765)) 2) 858993459)) + (zbit 8 ((zbit 3 (x0 - (zbit 3 (zbit 8 x0 1) 1431655765)) 858993459) + (zbit 3 (zbit 8 (x0 - (zbit 3 (zbit 8 x0 1) 1431655765)) 2) 858993459)) 4)) 252645135) + (zbit 8 (zbit 3 (((zbit 3 (x0 - (zbit 3 (zbit 8 x0 1) 1431655765)) 858993459) + (zbit 3 (zbit 8 (x0 - (zbit 3 (zbit 8 x0 1) 1431655765)) 2) 858993459)) + (zbit 8 ((zbit 3 (x0 - (zbit 3 (zbit 8 x0 1) 1431655765)) 858993459) + (zbit 3 (zbit 8 (x0 - (zbit 3 (zbit 8 x0 1) 1431655765)) 2) 858993459)) 4)) 252645135) 8)), .inl ((zbit 3 (((zbit 3 (x0 - (zbit 3 (zbit 8 x0 1) 1431655765)) 858993459) + (zbit 3 (zbit 8 (x0 - (zbit 3 (zbit 8 x0 1) 1431655765)) 2) 858993459)) + (zbit 8 ((zbit 3 (x0 - (zbit 3 (zbit 8 x0 1) 1431655765)) 858993459) + (zbit 3 (zbit 8 (x0 - (zbit 3 (zbit 8 x0 1) 1431655765)) 2) 858993459)) 4)) 252645135) + (zbit 8 (zbit 3 (((zbit 3 (x0 - (zbit 3 (zbit 8 x0 1) 1431655765)) 858993459) + (zbit 3 (zbit 8 (x0 - (zbit 3 (zbit 8 x0 1) 1431655765)) 2) 858993459)) + (zbit 8 ((zbit 3 (x0 - (zbit 3 (zbit 8 x0 1) 1431655765)) 858993459) + (zbit 3 (zbit 8 (x0 - (zbit 3 (zbit 8 x0 1) 1431655765)) 2) 858993459)) 4)) 252645135) 8))] Z (zri Q))
  refine z0 (op := 1) (a := 0) (b := 16) (by rfl) (by rfl) (?_ : TZ d 0 45 [some (.inl ((zbit 3 (((zbit 3 (x0 - (zbit 3 (zbit 8 x0 1) 1431655765)) 858993459) + (zbit 3 (zbit 8 (x0 - (zbit 3 (zbit 8 x0 1) 1431655765)) 2) 858993459)) + (zbit 8 ((zbit 3 (x0 - (zbit 3 (zbit 8 x0 1) 1431655765)) 858993459) + (zbit 3 (zbit 8 (x0 - (zbit 3 (zbit 8 x0 1) 1431655765)) 2) 858993459)) 4)) 252645135) + (zbit 8 (zbit 3 (((zbit 3 (x0 - (zbit 3 (zbit 8 x0 1) 1431655765)) 858993459) + (zbit 3 (zbit 8 (x0 - (zbit 3 (zbit 8 x0 1) 1431655765)) 2) 858993459)) + (zbit 8 ((zbit 3 (x0 - (zbit 3 (zbit 8 x0 1) 1431655765)) 858993459) + (zbit 3 (zbit 8 (x0 - (zbit 3 (zbit 8 x0 1) 1431655765)) 2) 858993459)) 4)) 252645135) 8)))] [.inl 16, .inl ((zbit 3 (((zbit 3 (x0 - (zbit 3 (zbit 8 x0 1) 1431655765)) 858993459) + (zbit 3 (zbit 8 (x0 - (zbit 3 (zbit 8 x0 1) 1431655765)) 2) 858993459)) + (zbit 8 ((zbit 3 (x0 - (zbit 3 (zbit 8 x0 1) 1431655765)) 858993459) + (zbit 3 (zbit 8 (x0 - (zbit 3 (zbit 8 x0 1) 1431655765)) 2) 858993459)) 4)) 252645135) + (zbit 8 (zbit 3 (((zbit 3 (x0 - (zbit 3 (zbit 8 x0 1) 1431655765)) 858993459) + (zbit 3 (zbit 8 (x0 - (zbit 3 (zbit 8 x0 1) 1431655765)) 2) 858993459)) + (zbit 8 ((zbit 3 (x0 - (zbit 3 (zbit 8 x0 1) 1431655765)) 858993459) + (zbit 3 (zbit 8 (x0 - (zbit 3 (zbit 8 x0 1) 1431655765)) 2) 858993459)) 4)) 252645135) 8)), .inl ((zbit 3 (((zbit 3 (x0 - (zbit 3 (zbit 8 x0 1) 1431655765)) 858993459) + (zbit 3 (zbit 8 (x0 - (zbit 3 (zbit 8 x0 1) 1431655765)) 2) 858993459)) + (zbit 8 ((zbit 3 (x0 - (zbit 3 (zbit 8 x0 1) 1431655765)) 858993459) + (zbit 3 (zbit 8 (x0 - (zbit 3 (zbit 8 x0 1) 1431655765)) 2) 858993459)) 4)) 252645135) + (zbit 8 (zbit 3 (((zbit 3 (x0 - (zbit 3 (zbit 8 x0 1) 1431655765)) 858993459) + (zbit 3 (zbit 8 (x0 - (zbit 3 (zbit 8 x0 1) 1431655765)) 2) 858993459)) + (zbit 8 ((zbit 3 (x0 - (zbit 3 (zbit 8 x0 1) 1431655765)) 858993459) + (zbit 3 (zbit 8 (x0 - (zbit 3 (zbit 8 x0 1) 1431655765)) 2) 858993459)) 4)) 252645135) 8))] Z (zri Q))
  refine z0 (op := 12) (a := 8) (b := 0) (by rfl) (by rfl) (?_ : TZ d 0 46 [some (.inl ((zbit 3 (((zbit 3 (x0 - (zbit 3 (zbit 8 x0 1) 1431655765)) 858993459) + (zbit 3 (zbit 8 (x0 - (zbit 3 (zbit 8 x0 1) 1431655765)) 2) 858993459)) + (zbit 8 ((zbit 3 (x0 - (zbit 3 (zbit 8 x0 1) 1431655765)) 858993459) + (zbit 3 (zbit 8 (x0 - (zbit 3 (zbit 8 x0 1) 1431655765)) 2) 858993459)) 4)) 252645135) + (zbit 8 (zbit 3 (((zbit 3 (x0 - (zbit 3 (zbit 8 x0 1) 1431655765)) 858993459) + (zbit 3 (zbit 8 (x0 - (zbit 3 (zbit 8 x0 1) 1431655765)) 2) 858993459)) + (zbit 8 ((zbit 3 (x0 - (zbit 3 (zbit 8 x0 1) 1431655765)) 858993459) + (zbit 3 (zbit 8 (x0 - (zbit 3 (zbit 8 x0 1) 1431655765)) 2) 858993459)) 4)) 252645135) 8)))] [.inl (zbit 8 ((zbit 3 (((zbit 3 (x0 - (zbit 3 (zbit 8 x0 1) 1431655765)) 858993459) + (zbit 3 (zbit 8 (x0 - (zbit 3 (zbit 8 x0 1) 1431655765)) 2) 858993459)) + (zbit 8 ((zbit 3 (x0 - (zbit 3 (zbit 8 x0 1) 1431655765)) 858993459) + (zbit 3 (zbit 8 (x0 - (zbit 3 (zbit 8 x0 1) 1431655765)) 2) 858993459)) 4)) 252645135) + (zbit 8 (zbit 3 (((zbit 3 (x0 - (zbit 3 (zbit 8 x0 1) 1431655765)) 858993459) + (zbit 3 (zbit 8 (x0 - (zbit 3 (zbit 8 x0 1) 1431655765)) 2) 858993459)) + (zbit 8 ((zbit 3 (x0 - (zbit 3 (zbit 8 x0 1) 1431655765)) 858993459) + (zbit 3 (zbit 8 (x0 - (zbit 3 (zbit 8 x0 1) 1431655765)) 2) 858993459)) 4)) 252645135) 8)) 16), .inl ((zbit 3 (((zbit 3 (x0 - (zbit 3 (zbit 8 x0 1) 1431655765)) 858993459) + (zbit 3 (zbit 8 (x0 - (zbit 3 (zbit 8 x0 1) 1431655765)) 2) 858993459)) + (zbit 8 ((zbit 3 (x0 - (zbit 3 (zbit 8 x0 1) 1431655765)) 858993459) + (zbit 3 (zbit 8 (x0 - (zbit 3 (zbit 8 x0 1) 1431655765)) 2) 858993459)) 4)) 252645135) + (zbit 8 (zbit 3 (((zbit 3 (x0 - (zbit 3 (zbit 8 x0 1) 1431655765)) 858993459) + (zbit 3 (zbit 8 (x0 - (zbit 3 (zbit 8 x0 1) 1431655765)) 2) 858993459)) + (zbit 8 ((zbit 3 (x0 - (zbit 3 (zbit 8 x0 1) 1431655765)) 858993459) + (zbit 3 (zbit 8 (x0 - (zbit 3 (zbit 8 x0 1) 1431655765)) 2) 858993459)) 4)) 252645135) 8))] Z (zri Q))
  refine z0 (op := 12) (a := 0) (b := 0) (by rfl) (by rfl) (?_ : TZ d 0 47 [some (.inl ((zbit 3 (((zbit 3 (x0 - (zbit 3 (zbit 8 x0 1) 1431655765)) 858993459) + (zbit 3 (zbit 8 (x0 - (zbit 3 (zbit 8 x0 1) 1431655765)) 2) 858993459)) + (zbit 8 ((zbit 3 (x0 - (zbit 3 (zbit 8 x0 1) 1431655765)) 858993459) + (zbit 3 (zbit 8 (x0 - (zbit 3 (zbit 8 x0 1) 1431655765)) 2) 858993459)) 4)) 252645135) + (zbit 8 (zbit 3 (((zbit 3 (x0 - (zbit 3 (zbit 8 x0 1) 1431655765)) 858993459) + (zbit 3 (zbit 8 (x0 - (zbit 3 (zbit 8 x0 1) 1431655765)) 2) 858993459)) + (zbit 8 ((zbit 3 (x0 - (zbit 3 (zbit 8 x0 1) 1431655765)) 858993459) + (zbit 3 (zbit 8 (x0 - (zbit 3 (zbit 8 x0 1) 1431655765)) 2) 858993459)) 4)) 252645135) 8)))] [.inl (((zbit 3 (((zbit 3 (x0 - (zbit 3 (zbit 8 x0 1) 1431655765)) 858993459) + (zbit 3 (zbit 8 (x0 - (zbit 3 (zbit 8 x0 1) 1431655765)) 2) 858993459)) + (zbit 8 ((zbit 3 (x0 - (zbit 3 (zbit 8 x0 1) 1431655765)) 858993459) + (zbit 3 (zbit 8 (x0 - (zbit 3 (zbit 8 x0 1) 1431655765)) 2) 858993459)) 4)) 252645135) + (zbit 8 (zbit 3 (((zbit 3 (x0 - (zbit 3 (zbit 8 x0 1) 1431655765)) 858993459) + (zbit 3 (zbit 8 (x0 - (zbit 3 (zbit 8 x0 1) 1431655765)) 2) 858993459)) + (zbit 8 ((zbit 3 (x0 - (zbit 3 (zbit 8 x0 1) 1431655765)) 858993459) + (zbit 3 (zbit 8 (x0 - (zbit 3 (zbit 8 x0 1) 1431655765)) 2) 858993459)) 4)) 252645135) 8)) + (zbit 8 ((zbit 3 (((zbit 3 (x0 - (zbit 3 (zbit 8 x0 1) 1431655765)) 858993459) + (zbit 3 (zbit 8 (x0 - (zbit 3 (zbit 8 x0 1) 1431655765)) 2) 858993459)) + (zbit 8 ((zbit 3 (x0 - (zbit 3 (zbit 8 x0 1) 1431655765)) 858993459) + (zbit 3 (zbit 8 (x0 - (zbit 3 (zbit 8 x0 1) 1431655765)) 2) 858993459)) 4)) 252645135) + (zbit 8 (zbit 3 (((zbit 3 (x0 - (zbit 3 (zbit 8 x0 1) 1431655765)) 858993459) + (zbit 3 (zbit 8 (x0 - (zbit 3 (zbit 8 x0 1) 1431655765)) 2) 858993459)) + (zbit 8 ((zbit 3 (x0 - (zbit 3 (zbit 8 x0 1) 1431655765)) 858993459) + (zbit 3 (zbit 8 (x0 - (zbit 3 (zbit 8 x0 1) 1431655765)) 2) 858993459)) 4)) 252645135) 8)) 16))] Z (zri Q))
  refine z0 (op := 7) (a := 0) (b := 0) (by rfl) (by rfl) (?_ : TZ d 0 48 [some (.inl (((zbit 3 (((zbit 3 (x0 - (zbit 3 (zbit 8 x0 1) 1431655765)) 858993459) + (zbit 3 (zbit 8 (x0 - (zbit 3 (zbit 8 x0 1) 1431655765)) 2) 858993459)) + (zbit 8 ((zbit 3 (x0 - (zbit 3 (zbit 8 x0 1) 1431655765)) 858993459) + (zbit 3 (zbit 8 (x0 - (zbit 3 (zbit 8 x0 1) 1431655765)) 2) 858993459)) 4)) 252645135) + (zbit 8 (zbit 3 (((zbit 3 (x0 - (zbit 3 (zbit 8 x0 1) 1431655765)) 858993459) + (zbit 3 (zbit 8 (x0 - (zbit 3 (zbit 8 x0 1) 1431655765)) 2) 858993459)) + (zbit 8 ((zbit 3 (x0 - (zbit 3 (zbit 8 x0 1) 1431655765)) 858993459) + (zbit 3 (zbit 8 (x0 - (zbit 3 (zbit 8 x0 1) 1431655765)) 2) 858993459)) 4)) 252645135) 8)) + (zbit 8 ((zbit 3 (((zbit 3 (x0 - (zbit 3 (zbit 8 x0 1) 1431655765)) 858993459) + (zbit 3 (zbit 8 (x0 - (zbit 3 (zbit 8 x0 1) 1431655765)) 2) 858993459)) + (zbit 8 ((zbit 3 (x0 - (zbit 3 (zbit 8 x0 1) 1431655765)) 858993459) + (zbit 3 (zbit 8 (x0 - (zbit 3 (zbit 8 x0 1) 1431655765)) 2) 858993459)) 4)) 252645135) + (zbit 8 (zbit 3 (((zbit 3 (x0 - (zbit 3 (zbit 8 x0 1) 1431655765)) 858993459) + (zbit 3 (zbit 8 (x0 - (zbit 3 (zbit 8 x0 1) 1431655765)) 2) 858993459)) + (zbit 8 ((zbit 3 (x0 - (zbit 3 (zbit 8 x0 1) 1431655765)) 858993459) + (zbit 3 (zbit 8 (x0 - (zbit 3 (zbit 8 x0 1) 1431655765)) 2) 858993459)) 4)) 252645135) 8)) 16)))] [] Z (zri Q))
  refine z0 (op := 3) (a := 0) (b := 0) (by rfl) (by rfl) (?_ : TZ d 0 49 [some (.inl (((zbit 3 (((zbit 3 (x0 - (zbit 3 (zbit 8 x0 1) 1431655765)) 858993459) + (zbit 3 (zbit 8 (x0 - (zbit 3 (zbit 8 x0 1) 1431655765)) 2) 858993459)) + (zbit 8 ((zbit 3 (x0 - (zbit 3 (zbit 8 x0 1) 1431655765)) 858993459) + (zbit 3 (zbit 8 (x0 - (zbit 3 (zbit 8 x0 1) 1431655765)) 2) 858993459)) 4)) 252645135) + (zbit 8 (zbit 3 (((zbit 3 (x0 - (zbit 3 (zbit 8 x0 1) 1431655765)) 858993459) + (zbit 3 (zbit 8 (x0 - (zbit 3 (zbit 8 x0 1) 1431655765)) 2) 858993459)) + (zbit 8 ((zbit 3 (x0 - (zbit 3 (zbit 8 x0 1) 1431655765)) 858993459) + (zbit 3 (zbit 8 (x0 - (zbit 3 (zbit 8 x0 1) 1431655765)) 2) 858993459)) 4)) 252645135) 8)) + (zbit 8 ((zbit 3 (((zbit 3 (x0 - (zbit 3 (zbit 8 x0 1) 1431655765)) 858993459) + (zbit 3 (zbit 8 (x0 - (zbit 3 (zbit 8 x0 1) 1431655765)) 2) 858993459)) + (zbit 8 ((zbit 3 (x0 - (zbit 3 (zbit 8 x0 1) 1431655765)) 858993459) + (zbit 3 (zbit 8 (x0 - (zbit 3 (zbit 8 x0 1) 1431655765)) 2) 858993459)) 4)) 252645135) + (zbit 8 (zbit 3 (((zbit 3 (x0 - (zbit 3 (zbit 8 x0 1) 1431655765)) 858993459) + (zbit 3 (zbit 8 (x0 - (zbit 3 (zbit 8 x0 1) 1431655765)) 2) 858993459)) + (zbit 8 ((zbit 3 (x0 - (zbit 3 (zbit 8 x0 1) 1431655765)) 858993459) + (zbit 3 (zbit 8 (x0 - (zbit 3 (zbit 8 x0 1) 1431655765)) 2) 858993459)) 4)) 252645135) 8)) 16)))] [.inl (((zbit 3 (((zbit 3 (x0 - (zbit 3 (zbit 8 x0 1) 1431655765)) 858993459) + (zbit 3 (zbit 8 (x0 - (zbit 3 (zbit 8 x0 1) 1431655765)) 2) 858993459)) + (zbit 8 ((zbit 3 (x0 - (zbit 3 (zbit 8 x0 1) 1431655765)) 858993459) + (zbit 3 (zbit 8 (x0 - (zbit 3 (zbit 8 x0 1) 1431655765)) 2) 858993459)) 4)) 252645135) + (zbit 8 (zbit 3 (((zbit 3 (x0 - (zbit 3 (zbit 8 x0 1) 1431655765)) 858993459) + (zbit 3 (zbit 8 (x0 - (zbit 3 (zbit 8 x0 1) 1431655765)) 2) 858993459)) + (zbit 8 ((zbit 3 (x0 - (zbit 3 (zbit 8 x0 1) 1431655765)) 858993459) + (zbit 3 (zbit 8 (x0 - (zbit 3 (zbit 8 x0 1) 1431655765)) 2) 858993459)) 4)) 252645135) 8)) + (zbit 8 ((zbit 3 (((zbit 3 (x0 - (zbit 3 (zbit 8 x0 1) 1431655765)) 858993459) + (zbit 3 (zbit 8 (x0 - (zbit 3 (zbit 8 x0 1) 1431655765)) 2) 858993459)) + (zbit 8 ((zbit 3 (x0 - (zbit 3 (zbit 8 x0 1) 1431655765)) 858993459) + (zbit 3 (zbit 8 (x0 - (zbit 3 (zbit 8 x0 1) 1431655765)) 2) 858993459)) 4)) 252645135) + (zbit 8 (zbit 3 (((zbit 3 (x0 - (zbit 3 (zbit 8 x0 1) 1431655765)) 858993459) + (zbit 3 (zbit 8 (x0 - (zbit 3 (zbit 8 x0 1) 1431655765)) 2) 858993459)) + (zbit 8 ((zbit 3 (x0 - (zbit 3 (zbit 8 x0 1) 1431655765)) 858993459) + (zbit 3 (zbit 8 (x0 - (zbit 3 (zbit 8 x0 1) 1431655765)) 2) 858993459)) 4)) 252645135) 8)) 16))] Z (zri Q))
  refine z0 (op := 1) (a := 0) (b := 63) (by rfl) (by rfl) (?_ : TZ d 0 51 [some (.inl (((zbit 3 (((zbit 3 (x0 - (zbit 3 (zbit 8 x0 1) 1431655765)) 858993459) + (zbit 3 (zbit 8 (x0 - (zbit 3 (zbit 8 x0 1) 1431655765)) 2) 858993459)) + (zbit 8 ((zbit 3 (x0 - (zbit 3 (zbit 8 x0 1) 1431655765)) 858993459) + (zbit 3 (zbit 8 (x0 - (zbit 3 (zbit 8 x0 1) 1431655765)) 2) 858993459)) 4)) 252645135) + (zbit 8 (zbit 3 (((zbit 3 (x0 - (zbit 3 (zbit 8 x0 1) 1431655765)) 858993459) + (zbit 3 (zbit 8 (x0 - (zbit 3 (zbit 8 x0 1) 1431655765)) 2) 858993459)) + (zbit 8 ((zbit 3 (x0 - (zbit 3 (zbit 8 x0 1) 1431655765)) 858993459) + (zbit 3 (zbit 8 (x0 - (zbit 3 (zbit 8 x0 1) 1431655765)) 2) 858993459)) 4)) 252645135) 8)) + (zbit 8 ((zbit 3 (((zbit 3 (x0 - (zbit 3 (zbit 8 x0 1) 1431655765)) 858993459) + (zbit 3 (zbit 8 (x0 - (zbit 3 (zbit 8 x0 1) 1431655765)) 2) 858993459)) + (zbit 8 ((zbit 3 (x0 - (zbit 3 (zbit 8 x0 1) 1431655765)) 858993459) + (zbit 3 (zbit 8 (x0 - (zbit 3 (zbit 8 x0 1) 1431655765)) 2) 858993459)) 4)) 252645135) + (zbit 8 (zbit 3 (((zbit 3 (x0 - (zbit 3 (zbit 8 x0 1) 1431655765)) 858993459) + (zbit 3 (zbit 8 (x0 - (zbit 3 (zbit 8 x0 1) 1431655765)) 2) 858993459)) + (zbit 8 ((zbit 3 (x0 - (zbit 3 (zbit 8 x0 1) 1431655765)) 858993459) + (zbit 3 (zbit 8 (x0 - (zbit 3 (zbit 8 x0 1) 1431655765)) 2) 858993459)) 4)) 252645135) 8)) 16)))] [.inl 63, .inl (((zbit 3 (((zbit 3 (x0 - (zbit 3 (zbit 8 x0 1) 1431655765)) 858993459) + (zbit 3 (zbit 8 (x0 - (zbit 3 (zbit 8 x0 1) 1431655765)) 2) 858993459)) + (zbit 8 ((zbit 3 (x0 - (zbit 3 (zbit 8 x0 1) 1431655765)) 858993459) + (zbit 3 (zbit 8 (x0 - (zbit 3 (zbit 8 x0 1) 1431655765)) 2) 858993459)) 4)) 252645135) + (zbit 8 (zbit 3 (((zbit 3 (x0 - (zbit 3 (zbit 8 x0 1) 1431655765)) 858993459) + (zbit 3 (zbit 8 (x0 - (zbit 3 (zbit 8 x0 1) 1431655765)) 2) 858993459)) + (zbit 8 ((zbit 3 (x0 - (zbit 3 (zbit 8 x0 1) 1431655765)) 858993459) + (zbit 3 (zbit 8 (x0 - (zbit 3 (zbit 8 x0 1) 1431655765)) 2) 858993459)) 4)) 252645135) 8)) + (zbit 8 ((zbit 3 (((zbit 3 (x0 - (zbit 3 (zbit 8 x0 1) 1431655765)) 858993459) + (zbit 3 (zbit 8 (x0 - (zbit 3 (zbit 8 x0 1) 1431655765)) 2) 858993459)) + (zbit 8 ((zbit 3 (x0 - (zbit 3 (zbit 8 x0 1) 1431655765)) 858993459) + (zbit 3 (zbit 8 (x0 - (zbit 3 (zbit 8 x0 1) 1431655765)) 2) 858993459)) 4)) 252645135) + (zbit 8 (zbit 3 (((zbit 3 (x0 - (zbit 3 (zbit 8 x0 1) 1431655765)) 858993459) + (zbit 3 (zbit 8 (x0 - (zbit 3 (zbit 8 x0 1) 1431655765)) 2) 858993459)) + (zbit 8 ((zbit 3 (x0 - (zbit 3 (zbit 8 x0 1) 1431655765)) 858993459) + (zbit 3 (zbit 8 (x0 - (zbit 3 (zbit 8 x0 1) 1431655765)) 2) 858993459)) 4)) 252645135) 8)) 16))] Z (zri Q))
  refine z0 (op := 12) (a := 3) (b := 0) (by rfl) (by rfl) (?_ : TZ d 0 52 [some (.inl (((zbit 3 (((zbit 3 (x0 - (zbit 3 (zbit 8 x0 1) 1431655765)) 858993459) + (zbit 3 (zbit 8 (x0 - (zbit 3 (zbit 8 x0 1) 1431655765)) 2) 858993459)) + (zbit 8 ((zbit 3 (x0 - (zbit 3 (zbit 8 x0 1) 1431655765)) 858993459) + (zbit 3 (zbit 8 (x0 - (zbit 3 (zbit 8 x0 1) 1431655765)) 2) 858993459)) 4)) 252645135) + (zbit 8 (zbit 3 (((zbit 3 (x0 - (zbit 3 (zbit 8 x0 1) 1431655765)) 858993459) + (zbit 3 (zbit 8 (x0 - (zbit 3 (zbit 8 x0 1) 1431655765)) 2) 858993459)) + (zbit 8 ((zbit 3 (x0 - (zbit 3 (zbit 8 x0 1) 1431655765)) 858993459) + (zbit 3 (zbit 8 (x0 - (zbit 3 (zbit 8 x0 1) 1431655765)) 2) 858993459)) 4)) 252645135) 8)) + (zbit 8 ((zbit 3 (((zbit 3 (x0 - (zbit 3 (zbit 8 x0 1) 1431655765)) 858993459) + (zbit 3 (zbit 8 (x0 - (zbit 3 (zbit 8 x0 1) 1431655765)) 2) 858993459)) + (zbit 8 ((zbit 3 (x0 - (zbit 3 (zbit 8 x0 1) 1431655765)) 858993459) + (zbit 3 (zbit 8 (x0 - (zbit 3 (zbit 8 x0 1) 1431655765)) 2) 858993459)) 4)) 252645135) + (zbit 8 (zbit 3 (((zbit 3 (x0 - (zbit 3 (zbit 8 x0 1) 1431655765)) 858993459) + (zbit 3 (zbit 8 (x0 - (zbit 3 (zbit 8 x0 1) 1431655765)) 2) 858993459)) + (zbit 8 ((zbit 3 (x0 - (zbit 3 (zbit 8 x0 1) 1431655765)) 858993459) + (zbit 3 (zbit 8 (x0 - (zbit 3 (zbit 8 x0 1) 1431655765)) 2) 858993459)) 4)) 252645135) 8)) 16)))] [.inl (zbit 3 (((zbit 3 (((zbit 3 (x0 - (zbit 3 (zbit 8 x0 1) 1431655765)) 858993459) + (zbit 3 (zbit 8 (x0 - (zbit 3 (zbit 8 x0 1) 1431655765)) 2) 858993459)) + (zbit 8 ((zbit 3 (x0 - (zbit 3 (zbit 8 x0 1) 1431655765)) 858993459) + (zbit 3 (zbit 8 (x0 - (zbit 3 (zbit 8 x0 1) 1431655765)) 2) 858993459)) 4)) 252645135) + (zbit 8 (zbit 3 (((zbit 3 (x0 - (zbit 3 (zbit 8 x0 1) 1431655765)) 858993459) + (zbit 3 (zbit 8 (x0 - (zbit 3 (zbit 8 x0 1) 1431655765)) 2) 858993459)) + (zbit 8 ((zbit 3 (x0 - (zbit 3 (zbit 8 x0 1) 1431655765)) 858993459) + (zbit 3 (zbit 8 (x0 - (zbit 3 (zbit 8 x0 1) 1431655765)) 2) 858993459)) 4)) 252645135) 8)) + (zbit 8 ((zbit 3 (((zbit 3 (x0 - (zbit 3 (zbit 8 x0 1) 1431655765)) 858993459) + (zbit 3 (zbit 8 (x0 - (zbit 3 (zbit 8 x0 1) 1431655765)) 2) 858993459)) + (zbit 8 ((zbit 3 (x0 - (zbit 3 (zbit 8 x0 1) 1431655765)) 858993459) + (zbit 3 (zbit 8 (x0 - (zbit 3 (zbit 8 x0 1) 1431655765)) 2) 858993459)) 4)) 252645135) + (zbit 8 (zbit 3 (((zbit 3 (x0 - (zbit 3 (zbit 8 x0 1) 1431655765)) 858993459) + (zbit 3 (zbit 8 (x0 - (zbit 3 (zbit 8 x0 1) 1431655765)) 2) 858993459)) + (zbit 8 ((zbit 3 (x0 - (zbit 3 (zbit 8 x0 1) 1431655765)) 858993459) + (zbit 3 (zbit 8 (x0 - (zbit 3 (zbit 8 x0 1) 1431655765)) 2) 858993459)) 4)) 252645135) 8)) 16)) 63)] Z (zri Q))
  exact z_reti (by rfl) (by rfl) v
theorem w8_0 {d : Nat} {k : Nat} {x2 : Int} {Z : zM} {Q : Int → zM → Prop} (hk : k ∈ zFl)
    (v : zR (Z 54 4) ∧
      ((Z 54 4) < 1000000 → Q 0 Z) ∧
      (¬ (Z 54 4) < 1000000 → TI d 24 [.inr k] Z (fun r4 Z3 =>
          TI d 52 [.inr 54, .inl x2, .inl r4] Z3 (fun r6 Z5 =>
            zR r6 ∧
              (r6 ≠ 0 → (zR x2 ∧
                  zR (Z5 54 3) ∧
                  (x2 < (Z5 54 3) → (zR x2 ∧
                      zR (Z5 54 3) ∧
                      ((Z5 54 3) ≤ x2 → Q 0 Z5) ∧
                      (¬ (Z5 54 3) ≤ x2 → Q 1 Z5))) ∧
                  (¬ x2 < (Z5 54 3) → TV d 53 [.inr 54, .inl 1, .inl x2] Z5 (fun Z15 =>
                      zR x2 ∧
                        zR (Z15 54 3) ∧
                        ((Z15 54 3) ≤ x2 → Q 0 Z15) ∧
                        (¬ (Z15 54 3) ≤ x2 → Q 1 Z15))))) ∧
              (¬ r6 ≠ 0 → Q 0 Z5))))) :
    TZ (d + 1) 8 0 [some (.inr 54), some (.inr k), some (.inl x2)] [] Z (zri Q) := by
  refine z0 (op := 5) (a := 0) (b := 0) (by rfl) (by rfl) (?_ : TZ (d + 1) 8 1 [some (.inr 54), some (.inr k), some (.inl x2)] [.inr 54] Z (zri Q))
  refine z_fi (by rfl) fi0_54 (?_ : TZ (d + 1) 8 4 [some (.inr 54), some (.inr k), some (.inl x2)] [.inl (Z 54 4)] Z (zri Q))
  refine z_con (op := 0) (a := 6) (b := 0) (by rfl) (by rfl) (by decide) (?_ : TZ (d + 1) 8 6 [some (.inr 54), some (.inr k), some (.inl x2)] [.inl 1000000, .inl (Z 54 4)] Z (zri Q))
  obtain ⟨c1, v1, v2⟩ := v
  refine z_if2 (a := 2) (t := 21) (by rfl) (by rfl) c1 (by decide) (fun h2 => ?_) (fun h2 => ?_)
  · have v := v1 h2; clear v1 v2
    show TZ (d + 1) 8 21 [some (.inr 54), some (.inr k), some (.inl x2)] [] Z (zri Q)
    refine z0 (op := 0) (a := 0) (b := 0) (by rfl) (by rfl) (?_ : TZ (d + 1) 8 22 [some (.inr 54), some (.inr k), some (.inl x2)] [.inl 0] Z (zri Q))
    exact z_retb (by rfl) (by rfl) (by decide) v
  · have v := v2 h2; clear v1 v2
    show TZ (d + 1) 8 9 [some (.inr 54), some (.inr k), some (.inl x2)] [] Z (zri Q)
    refine z0 (op := 5) (a := 0) (b := 0) (by rfl) (by rfl) (?_ : TZ (d + 1) 8 10 [some (.inr 54), some (.inr k), some (.inl x2)] [.inr 54] Z (zri Q))
    refine z0 (op := 3) (a := 2) (b := 0) (by rfl) (by rfl) (?_ : TZ (d + 1) 8 11 [some (.inr 54), some (.inr k), some (.inl x2)] [.inl x2, .inr 54] Z (zri Q))
    refine z0 (op := 5) (a := 1) (b := 0) (by rfl) (by rfl) (?_ : TZ (d + 1) 8 12 [some (.inr 54), some (.inr k), some (.inl x2)] [.inr k, .inl x2, .inr 54] Z (zri Q))
    refine z_vi (by rfl) (by rfl) (cl_F0 _ hk) (TI.mono v fun r4 Z3 v => ?_)
    show TZ (d + 1) 8 15 [some (.inr 54), some (.inr k), some (.inl x2)] [.inl r4, .inl x2, .inr 54] Z3 (zri Q)
    refine z_vi (by rfl) (by rfl) cl_54 (TI.mono v fun r6 Z5 v => ?_)
    show TZ (d + 1) 8 18 [some (.inr 54), some (.inr k), some (.inl x2)] [.inl r6] Z5 (zri Q)
    obtain ⟨c7, v1, v2⟩ := v
    refine z_if0 (a := 1) (t := 23) (by rfl) (by rfl) c7 (fun h8 => ?_) (fun h8 => ?_)
    · have v := v1 h8; clear v1 v2
      show TZ (d + 1) 8 23 [some (.inr 54), some (.inr k), some (.inl x2)] [] Z5 (zri Q)
      refine z0 (op := 3) (a := 2) (b := 0) (by rfl) (by rfl) (?_ : TZ (d + 1) 8 24 [some (.inr 54), some (.inr k), some (.inl x2)] [.inl x2] Z5 (zri Q))
      refine z0 (op := 5) (a := 0) (b := 0) (by rfl) (by rfl) (?_ : TZ (d + 1) 8 25 [some (.inr 54), some (.inr k), some (.inl x2)] [.inr 54, .inl x2] Z5 (zri Q))
      refine z_fi (by rfl) fi1_54 (?_ : TZ (d + 1) 8 28 [some (.inr 54), some (.inr k), some (.inl x2)] [.inl (Z5 54 3), .inl x2] Z5 (zri Q))
      obtain ⟨c9, c10, v1, v2⟩ := v
      refine z_if2 (a := 2) (t := 37) (by rfl) (by rfl) c9 c10 (fun h11 => ?_) (fun h11 => ?_)
      · have v := v1 h11; clear v1 v2
        show TZ (d + 1) 8 37 [some (.inr 54), some (.inr k), some (.inl x2)] [] Z5 (zri Q)
        refine z0 (op := 3) (a := 2) (b := 0) (by rfl) (by rfl) (?_ : TZ (d + 1) 8 38 [some (.inr 54), some (.inr k), some (.inl x2)] [.inl x2] Z5 (zri Q))
        refine z0 (op := 5) (a := 0) (b := 0) (by rfl) (by rfl) (?_ : TZ (d + 1) 8 39 [some (.inr 54), some (.inr k), some (.inl x2)] [.inr 54, .inl x2] Z5 (zri Q))
        refine z_fi (by rfl) fi1_54 (?_ : TZ (d + 1) 8 42 [some (.inr 54), some (.inr k), some (.inl x2)] [.inl (Z5 54 3), .inl x2] Z5 (zri Q))
        obtain ⟨c12, c13, v1, v2⟩ := v
        refine z_if2 (a := 3) (t := 49) (by rfl) (by rfl) c12 c13 (fun h14 => ?_) (fun h14 => ?_)
        · have v := v1 h14; clear v1 v2
          show TZ (d + 1) 8 49 [some (.inr 54), some (.inr k), some (.inl x2)] [] Z5 (zri Q)
          refine z0 (op := 0) (a := 0) (b := 0) (by rfl) (by rfl) (?_ : TZ (d + 1) 8 50 [some (.inr 54), some (.inr k), some (.inl x2)] [.inl 0] Z5 (zri Q))
          exact z_retb (by rfl) (by rfl) (by decide) v
        · have v := v2 h14; clear v1 v2
          show TZ (d + 1) 8 45 [some (.inr 54), some (.inr k), some (.inl x2)] [] Z5 (zri Q)
          refine z0 (op := 0) (a := 0) (b := 1) (by rfl) (by rfl) (?_ : TZ (d + 1) 8 46 [some (.inr 54), some (.inr k), some (.inl x2)] [.inl 1] Z5 (zri Q))
          refine z_goto (t := 50) (by rfl) (by rfl) (?_ : TZ (d + 1) 8 50 [some (.inr 54), some (.inr k), some (.inl x2)] [.inl 1] Z5 (zri Q))
          exact z_retb (by rfl) (by rfl) (by decide) v
      · have v := v2 h11; clear v1 v2
        show TZ (d + 1) 8 31 [some (.inr 54), some (.inr k), some (.inl x2)] [] Z5 (zri Q)
        refine z0 (op := 5) (a := 0) (b := 0) (by rfl) (by rfl) (?_ : TZ (d + 1) 8 32 [some (.inr 54), some (.inr k), some (.inl x2)] [.inr 54] Z5 (zri Q))
        refine z0 (op := 0) (a := 0) (b := 1) (by rfl) (by rfl) (?_ : TZ (d + 1) 8 33 [some (.inr 54), some (.inr k), some (.inl x2)] [.inl 1, .inr 54] Z5 (zri Q))
        refine z0 (op := 3) (a := 2) (b := 0) (by rfl) (by rfl) (?_ : TZ (d + 1) 8 34 [some (.inr 54), some (.inr k), some (.inl x2)] [.inl x2, .inl 1, .inr 54] Z5 (zri Q))
        refine z_vv (by rfl) (by rfl) cl_54 (TV.mono v fun Z15 v => ?_)
        show TZ (d + 1) 8 37 [some (.inr 54), some (.inr k), some (.inl x2)] [] Z15 (zri Q)
        refine z0 (op := 3) (a := 2) (b := 0) (by rfl) (by rfl) (?_ : TZ (d + 1) 8 38 [some (.inr 54), some (.inr k), some (.inl x2)] [.inl x2] Z15 (zri Q))
        refine z0 (op := 5) (a := 0) (b := 0) (by rfl) (by rfl) (?_ : TZ (d + 1) 8 39 [some (.inr 54), some (.inr k), some (.inl x2)] [.inr 54, .inl x2] Z15 (zri Q))
        refine z_fi (by rfl) fi1_54 (?_ : TZ (d + 1) 8 42 [some (.inr 54), some (.inr k), some (.inl x2)] [.inl (Z15 54 3), .inl x2] Z15 (zri Q))
        obtain ⟨c16, c17, v1, v2⟩ := v
        refine z_if2 (a := 3) (t := 49) (by rfl) (by rfl) c16 c17 (fun h18 => ?_) (fun h18 => ?_)
        · have v := v1 h18; clear v1 v2
          show TZ (d + 1) 8 49 [some (.inr 54), some (.inr k), some (.inl x2)] [] Z15 (zri Q)
          refine z0 (op := 0) (a := 0) (b := 0) (by rfl) (by rfl) (?_ : TZ (d + 1) 8 50 [some (.inr 54), some (.inr k), some (.inl x2)] [.inl 0] Z15 (zri Q))
          exact z_retb (by rfl) (by rfl) (by decide) v
        · have v := v2 h18; clear v1 v2
          show TZ (d + 1) 8 45 [some (.inr 54), some (.inr k), some (.inl x2)] [] Z15 (zri Q)
          refine z0 (op := 0) (a := 0) (b := 1) (by rfl) (by rfl) (?_ : TZ (d + 1) 8 46 [some (.inr 54), some (.inr k), some (.inl x2)] [.inl 1] Z15 (zri Q))
          refine z_goto (t := 50) (by rfl) (by rfl) (?_ : TZ (d + 1) 8 50 [some (.inr 54), some (.inr k), some (.inl x2)] [.inl 1] Z15 (zri Q))
          exact z_retb (by rfl) (by rfl) (by decide) v
    · have v := v2 h8; clear v1 v2
      show TZ (d + 1) 8 21 [some (.inr 54), some (.inr k), some (.inl x2)] [] Z5 (zri Q)
      refine z0 (op := 0) (a := 0) (b := 0) (by rfl) (by rfl) (?_ : TZ (d + 1) 8 22 [some (.inr 54), some (.inr k), some (.inl x2)] [.inl 0] Z5 (zri Q))
      exact z_retb (by rfl) (by rfl) (by decide) v
theorem w10_0 {d : Nat} {k : Nat} {x2 : Int} {Z : zM} {Q : Int → zM → Prop} (hk : k ∈ zFl)
    (v : TI d 54 [.inr 46, .inl x2] Z (fun r2 Z1 =>
      zR r2 ∧
        zR (Z1 46 4) ∧
        ((Z1 46 4) ≤ r2 → Q 0 Z1) ∧
        (¬ (Z1 46 4) ≤ r2 → (zR x2 ∧
            (x2 ≤ 0 → (zR x2 ∧
                zR (Z1 46 3) ∧
                (x2 < (Z1 46 3) → (zR x2 ∧
                    zR (Z1 46 3) ∧
                    ((Z1 46 3) ≤ x2 → Q 0 Z1) ∧
                    (¬ (Z1 46 3) ≤ x2 → Q 1 Z1))) ∧
                (¬ x2 < (Z1 46 3) → TV d 53 [.inr 46, .inl r2, .inl x2] Z1 (fun Z14 =>
                    zR x2 ∧
                      zR (Z14 46 3) ∧
                      ((Z14 46 3) ≤ x2 → Q 0 Z14) ∧
                      (¬ (Z14 46 3) ≤ x2 → Q 1 Z14))))) ∧
            (¬ x2 ≤ 0 → TI d 23 [.inr k] Z1 (fun r19 Z18 =>
                zR r19 ∧
                  (r19 = 0 → (zR x2 ∧
                      zR (Z18 46 3) ∧
                      (x2 < (Z18 46 3) → (zR x2 ∧
                          zR (Z18 46 3) ∧
                          ((Z18 46 3) ≤ x2 → Q 0 Z18) ∧
                          (¬ (Z18 46 3) ≤ x2 → Q 1 Z18))) ∧
                      (¬ x2 < (Z18 46 3) → TV d 53 [.inr 46, .inl r2, .inl x2] Z18 (fun Z28 =>
                          zR x2 ∧
                            zR (Z28 46 3) ∧
                            ((Z28 46 3) ≤ x2 → Q 0 Z28) ∧
                            (¬ (Z28 46 3) ≤ x2 → Q 1 Z28))))) ∧
                  (¬ r19 = 0 → Q 0 Z18))))))) :
    TZ (d + 1) 10 0 [some (.inr 46), some (.inr k), some (.inl x2), none] [] Z (zri Q) := by
  refine z0 (op := 5) (a := 0) (b := 0) (by rfl) (by rfl) (?_ : TZ (d + 1) 10 1 [some (.inr 46), some (.inr k), some (.inl x2), none] [.inr 46] Z (zri Q))
  refine z0 (op := 3) (a := 2) (b := 0) (by rfl) (by rfl) (?_ : TZ (d + 1) 10 2 [some (.inr 46), some (.inr k), some (.inl x2), none] [.inl x2, .inr 46] Z (zri Q))
  refine z_vi (by rfl) (by rfl) cl_46 (TI.mono v fun r2 Z1 v => ?_)
  show TZ (d + 1) 10 5 [some (.inr 46), some (.inr k), some (.inl x2), none] [.inl r2] Z1 (zri Q)
  refine z0 (op := 7) (a := 3) (b := 0) (by rfl) (by rfl) (?_ : TZ (d + 1) 10 6 [some (.inr 46), some (.inr k), some (.inl x2), some (.inl r2)] [] Z1 (zri Q))
  refine z0 (op := 3) (a := 3) (b := 0) (by rfl) (by rfl) (?_ : TZ (d + 1) 10 7 [some (.inr 46), some (.inr k), some (.inl x2), some (.inl r2)] [.inl r2] Z1 (zri Q))
  refine z0 (op := 5) (a := 0) (b := 0) (by rfl) (by rfl) (?_ : TZ (d + 1) 10 8 [some (.inr 46), some (.inr k), some (.inl x2), some (.inl r2)] [.inr 46, .inl r2] Z1 (zri Q))
  refine z_fi (by rfl) fi2_46 (?_ : TZ (d + 1) 10 11 [some (.inr 46), some (.inr k), some (.inl x2), some (.inl r2)] [.inl (Z1 46 4), .inl r2] Z1 (zri Q))
  obtain ⟨c3, c4, v1, v2⟩ := v
  refine z_if2 (a := 3) (t := 25) (by rfl) (by rfl) c3 c4 (fun h5 => ?_) (fun h5 => ?_)
  · have v := v1 h5; clear v1 v2
    show TZ (d + 1) 10 25 [some (.inr 46), some (.inr k), some (.inl x2), some (.inl r2)] [] Z1 (zri Q)
    refine z0 (op := 0) (a := 0) (b := 0) (by rfl) (by rfl) (?_ : TZ (d + 1) 10 26 [some (.inr 46), some (.inr k), some (.inl x2), some (.inl r2)] [.inl 0] Z1 (zri Q))
    exact z_retb (by rfl) (by rfl) (by decide) v
  · have v := v2 h5; clear v1 v2
    show TZ (d + 1) 10 14 [some (.inr 46), some (.inr k), some (.inl x2), some (.inl r2)] [] Z1 (zri Q)
    refine z0 (op := 3) (a := 2) (b := 0) (by rfl) (by rfl) (?_ : TZ (d + 1) 10 15 [some (.inr 46), some (.inr k), some (.inl x2), some (.inl r2)] [.inl x2] Z1 (zri Q))
    obtain ⟨c6, v1, v2⟩ := v
    refine z_if0 (a := 5) (t := 27) (by rfl) (by rfl) c6 (fun h7 => ?_) (fun h7 => ?_)
    · have v := v1 h7; clear v1 v2
      show TZ (d + 1) 10 27 [some (.inr 46), some (.inr k), some (.inl x2), some (.inl r2)] [] Z1 (zri Q)
      refine z0 (op := 3) (a := 2) (b := 0) (by rfl) (by rfl) (?_ : TZ (d + 1) 10 28 [some (.inr 46), some (.inr k), some (.inl x2), some (.inl r2)] [.inl x2] Z1 (zri Q))
      refine z0 (op := 5) (a := 0) (b := 0) (by rfl) (by rfl) (?_ : TZ (d + 1) 10 29 [some (.inr 46), some (.inr k), some (.inl x2), some (.inl r2)] [.inr 46, .inl x2] Z1 (zri Q))
      refine z_fi (by rfl) fi3_46 (?_ : TZ (d + 1) 10 32 [some (.inr 46), some (.inr k), some (.inl x2), some (.inl r2)] [.inl (Z1 46 3), .inl x2] Z1 (zri Q))
      obtain ⟨c8, c9, v1, v2⟩ := v
      refine z_if2 (a := 2) (t := 41) (by rfl) (by rfl) c8 c9 (fun h10 => ?_) (fun h10 => ?_)
      · have v := v1 h10; clear v1 v2
        show TZ (d + 1) 10 41 [some (.inr 46), some (.inr k), some (.inl x2), some (.inl r2)] [] Z1 (zri Q)
        refine z0 (op := 3) (a := 2) (b := 0) (by rfl) (by rfl) (?_ : TZ (d + 1) 10 42 [some (.inr 46), some (.inr k), some (.inl x2), some (.inl r2)] [.inl x2] Z1 (zri Q))
        refine z0 (op := 5) (a := 0) (b := 0) (by rfl) (by rfl) (?_ : TZ (d + 1) 10 43 [some (.inr 46), some (.inr k), some (.inl x2), some (.inl r2)] [.inr 46, .inl x2] Z1 (zri Q))
        refine z_fi (by rfl) fi3_46 (?_ : TZ (d + 1) 10 46 [some (.inr 46), some (.inr k), some (.inl x2), some (.inl r2)] [.inl (Z1 46 3), .inl x2] Z1 (zri Q))
        obtain ⟨c11, c12, v1, v2⟩ := v
        refine z_if2 (a := 3) (t := 53) (by rfl) (by rfl) c11 c12 (fun h13 => ?_) (fun h13 => ?_)
        · have v := v1 h13; clear v1 v2
          show TZ (d + 1) 10 53 [some (.inr 46), some (.inr k), some (.inl x2), some (.inl r2)] [] Z1 (zri Q)
          refine z0 (op := 0) (a := 0) (b := 0) (by rfl) (by rfl) (?_ : TZ (d + 1) 10 54 [some (.inr 46), some (.inr k), some (.inl x2), some (.inl r2)] [.inl 0] Z1 (zri Q))
          exact z_retb (by rfl) (by rfl) (by decide) v
        · have v := v2 h13; clear v1 v2
          show TZ (d + 1) 10 49 [some (.inr 46), some (.inr k), some (.inl x2), some (.inl r2)] [] Z1 (zri Q)
          refine z0 (op := 0) (a := 0) (b := 1) (by rfl) (by rfl) (?_ : TZ (d + 1) 10 50 [some (.inr 46), some (.inr k), some (.inl x2), some (.inl r2)] [.inl 1] Z1 (zri Q))
          refine z_goto (t := 54) (by rfl) (by rfl) (?_ : TZ (d + 1) 10 54 [some (.inr 46), some (.inr k), some (.inl x2), some (.inl r2)] [.inl 1] Z1 (zri Q))
          exact z_retb (by rfl) (by rfl) (by decide) v
      · have v := v2 h10; clear v1 v2
        show TZ (d + 1) 10 35 [some (.inr 46), some (.inr k), some (.inl x2), some (.inl r2)] [] Z1 (zri Q)
        refine z0 (op := 5) (a := 0) (b := 0) (by rfl) (by rfl) (?_ : TZ (d + 1) 10 36 [some (.inr 46), some (.inr k), some (.inl x2), some (.inl r2)] [.inr 46] Z1 (zri Q))
        refine z0 (op := 3) (a := 3) (b := 0) (by rfl) (by rfl) (?_ : TZ (d + 1) 10 37 [some (.inr 46), some (.inr k), some (.inl x2), some (.inl r2)] [.inl r2, .inr 46] Z1 (zri Q))
        refine z0 (op := 3) (a := 2) (b := 0) (by rfl) (by rfl) (?_ : TZ (d + 1) 10 38 [some (.inr 46), some (.inr k), some (.inl x2), some (.inl r2)] [.inl x2, .inl r2, .inr 46] Z1 (zri Q))
        refine z_vv (by rfl) (by rfl) cl_46 (TV.mono v fun Z14 v => ?_)
        show TZ (d + 1) 10 41 [some (.inr 46), some (.inr k), some (.inl x2), some (.inl r2)] [] Z14 (zri Q)
        refine z0 (op := 3) (a := 2) (b := 0) (by rfl) (by rfl) (?_ : TZ (d + 1) 10 42 [some (.inr 46), some (.inr k), some (.inl x2), some (.inl r2)] [.inl x2] Z14 (zri Q))
        refine z0 (op := 5) (a := 0) (b := 0) (by rfl) (by rfl) (?_ : TZ (d + 1) 10 43 [some (.inr 46), some (.inr k), some (.inl x2), some (.inl r2)] [.inr 46, .inl x2] Z14 (zri Q))
        refine z_fi (by rfl) fi3_46 (?_ : TZ (d + 1) 10 46 [some (.inr 46), some (.inr k), some (.inl x2), some (.inl r2)] [.inl (Z14 46 3), .inl x2] Z14 (zri Q))
        obtain ⟨c15, c16, v1, v2⟩ := v
        refine z_if2 (a := 3) (t := 53) (by rfl) (by rfl) c15 c16 (fun h17 => ?_) (fun h17 => ?_)
        · have v := v1 h17; clear v1 v2
          show TZ (d + 1) 10 53 [some (.inr 46), some (.inr k), some (.inl x2), some (.inl r2)] [] Z14 (zri Q)
          refine z0 (op := 0) (a := 0) (b := 0) (by rfl) (by rfl) (?_ : TZ (d + 1) 10 54 [some (.inr 46), some (.inr k), some (.inl x2), some (.inl r2)] [.inl 0] Z14 (zri Q))
          exact z_retb (by rfl) (by rfl) (by decide) v
        · have v := v2 h17; clear v1 v2
          show TZ (d + 1) 10 49 [some (.inr 46), some (.inr k), some (.inl x2), some (.inl r2)] [] Z14 (zri Q)
          refine z0 (op := 0) (a := 0) (b := 1) (by rfl) (by rfl) (?_ : TZ (d + 1) 10 50 [some (.inr 46), some (.inr k), some (.inl x2), some (.inl r2)] [.inl 1] Z14 (zri Q))
          refine z_goto (t := 54) (by rfl) (by rfl) (?_ : TZ (d + 1) 10 54 [some (.inr 46), some (.inr k), some (.inl x2), some (.inl r2)] [.inl 1] Z14 (zri Q))
          exact z_retb (by rfl) (by rfl) (by decide) v
    · have v := v2 h7; clear v1 v2
      show TZ (d + 1) 10 18 [some (.inr 46), some (.inr k), some (.inl x2), some (.inl r2)] [] Z1 (zri Q)
      refine z0 (op := 5) (a := 1) (b := 0) (by rfl) (by rfl) (?_ : TZ (d + 1) 10 19 [some (.inr 46), some (.inr k), some (.inl x2), some (.inl r2)] [.inr k] Z1 (zri Q))
      refine z_vi (by rfl) (by rfl) (cl_F0 _ hk) (TI.mono v fun r19 Z18 v => ?_)
      show TZ (d + 1) 10 22 [some (.inr 46), some (.inr k), some (.inl x2), some (.inl r2)] [.inl r19] Z18 (zri Q)
      obtain ⟨c20, v1, v2⟩ := v
      refine z_if0 (a := 0) (t := 27) (by rfl) (by rfl) c20 (fun h21 => ?_) (fun h21 => ?_)
      · have v := v1 h21; clear v1 v2
        show TZ (d + 1) 10 27 [some (.inr 46), some (.inr k), some (.inl x2), some (.inl r2)] [] Z18 (zri Q)
        refine z0 (op := 3) (a := 2) (b := 0) (by rfl) (by rfl) (?_ : TZ (d + 1) 10 28 [some (.inr 46), some (.inr k), some (.inl x2), some (.inl r2)] [.inl x2] Z18 (zri Q))
        refine z0 (op := 5) (a := 0) (b := 0) (by rfl) (by rfl) (?_ : TZ (d + 1) 10 29 [some (.inr 46), some (.inr k), some (.inl x2), some (.inl r2)] [.inr 46, .inl x2] Z18 (zri Q))
        refine z_fi (by rfl) fi3_46 (?_ : TZ (d + 1) 10 32 [some (.inr 46), some (.inr k), some (.inl x2), some (.inl r2)] [.inl (Z18 46 3), .inl x2] Z18 (zri Q))
        obtain ⟨c22, c23, v1, v2⟩ := v
        refine z_if2 (a := 2) (t := 41) (by rfl) (by rfl) c22 c23 (fun h24 => ?_) (fun h24 => ?_)
        · have v := v1 h24; clear v1 v2
          show TZ (d + 1) 10 41 [some (.inr 46), some (.inr k), some (.inl x2), some (.inl r2)] [] Z18 (zri Q)
          refine z0 (op := 3) (a := 2) (b := 0) (by rfl) (by rfl) (?_ : TZ (d + 1) 10 42 [some (.inr 46), some (.inr k), some (.inl x2), some (.inl r2)] [.inl x2] Z18 (zri Q))
          refine z0 (op := 5) (a := 0) (b := 0) (by rfl) (by rfl) (?_ : TZ (d + 1) 10 43 [some (.inr 46), some (.inr k), some (.inl x2), some (.inl r2)] [.inr 46, .inl x2] Z18 (zri Q))
          refine z_fi (by rfl) fi3_46 (?_ : TZ (d + 1) 10 46 [some (.inr 46), some (.inr k), some (.inl x2), some (.inl r2)] [.inl (Z18 46 3), .inl x2] Z18 (zri Q))
          obtain ⟨c25, c26, v1, v2⟩ := v
          refine z_if2 (a := 3) (t := 53) (by rfl) (by rfl) c25 c26 (fun h27 => ?_) (fun h27 => ?_)
          · have v := v1 h27; clear v1 v2
            show TZ (d + 1) 10 53 [some (.inr 46), some (.inr k), some (.inl x2), some (.inl r2)] [] Z18 (zri Q)
            refine z0 (op := 0) (a := 0) (b := 0) (by rfl) (by rfl) (?_ : TZ (d + 1) 10 54 [some (.inr 46), some (.inr k), some (.inl x2), some (.inl r2)] [.inl 0] Z18 (zri Q))
            exact z_retb (by rfl) (by rfl) (by decide) v
          · have v := v2 h27; clear v1 v2
            show TZ (d + 1) 10 49 [some (.inr 46), some (.inr k), some (.inl x2), some (.inl r2)] [] Z18 (zri Q)
            refine z0 (op := 0) (a := 0) (b := 1) (by rfl) (by rfl) (?_ : TZ (d + 1) 10 50 [some (.inr 46), some (.inr k), some (.inl x2), some (.inl r2)] [.inl 1] Z18 (zri Q))
            refine z_goto (t := 54) (by rfl) (by rfl) (?_ : TZ (d + 1) 10 54 [some (.inr 46), some (.inr k), some (.inl x2), some (.inl r2)] [.inl 1] Z18 (zri Q))
            exact z_retb (by rfl) (by rfl) (by decide) v
        · have v := v2 h24; clear v1 v2
          show TZ (d + 1) 10 35 [some (.inr 46), some (.inr k), some (.inl x2), some (.inl r2)] [] Z18 (zri Q)
          refine z0 (op := 5) (a := 0) (b := 0) (by rfl) (by rfl) (?_ : TZ (d + 1) 10 36 [some (.inr 46), some (.inr k), some (.inl x2), some (.inl r2)] [.inr 46] Z18 (zri Q))
          refine z0 (op := 3) (a := 3) (b := 0) (by rfl) (by rfl) (?_ : TZ (d + 1) 10 37 [some (.inr 46), some (.inr k), some (.inl x2), some (.inl r2)] [.inl r2, .inr 46] Z18 (zri Q))
          refine z0 (op := 3) (a := 2) (b := 0) (by rfl) (by rfl) (?_ : TZ (d + 1) 10 38 [some (.inr 46), some (.inr k), some (.inl x2), some (.inl r2)] [.inl x2, .inl r2, .inr 46] Z18 (zri Q))
          refine z_vv (by rfl) (by rfl) cl_46 (TV.mono v fun Z28 v => ?_)
          show TZ (d + 1) 10 41 [some (.inr 46), some (.inr k), some (.inl x2), some (.inl r2)] [] Z28 (zri Q)
          refine z0 (op := 3) (a := 2) (b := 0) (by rfl) (by rfl) (?_ : TZ (d + 1) 10 42 [some (.inr 46), some (.inr k), some (.inl x2), some (.inl r2)] [.inl x2] Z28 (zri Q))
          refine z0 (op := 5) (a := 0) (b := 0) (by rfl) (by rfl) (?_ : TZ (d + 1) 10 43 [some (.inr 46), some (.inr k), some (.inl x2), some (.inl r2)] [.inr 46, .inl x2] Z28 (zri Q))
          refine z_fi (by rfl) fi3_46 (?_ : TZ (d + 1) 10 46 [some (.inr 46), some (.inr k), some (.inl x2), some (.inl r2)] [.inl (Z28 46 3), .inl x2] Z28 (zri Q))
          obtain ⟨c29, c30, v1, v2⟩ := v
          refine z_if2 (a := 3) (t := 53) (by rfl) (by rfl) c29 c30 (fun h31 => ?_) (fun h31 => ?_)
          · have v := v1 h31; clear v1 v2
            show TZ (d + 1) 10 53 [some (.inr 46), some (.inr k), some (.inl x2), some (.inl r2)] [] Z28 (zri Q)
            refine z0 (op := 0) (a := 0) (b := 0) (by rfl) (by rfl) (?_ : TZ (d + 1) 10 54 [some (.inr 46), some (.inr k), some (.inl x2), some (.inl r2)] [.inl 0] Z28 (zri Q))
            exact z_retb (by rfl) (by rfl) (by decide) v
          · have v := v2 h31; clear v1 v2
            show TZ (d + 1) 10 49 [some (.inr 46), some (.inr k), some (.inl x2), some (.inl r2)] [] Z28 (zri Q)
            refine z0 (op := 0) (a := 0) (b := 1) (by rfl) (by rfl) (?_ : TZ (d + 1) 10 50 [some (.inr 46), some (.inr k), some (.inl x2), some (.inl r2)] [.inl 1] Z28 (zri Q))
            refine z_goto (t := 54) (by rfl) (by rfl) (?_ : TZ (d + 1) 10 54 [some (.inr 46), some (.inr k), some (.inl x2), some (.inl r2)] [.inl 1] Z28 (zri Q))
            exact z_retb (by rfl) (by rfl) (by decide) v
      · have v := v2 h21; clear v1 v2
        show TZ (d + 1) 10 25 [some (.inr 46), some (.inr k), some (.inl x2), some (.inl r2)] [] Z18 (zri Q)
        refine z0 (op := 0) (a := 0) (b := 0) (by rfl) (by rfl) (?_ : TZ (d + 1) 10 26 [some (.inr 46), some (.inr k), some (.inl x2), some (.inl r2)] [.inl 0] Z18 (zri Q))
        exact z_retb (by rfl) (by rfl) (by decide) v
theorem w37_0 {d : Nat} {k : Nat} {x2 : Int} {Z : zM} {Q : Int → zM → Prop} (hk : k ∈ zFl)
    (v : zR x2 ∧
      zR (Z 66 4) ∧
      (x2 < (Z 66 4) → TI d 24 [.inr k] Z (fun r5 Z4 =>
          TI d 0 [.inl r5] Z4 (fun r7 Z6 =>
            zR r7 ∧
              zR (Z6 66 6) ∧
              ((Z6 66 6) < r7 → (zR x2 ∧
                  zR (Z6 66 3) ∧
                  ((Z6 66 3) ≤ x2 → Q 0 Z6) ∧
                  (¬ (Z6 66 3) ≤ x2 → Q 1 Z6))) ∧
              (¬ (Z6 66 6) < r7 → TV d 53 [.inr 66, .inl x2, .inl x2] Z6 (fun Z14 =>
                  Q 0 Z14))))) ∧
      (¬ x2 < (Z 66 4) → Q 0 Z)) :
    TZ (d + 1) 37 0 [some (.inr 66), some (.inr k), some (.inl x2)] [] Z (zri Q) := by
  refine z0 (op := 3) (a := 2) (b := 0) (by rfl) (by rfl) (?_ : TZ (d + 1) 37 1 [some (.inr 66), some (.inr k), some (.inl x2)] [.inl x2] Z (zri Q))
  refine z0 (op := 5) (a := 0) (b := 0) (by rfl) (by rfl) (?_ : TZ (d + 1) 37 2 [some (.inr 66), some (.inr k), some (.inl x2)] [.inr 66, .inl x2] Z (zri Q))
  refine z_fi (by rfl) fi12_66 (?_ : TZ (d + 1) 37 5 [some (.inr 66), some (.inr k), some (.inl x2)] [.inl (Z 66 4), .inl x2] Z (zri Q))
  obtain ⟨c1, c2, v1, v2⟩ := v
  refine z_if2 (a := 2) (t := 10) (by rfl) (by rfl) c1 c2 (fun h3 => ?_) (fun h3 => ?_)
  · have v := v1 h3; clear v1 v2
    show TZ (d + 1) 37 10 [some (.inr 66), some (.inr k), some (.inl x2)] [] Z (zri Q)
    refine z0 (op := 5) (a := 1) (b := 0) (by rfl) (by rfl) (?_ : TZ (d + 1) 37 11 [some (.inr 66), some (.inr k), some (.inl x2)] [.inr k] Z (zri Q))
    refine z_vi (by rfl) (by rfl) (cl_F0 _ hk) (TI.mono v fun r5 Z4 v => ?_)
    show TZ (d + 1) 37 14 [some (.inr 66), some (.inr k), some (.inl x2)] [.inl r5] Z4 (zri Q)
    refine z_si (by rfl) (by rfl) (TI.mono v fun r7 Z6 v => ?_)
    show TZ (d + 1) 37 17 [some (.inr 66), some (.inr k), some (.inl x2)] [.inl r7] Z6 (zri Q)
    refine z0 (op := 5) (a := 0) (b := 0) (by rfl) (by rfl) (?_ : TZ (d + 1) 37 18 [some (.inr 66), some (.inr k), some (.inl x2)] [.inr 66, .inl r7] Z6 (zri Q))
    refine z_fi (by rfl) fi13_66 (?_ : TZ (d + 1) 37 21 [some (.inr 66), some (.inr k), some (.inl x2)] [.inl (Z6 66 6), .inl r7] Z6 (zri Q))
    obtain ⟨c8, c9, v1, v2⟩ := v
    refine z_if2 (a := 4) (t := 32) (by rfl) (by rfl) c8 c9 (fun h10 => ?_) (fun h10 => ?_)
    · have v := v1 h10; clear v1 v2
      show TZ (d + 1) 37 32 [some (.inr 66), some (.inr k), some (.inl x2)] [] Z6 (zri Q)
      refine z0 (op := 3) (a := 2) (b := 0) (by rfl) (by rfl) (?_ : TZ (d + 1) 37 33 [some (.inr 66), some (.inr k), some (.inl x2)] [.inl x2] Z6 (zri Q))
      refine z0 (op := 5) (a := 0) (b := 0) (by rfl) (by rfl) (?_ : TZ (d + 1) 37 34 [some (.inr 66), some (.inr k), some (.inl x2)] [.inr 66, .inl x2] Z6 (zri Q))
      refine z_fi (by rfl) fi14_66 (?_ : TZ (d + 1) 37 37 [some (.inr 66), some (.inr k), some (.inl x2)] [.inl (Z6 66 3), .inl x2] Z6 (zri Q))
      obtain ⟨c11, c12, v1, v2⟩ := v
      refine z_if2 (a := 3) (t := 44) (by rfl) (by rfl) c11 c12 (fun h13 => ?_) (fun h13 => ?_)
      · have v := v1 h13; clear v1 v2
        show TZ (d + 1) 37 44 [some (.inr 66), some (.inr k), some (.inl x2)] [] Z6 (zri Q)
        refine z0 (op := 0) (a := 0) (b := 0) (by rfl) (by rfl) (?_ : TZ (d + 1) 37 45 [some (.inr 66), some (.inr k), some (.inl x2)] [.inl 0] Z6 (zri Q))
        exact z_retb (by rfl) (by rfl) (by decide) v
      · have v := v2 h13; clear v1 v2
        show TZ (d + 1) 37 40 [some (.inr 66), some (.inr k), some (.inl x2)] [] Z6 (zri Q)
        refine z0 (op := 0) (a := 0) (b := 1) (by rfl) (by rfl) (?_ : TZ (d + 1) 37 41 [some (.inr 66), some (.inr k), some (.inl x2)] [.inl 1] Z6 (zri Q))
        refine z_goto (t := 45) (by rfl) (by rfl) (?_ : TZ (d + 1) 37 45 [some (.inr 66), some (.inr k), some (.inl x2)] [.inl 1] Z6 (zri Q))
        exact z_retb (by rfl) (by rfl) (by decide) v
    · have v := v2 h10; clear v1 v2
      show TZ (d + 1) 37 24 [some (.inr 66), some (.inr k), some (.inl x2)] [] Z6 (zri Q)
      refine z0 (op := 5) (a := 0) (b := 0) (by rfl) (by rfl) (?_ : TZ (d + 1) 37 25 [some (.inr 66), some (.inr k), some (.inl x2)] [.inr 66] Z6 (zri Q))
      refine z0 (op := 3) (a := 2) (b := 0) (by rfl) (by rfl) (?_ : TZ (d + 1) 37 26 [some (.inr 66), some (.inr k), some (.inl x2)] [.inl x2, .inr 66] Z6 (zri Q))
      refine z0 (op := 3) (a := 2) (b := 0) (by rfl) (by rfl) (?_ : TZ (d + 1) 37 27 [some (.inr 66), some (.inr k), some (.inl x2)] [.inl x2, .inl x2, .inr 66] Z6 (zri Q))
      refine z_vv (by rfl) (by rfl) cl_66 (TV.mono v fun Z14 v => ?_)
      show TZ (d + 1) 37 30 [some (.inr 66), some (.inr k), some (.inl x2)] [] Z14 (zri Q)
      refine z0 (op := 0) (a := 0) (b := 0) (by rfl) (by rfl) (?_ : TZ (d + 1) 37 31 [some (.inr 66), some (.inr k), some (.inl x2)] [.inl 0] Z14 (zri Q))
      exact z_retb (by rfl) (by rfl) (by decide) v
  · have v := v2 h3; clear v1 v2
    show TZ (d + 1) 37 8 [some (.inr 66), some (.inr k), some (.inl x2)] [] Z (zri Q)
    refine z0 (op := 0) (a := 0) (b := 0) (by rfl) (by rfl) (?_ : TZ (d + 1) 37 9 [some (.inr 66), some (.inr k), some (.inl x2)] [.inl 0] Z (zri Q))
    exact z_retb (by rfl) (by rfl) (by decide) v
theorem w39_0 {d : Nat} {k : Nat} {x2 : Int} {Z : zM} {Q : Int → zM → Prop} (hk : k ∈ zFl)
    (v : zR x2 ∧
      (x2 ≠ 0 → (zR x2 ∧
          zR (Z 50 3) ∧
          (x2 < (Z 50 3) → (zR x2 ∧
              zR (Z 50 3) ∧
              ((Z 50 3) ≤ x2 → Q 0 Z) ∧
              (¬ (Z 50 3) ≤ x2 → (zR (Z k 5) ∧
                  zR (Z 50 6) ∧
                  zR (min (Z k 5) 4) ∧
                  ((min (Z k 5) 4) ≤ (Z 50 6) → Q 0 Z) ∧
                  (¬ (min (Z k 5) 4) ≤ (Z 50 6) → Q 1 Z))))) ∧
          (¬ x2 < (Z 50 3) → TI d 15 [.inr k, .inl ((Z k 6) - 1)] Z (fun r14 Z13 =>
              zR r14 ∧
                (r14 = 0 → (zR x2 ∧
                    zR (Z13 50 3) ∧
                    ((Z13 50 3) ≤ x2 → Q 0 Z13) ∧
                    (¬ (Z13 50 3) ≤ x2 → (zR (Z13 k 5) ∧
                        zR (Z13 50 6) ∧
                        zR (min (Z13 k 5) 4) ∧
                        ((min (Z13 k 5) 4) ≤ (Z13 50 6) → Q 0 Z13) ∧
                        (¬ (min (Z13 k 5) 4) ≤ (Z13 50 6) → Q 1 Z13))))) ∧
                (¬ r14 = 0 → ((0 ≤ ((Z k 6) - 1) ∧ ((Z k 6) - 1) < 6) ∧
                    zR (Z13 50 6) ∧
                    zR (Z13 (k + 4) ((Z k 6) - 1)) ∧
                    ∀ Z27, Z27 = zup Z13 50 6 (max (Z13 50 6) (Z13 (k + 4) ((Z k 6) - 1))) →
                    zR x2 ∧
                    zR (Z27 50 3) ∧
                    ((Z27 50 3) ≤ x2 → Q 0 Z27) ∧
                    (¬ (Z27 50 3) ≤ x2 → (zR (Z27 k 5) ∧
                        zR (Z27 50 6) ∧
                        zR (min (Z27 k 5) 4) ∧
                        ((min (Z27 k 5) 4) ≤ (Z27 50 6) → Q 0 Z27) ∧
                        (¬ (min (Z27 k 5) 4) ≤ (Z27 50 6) → Q 1 Z27))))))))) ∧
      (¬ x2 ≠ 0 → ∀ Z35, Z35 = zup Z 50 6 0 →
          zR x2 ∧
          zR (Z35 50 3) ∧
          (x2 < (Z35 50 3) → (zR x2 ∧
              zR (Z35 50 3) ∧
              ((Z35 50 3) ≤ x2 → Q 0 Z35) ∧
              (¬ (Z35 50 3) ≤ x2 → (zR (Z35 k 5) ∧
                  zR (Z35 50 6) ∧
                  zR (min (Z35 k 5) 4) ∧
                  ((min (Z35 k 5) 4) ≤ (Z35 50 6) → Q 0 Z35) ∧
                  (¬ (min (Z35 k 5) 4) ≤ (Z35 50 6) → Q 1 Z35))))) ∧
          (¬ x2 < (Z35 50 3) → TI d 15 [.inr k, .inl ((Z k 6) - 1)] Z35 (fun r47 Z46 =>
              zR r47 ∧
                (r47 = 0 → (zR x2 ∧
                    zR (Z46 50 3) ∧
                    ((Z46 50 3) ≤ x2 → Q 0 Z46) ∧
                    (¬ (Z46 50 3) ≤ x2 → (zR (Z46 k 5) ∧
                        zR (Z46 50 6) ∧
                        zR (min (Z46 k 5) 4) ∧
                        ((min (Z46 k 5) 4) ≤ (Z46 50 6) → Q 0 Z46) ∧
                        (¬ (min (Z46 k 5) 4) ≤ (Z46 50 6) → Q 1 Z46))))) ∧
                (¬ r47 = 0 → ((0 ≤ ((Z k 6) - 1) ∧ ((Z k 6) - 1) < 6) ∧
                    zR (Z46 50 6) ∧
                    zR (Z46 (k + 4) ((Z k 6) - 1)) ∧
                    ∀ Z60, Z60 = zup Z46 50 6 (max (Z46 50 6) (Z46 (k + 4) ((Z k 6) - 1))) →
                    zR x2 ∧
                    zR (Z60 50 3) ∧
                    ((Z60 50 3) ≤ x2 → Q 0 Z60) ∧
                    (¬ (Z60 50 3) ≤ x2 → (zR (Z60 k 5) ∧
                        zR (Z60 50 6) ∧
                        zR (min (Z60 k 5) 4) ∧
                        ((min (Z60 k 5) 4) ≤ (Z60 50 6) → Q 0 Z60) ∧
                        (¬ (min (Z60 k 5) 4) ≤ (Z60 50 6) → Q 1 Z60))))))))) :
    TZ (d + 1) 39 0 [some (.inr 50), some (.inr k), some (.inl x2), none] [] Z (zri Q) := by
  refine z0 (op := 5) (a := 1) (b := 0) (by rfl) (by rfl) (?_ : TZ (d + 1) 39 1 [some (.inr 50), some (.inr k), some (.inl x2), none] [.inr k] Z (zri Q))
  refine z_fi (by rfl) (fi15_F0 _ hk) (?_ : TZ (d + 1) 39 4 [some (.inr 50), some (.inr k), some (.inl x2), none] [.inl (Z k 6)] Z (zri Q))
  refine z0 (op := 0) (a := 0) (b := 1) (by rfl) (by rfl) (?_ : TZ (d + 1) 39 5 [some (.inr 50), some (.inr k), some (.inl x2), none] [.inl 1, .inl (Z k 6)] Z (zri Q))
  refine z0 (op := 12) (a := 1) (b := 0) (by rfl) (by rfl) (?_ : TZ (d + 1) 39 6 [some (.inr 50), some (.inr k), some (.inl x2), none] [.inl ((Z k 6) - 1)] Z (zri Q))
  refine z0 (op := 7) (a := 3) (b := 0) (by rfl) (by rfl) (?_ : TZ (d + 1) 39 7 [some (.inr 50), some (.inr k), some (.inl x2), some (.inl ((Z k 6) - 1))] [] Z (zri Q))
  refine z0 (op := 3) (a := 2) (b := 0) (by rfl) (by rfl) (?_ : TZ (d + 1) 39 8 [some (.inr 50), some (.inr k), some (.inl x2), some (.inl ((Z k 6) - 1))] [.inl x2] Z (zri Q))
  obtain ⟨c1, v1, v2⟩ := v
  refine z_if0 (a := 1) (t := 16) (by rfl) (by rfl) c1 (fun h2 => ?_) (fun h2 => ?_)
  · have v := v1 h2; clear v1 v2
    show TZ (d + 1) 39 16 [some (.inr 50), some (.inr k), some (.inl x2), some (.inl ((Z k 6) - 1))] [] Z (zri Q)
    refine z0 (op := 3) (a := 2) (b := 0) (by rfl) (by rfl) (?_ : TZ (d + 1) 39 17 [some (.inr 50), some (.inr k), some (.inl x2), some (.inl ((Z k 6) - 1))] [.inl x2] Z (zri Q))
    refine z0 (op := 5) (a := 0) (b := 0) (by rfl) (by rfl) (?_ : TZ (d + 1) 39 18 [some (.inr 50), some (.inr k), some (.inl x2), some (.inl ((Z k 6) - 1))] [.inr 50, .inl x2] Z (zri Q))
    refine z_fi (by rfl) fi17_50 (?_ : TZ (d + 1) 39 21 [some (.inr 50), some (.inr k), some (.inl x2), some (.inl ((Z k 6) - 1))] [.inl (Z 50 3), .inl x2] Z (zri Q))
    obtain ⟨c3, c4, v1, v2⟩ := v
    refine z_if2 (a := 2) (t := 49) (by rfl) (by rfl) c3 c4 (fun h5 => ?_) (fun h5 => ?_)
    · have v := v1 h5; clear v1 v2
      show TZ (d + 1) 39 49 [some (.inr 50), some (.inr k), some (.inl x2), some (.inl ((Z k 6) - 1))] [] Z (zri Q)
      refine z0 (op := 3) (a := 2) (b := 0) (by rfl) (by rfl) (?_ : TZ (d + 1) 39 50 [some (.inr 50), some (.inr k), some (.inl x2), some (.inl ((Z k 6) - 1))] [.inl x2] Z (zri Q))
      refine z0 (op := 5) (a := 0) (b := 0) (by rfl) (by rfl) (?_ : TZ (d + 1) 39 51 [some (.inr 50), some (.inr k), some (.inl x2), some (.inl ((Z k 6) - 1))] [.inr 50, .inl x2] Z (zri Q))
      refine z_fi (by rfl) fi17_50 (?_ : TZ (d + 1) 39 54 [some (.inr 50), some (.inr k), some (.inl x2), some (.inl ((Z k 6) - 1))] [.inl (Z 50 3), .inl x2] Z (zri Q))
      obtain ⟨c6, c7, v1, v2⟩ := v
      refine z_if2 (a := 3) (t := 76) (by rfl) (by rfl) c6 c7 (fun h8 => ?_) (fun h8 => ?_)
      · have v := v1 h8; clear v1 v2
        show TZ (d + 1) 39 76 [some (.inr 50), some (.inr k), some (.inl x2), some (.inl ((Z k 6) - 1))] [] Z (zri Q)
        refine z0 (op := 0) (a := 0) (b := 0) (by rfl) (by rfl) (?_ : TZ (d + 1) 39 77 [some (.inr 50), some (.inr k), some (.inl x2), some (.inl ((Z k 6) - 1))] [.inl 0] Z (zri Q))
        exact z_retb (by rfl) (by rfl) (by decide) v
      · have v := v2 h8; clear v1 v2
        show TZ (d + 1) 39 57 [some (.inr 50), some (.inr k), some (.inl x2), some (.inl ((Z k 6) - 1))] [] Z (zri Q)
        refine z0 (op := 5) (a := 0) (b := 0) (by rfl) (by rfl) (?_ : TZ (d + 1) 39 58 [some (.inr 50), some (.inr k), some (.inl x2), some (.inl ((Z k 6) - 1))] [.inr 50] Z (zri Q))
        refine z_fi (by rfl) fi16_50 (?_ : TZ (d + 1) 39 61 [some (.inr 50), some (.inr k), some (.inl x2), some (.inl ((Z k 6) - 1))] [.inl (Z 50 6)] Z (zri Q))
        refine z0 (op := 5) (a := 1) (b := 0) (by rfl) (by rfl) (?_ : TZ (d + 1) 39 62 [some (.inr 50), some (.inr k), some (.inl x2), some (.inl ((Z k 6) - 1))] [.inr k, .inl (Z 50 6)] Z (zri Q))
        refine z_fi (by rfl) (fi19_F0 _ hk) (?_ : TZ (d + 1) 39 65 [some (.inr 50), some (.inr k), some (.inl x2), some (.inl ((Z k 6) - 1))] [.inl (Z k 5), .inl (Z 50 6)] Z (zri Q))
        refine z0 (op := 0) (a := 0) (b := 4) (by rfl) (by rfl) (?_ : TZ (d + 1) 39 66 [some (.inr 50), some (.inr k), some (.inl x2), some (.inl ((Z k 6) - 1))] [.inl 4, .inl (Z k 5), .inl (Z 50 6)] Z (zri Q))
        obtain ⟨c9, v⟩ := v
        refine z_min (by rfl) (by rfl) (Nat.le_of_ble_eq_true rfl) c9 (by decide) (?_ : TZ (d + 1) 39 69 [some (.inr 50), some (.inr k), some (.inl x2), some (.inl ((Z k 6) - 1))] [.inl (min (Z k 5) 4), .inl (Z 50 6)] Z (zri Q))
        obtain ⟨c10, c11, v1, v2⟩ := v
        refine z_if2 (a := 3) (t := 76) (by rfl) (by rfl) c10 c11 (fun h12 => ?_) (fun h12 => ?_)
        · have v := v1 h12; clear v1 v2
          show TZ (d + 1) 39 76 [some (.inr 50), some (.inr k), some (.inl x2), some (.inl ((Z k 6) - 1))] [] Z (zri Q)
          refine z0 (op := 0) (a := 0) (b := 0) (by rfl) (by rfl) (?_ : TZ (d + 1) 39 77 [some (.inr 50), some (.inr k), some (.inl x2), some (.inl ((Z k 6) - 1))] [.inl 0] Z (zri Q))
          exact z_retb (by rfl) (by rfl) (by decide) v
        · have v := v2 h12; clear v1 v2
          show TZ (d + 1) 39 72 [some (.inr 50), some (.inr k), some (.inl x2), some (.inl ((Z k 6) - 1))] [] Z (zri Q)
          refine z0 (op := 0) (a := 0) (b := 1) (by rfl) (by rfl) (?_ : TZ (d + 1) 39 73 [some (.inr 50), some (.inr k), some (.inl x2), some (.inl ((Z k 6) - 1))] [.inl 1] Z (zri Q))
          refine z_goto (t := 77) (by rfl) (by rfl) (?_ : TZ (d + 1) 39 77 [some (.inr 50), some (.inr k), some (.inl x2), some (.inl ((Z k 6) - 1))] [.inl 1] Z (zri Q))
          exact z_retb (by rfl) (by rfl) (by decide) v
    · have v := v2 h5; clear v1 v2
      show TZ (d + 1) 39 24 [some (.inr 50), some (.inr k), some (.inl x2), some (.inl ((Z k 6) - 1))] [] Z (zri Q)
      refine z0 (op := 5) (a := 1) (b := 0) (by rfl) (by rfl) (?_ : TZ (d + 1) 39 25 [some (.inr 50), some (.inr k), some (.inl x2), some (.inl ((Z k 6) - 1))] [.inr k] Z (zri Q))
      refine z0 (op := 3) (a := 3) (b := 0) (by rfl) (by rfl) (?_ : TZ (d + 1) 39 26 [some (.inr 50), some (.inr k), some (.inl x2), some (.inl ((Z k 6) - 1))] [.inl ((Z k 6) - 1), .inr k] Z (zri Q))
      refine z_vi (by rfl) (by rfl) (cl_F0 _ hk) (TI.mono v fun r14 Z13 v => ?_)
      show TZ (d + 1) 39 29 [some (.inr 50), some (.inr k), some (.inl x2), some (.inl ((Z k 6) - 1))] [.inl r14] Z13 (zri Q)
      obtain ⟨c15, v1, v2⟩ := v
      refine z_if0 (a := 0) (t := 49) (by rfl) (by rfl) c15 (fun h16 => ?_) (fun h16 => ?_)
      · have v := v1 h16; clear v1 v2
        show TZ (d + 1) 39 49 [some (.inr 50), some (.inr k), some (.inl x2), some (.inl ((Z k 6) - 1))] [] Z13 (zri Q)
        refine z0 (op := 3) (a := 2) (b := 0) (by rfl) (by rfl) (?_ : TZ (d + 1) 39 50 [some (.inr 50), some (.inr k), some (.inl x2), some (.inl ((Z k 6) - 1))] [.inl x2] Z13 (zri Q))
        refine z0 (op := 5) (a := 0) (b := 0) (by rfl) (by rfl) (?_ : TZ (d + 1) 39 51 [some (.inr 50), some (.inr k), some (.inl x2), some (.inl ((Z k 6) - 1))] [.inr 50, .inl x2] Z13 (zri Q))
        refine z_fi (by rfl) fi17_50 (?_ : TZ (d + 1) 39 54 [some (.inr 50), some (.inr k), some (.inl x2), some (.inl ((Z k 6) - 1))] [.inl (Z13 50 3), .inl x2] Z13 (zri Q))
        obtain ⟨c17, c18, v1, v2⟩ := v
        refine z_if2 (a := 3) (t := 76) (by rfl) (by rfl) c17 c18 (fun h19 => ?_) (fun h19 => ?_)
        · have v := v1 h19; clear v1 v2
          show TZ (d + 1) 39 76 [some (.inr 50), some (.inr k), some (.inl x2), some (.inl ((Z k 6) - 1))] [] Z13 (zri Q)
          refine z0 (op := 0) (a := 0) (b := 0) (by rfl) (by rfl) (?_ : TZ (d + 1) 39 77 [some (.inr 50), some (.inr k), some (.inl x2), some (.inl ((Z k 6) - 1))] [.inl 0] Z13 (zri Q))
          exact z_retb (by rfl) (by rfl) (by decide) v
        · have v := v2 h19; clear v1 v2
          show TZ (d + 1) 39 57 [some (.inr 50), some (.inr k), some (.inl x2), some (.inl ((Z k 6) - 1))] [] Z13 (zri Q)
          refine z0 (op := 5) (a := 0) (b := 0) (by rfl) (by rfl) (?_ : TZ (d + 1) 39 58 [some (.inr 50), some (.inr k), some (.inl x2), some (.inl ((Z k 6) - 1))] [.inr 50] Z13 (zri Q))
          refine z_fi (by rfl) fi16_50 (?_ : TZ (d + 1) 39 61 [some (.inr 50), some (.inr k), some (.inl x2), some (.inl ((Z k 6) - 1))] [.inl (Z13 50 6)] Z13 (zri Q))
          refine z0 (op := 5) (a := 1) (b := 0) (by rfl) (by rfl) (?_ : TZ (d + 1) 39 62 [some (.inr 50), some (.inr k), some (.inl x2), some (.inl ((Z k 6) - 1))] [.inr k, .inl (Z13 50 6)] Z13 (zri Q))
          refine z_fi (by rfl) (fi19_F0 _ hk) (?_ : TZ (d + 1) 39 65 [some (.inr 50), some (.inr k), some (.inl x2), some (.inl ((Z k 6) - 1))] [.inl (Z13 k 5), .inl (Z13 50 6)] Z13 (zri Q))
          refine z0 (op := 0) (a := 0) (b := 4) (by rfl) (by rfl) (?_ : TZ (d + 1) 39 66 [some (.inr 50), some (.inr k), some (.inl x2), some (.inl ((Z k 6) - 1))] [.inl 4, .inl (Z13 k 5), .inl (Z13 50 6)] Z13 (zri Q))
          obtain ⟨c20, v⟩ := v
          refine z_min (by rfl) (by rfl) (Nat.le_of_ble_eq_true rfl) c20 (by decide) (?_ : TZ (d + 1) 39 69 [some (.inr 50), some (.inr k), some (.inl x2), some (.inl ((Z k 6) - 1))] [.inl (min (Z13 k 5) 4), .inl (Z13 50 6)] Z13 (zri Q))
          obtain ⟨c21, c22, v1, v2⟩ := v
          refine z_if2 (a := 3) (t := 76) (by rfl) (by rfl) c21 c22 (fun h23 => ?_) (fun h23 => ?_)
          · have v := v1 h23; clear v1 v2
            show TZ (d + 1) 39 76 [some (.inr 50), some (.inr k), some (.inl x2), some (.inl ((Z k 6) - 1))] [] Z13 (zri Q)
            refine z0 (op := 0) (a := 0) (b := 0) (by rfl) (by rfl) (?_ : TZ (d + 1) 39 77 [some (.inr 50), some (.inr k), some (.inl x2), some (.inl ((Z k 6) - 1))] [.inl 0] Z13 (zri Q))
            exact z_retb (by rfl) (by rfl) (by decide) v
          · have v := v2 h23; clear v1 v2
            show TZ (d + 1) 39 72 [some (.inr 50), some (.inr k), some (.inl x2), some (.inl ((Z k 6) - 1))] [] Z13 (zri Q)
            refine z0 (op := 0) (a := 0) (b := 1) (by rfl) (by rfl) (?_ : TZ (d + 1) 39 73 [some (.inr 50), some (.inr k), some (.inl x2), some (.inl ((Z k 6) - 1))] [.inl 1] Z13 (zri Q))
            refine z_goto (t := 77) (by rfl) (by rfl) (?_ : TZ (d + 1) 39 77 [some (.inr 50), some (.inr k), some (.inl x2), some (.inl ((Z k 6) - 1))] [.inl 1] Z13 (zri Q))
            exact z_retb (by rfl) (by rfl) (by decide) v
      · have v := v2 h16; clear v1 v2
        show TZ (d + 1) 39 32 [some (.inr 50), some (.inr k), some (.inl x2), some (.inl ((Z k 6) - 1))] [] Z13 (zri Q)
        refine z0 (op := 5) (a := 0) (b := 0) (by rfl) (by rfl) (?_ : TZ (d + 1) 39 33 [some (.inr 50), some (.inr k), some (.inl x2), some (.inl ((Z k 6) - 1))] [.inr 50] Z13 (zri Q))
        refine z0 (op := 5) (a := 0) (b := 0) (by rfl) (by rfl) (?_ : TZ (d + 1) 39 34 [some (.inr 50), some (.inr k), some (.inl x2), some (.inl ((Z k 6) - 1))] [.inr 50, .inr 50] Z13 (zri Q))
        refine z_fi (by rfl) fi16_50 (?_ : TZ (d + 1) 39 37 [some (.inr 50), some (.inr k), some (.inl x2), some (.inl ((Z k 6) - 1))] [.inl (Z13 50 6), .inr 50] Z13 (zri Q))
        refine z0 (op := 5) (a := 1) (b := 0) (by rfl) (by rfl) (?_ : TZ (d + 1) 39 38 [some (.inr 50), some (.inr k), some (.inl x2), some (.inl ((Z k 6) - 1))] [.inr k, .inl (Z13 50 6), .inr 50] Z13 (zri Q))
        refine z_fr (by rfl) (fr18_F0 _ hk) (?_ : TZ (d + 1) 39 41 [some (.inr 50), some (.inr k), some (.inl x2), some (.inl ((Z k 6) - 1))] [.inr (k + 4), .inl (Z13 50 6), .inr 50] Z13 (zri Q))
        refine z0 (op := 3) (a := 3) (b := 0) (by rfl) (by rfl) (?_ : TZ (d + 1) 39 42 [some (.inr 50), some (.inr k), some (.inl x2), some (.inl ((Z k 6) - 1))] [.inl ((Z k 6) - 1), .inr (k + 4), .inl (Z13 50 6), .inr 50] Z13 (zri Q))
        obtain ⟨c24, v⟩ := v
        refine z_al (by rfl) (ln_F4 _ hk) c24 (?_ : TZ (d + 1) 39 43 [some (.inr 50), some (.inr k), some (.inl x2), some (.inl ((Z k 6) - 1))] [.inl (Z13 (k + 4) ((Z k 6) - 1)), .inl (Z13 50 6), .inr 50] Z13 (zri Q))
        obtain ⟨c25, c26, v⟩ := v
        refine z_max (by rfl) (by rfl) (Nat.le_of_ble_eq_true rfl) c25 c26 (?_ : TZ (d + 1) 39 46 [some (.inr 50), some (.inr k), some (.inl x2), some (.inl ((Z k 6) - 1))] [.inl (max (Z13 50 6) (Z13 (k + 4) ((Z k 6) - 1))), .inr 50] Z13 (zri Q))
        obtain ⟨Z27, eZ27⟩ : ∃ zz, zz = zup Z13 50 6 (max (Z13 50 6) (Z13 (k + 4) ((Z k 6) - 1))) := ⟨_, rfl⟩
        have v := v Z27 eZ27
        refine z_pf (by rfl) pf16_50 (fun h => nomatch h) ?_
        show TZ (d + 1) 39 49 [some (.inr 50), some (.inr k), some (.inl x2), some (.inl ((Z k 6) - 1))] [] (zup Z13 50 6 (max (Z13 50 6) (Z13 (k + 4) ((Z k 6) - 1)))) _
        rw [← eZ27]
        refine z0 (op := 3) (a := 2) (b := 0) (by rfl) (by rfl) (?_ : TZ (d + 1) 39 50 [some (.inr 50), some (.inr k), some (.inl x2), some (.inl ((Z k 6) - 1))] [.inl x2] Z27 (zri Q))
        refine z0 (op := 5) (a := 0) (b := 0) (by rfl) (by rfl) (?_ : TZ (d + 1) 39 51 [some (.inr 50), some (.inr k), some (.inl x2), some (.inl ((Z k 6) - 1))] [.inr 50, .inl x2] Z27 (zri Q))
        refine z_fi (by rfl) fi17_50 (?_ : TZ (d + 1) 39 54 [some (.inr 50), some (.inr k), some (.inl x2), some (.inl ((Z k 6) - 1))] [.inl (Z27 50 3), .inl x2] Z27 (zri Q))
        obtain ⟨c28, c29, v1, v2⟩ := v
        refine z_if2 (a := 3) (t := 76) (by rfl) (by rfl) c28 c29 (fun h30 => ?_) (fun h30 => ?_)
        · have v := v1 h30; clear v1 v2
          show TZ (d + 1) 39 76 [some (.inr 50), some (.inr k), some (.inl x2), some (.inl ((Z k 6) - 1))] [] Z27 (zri Q)
          refine z0 (op := 0) (a := 0) (b := 0) (by rfl) (by rfl) (?_ : TZ (d + 1) 39 77 [some (.inr 50), some (.inr k), some (.inl x2), some (.inl ((Z k 6) - 1))] [.inl 0] Z27 (zri Q))
          exact z_retb (by rfl) (by rfl) (by decide) v
        · have v := v2 h30; clear v1 v2
          show TZ (d + 1) 39 57 [some (.inr 50), some (.inr k), some (.inl x2), some (.inl ((Z k 6) - 1))] [] Z27 (zri Q)
          refine z0 (op := 5) (a := 0) (b := 0) (by rfl) (by rfl) (?_ : TZ (d + 1) 39 58 [some (.inr 50), some (.inr k), some (.inl x2), some (.inl ((Z k 6) - 1))] [.inr 50] Z27 (zri Q))
          refine z_fi (by rfl) fi16_50 (?_ : TZ (d + 1) 39 61 [some (.inr 50), some (.inr k), some (.inl x2), some (.inl ((Z k 6) - 1))] [.inl (Z27 50 6)] Z27 (zri Q))
          refine z0 (op := 5) (a := 1) (b := 0) (by rfl) (by rfl) (?_ : TZ (d + 1) 39 62 [some (.inr 50), some (.inr k), some (.inl x2), some (.inl ((Z k 6) - 1))] [.inr k, .inl (Z27 50 6)] Z27 (zri Q))
          refine z_fi (by rfl) (fi19_F0 _ hk) (?_ : TZ (d + 1) 39 65 [some (.inr 50), some (.inr k), some (.inl x2), some (.inl ((Z k 6) - 1))] [.inl (Z27 k 5), .inl (Z27 50 6)] Z27 (zri Q))
          refine z0 (op := 0) (a := 0) (b := 4) (by rfl) (by rfl) (?_ : TZ (d + 1) 39 66 [some (.inr 50), some (.inr k), some (.inl x2), some (.inl ((Z k 6) - 1))] [.inl 4, .inl (Z27 k 5), .inl (Z27 50 6)] Z27 (zri Q))
          obtain ⟨c31, v⟩ := v
          refine z_min (by rfl) (by rfl) (Nat.le_of_ble_eq_true rfl) c31 (by decide) (?_ : TZ (d + 1) 39 69 [some (.inr 50), some (.inr k), some (.inl x2), some (.inl ((Z k 6) - 1))] [.inl (min (Z27 k 5) 4), .inl (Z27 50 6)] Z27 (zri Q))
          obtain ⟨c32, c33, v1, v2⟩ := v
          refine z_if2 (a := 3) (t := 76) (by rfl) (by rfl) c32 c33 (fun h34 => ?_) (fun h34 => ?_)
          · have v := v1 h34; clear v1 v2
            show TZ (d + 1) 39 76 [some (.inr 50), some (.inr k), some (.inl x2), some (.inl ((Z k 6) - 1))] [] Z27 (zri Q)
            refine z0 (op := 0) (a := 0) (b := 0) (by rfl) (by rfl) (?_ : TZ (d + 1) 39 77 [some (.inr 50), some (.inr k), some (.inl x2), some (.inl ((Z k 6) - 1))] [.inl 0] Z27 (zri Q))
            exact z_retb (by rfl) (by rfl) (by decide) v
          · have v := v2 h34; clear v1 v2
            show TZ (d + 1) 39 72 [some (.inr 50), some (.inr k), some (.inl x2), some (.inl ((Z k 6) - 1))] [] Z27 (zri Q)
            refine z0 (op := 0) (a := 0) (b := 1) (by rfl) (by rfl) (?_ : TZ (d + 1) 39 73 [some (.inr 50), some (.inr k), some (.inl x2), some (.inl ((Z k 6) - 1))] [.inl 1] Z27 (zri Q))
            refine z_goto (t := 77) (by rfl) (by rfl) (?_ : TZ (d + 1) 39 77 [some (.inr 50), some (.inr k), some (.inl x2), some (.inl ((Z k 6) - 1))] [.inl 1] Z27 (zri Q))
            exact z_retb (by rfl) (by rfl) (by decide) v
  · have v := v2 h2; clear v1 v2
    show TZ (d + 1) 39 11 [some (.inr 50), some (.inr k), some (.inl x2), some (.inl ((Z k 6) - 1))] [] Z (zri Q)
    refine z0 (op := 5) (a := 0) (b := 0) (by rfl) (by rfl) (?_ : TZ (d + 1) 39 12 [some (.inr 50), some (.inr k), some (.inl x2), some (.inl ((Z k 6) - 1))] [.inr 50] Z (zri Q))
    refine z0 (op := 0) (a := 0) (b := 0) (by rfl) (by rfl) (?_ : TZ (d + 1) 39 13 [some (.inr 50), some (.inr k), some (.inl x2), some (.inl ((Z k 6) - 1))] [.inl 0, .inr 50] Z (zri Q))
    obtain ⟨Z35, eZ35⟩ : ∃ zz, zz = zup Z 50 6 0 := ⟨_, rfl⟩
    have v := v Z35 eZ35
    refine z_pf (by rfl) pf16_50 (fun h => nomatch h) ?_
    show TZ (d + 1) 39 16 [some (.inr 50), some (.inr k), some (.inl x2), some (.inl ((Z k 6) - 1))] [] (zup Z 50 6 0) _
    rw [← eZ35]
    refine z0 (op := 3) (a := 2) (b := 0) (by rfl) (by rfl) (?_ : TZ (d + 1) 39 17 [some (.inr 50), some (.inr k), some (.inl x2), some (.inl ((Z k 6) - 1))] [.inl x2] Z35 (zri Q))
    refine z0 (op := 5) (a := 0) (b := 0) (by rfl) (by rfl) (?_ : TZ (d + 1) 39 18 [some (.inr 50), some (.inr k), some (.inl x2), some (.inl ((Z k 6) - 1))] [.inr 50, .inl x2] Z35 (zri Q))
    refine z_fi (by rfl) fi17_50 (?_ : TZ (d + 1) 39 21 [some (.inr 50), some (.inr k), some (.inl x2), some (.inl ((Z k 6) - 1))] [.inl (Z35 50 3), .inl x2] Z35 (zri Q))
    obtain ⟨c36, c37, v1, v2⟩ := v
    refine z_if2 (a := 2) (t := 49) (by rfl) (by rfl) c36 c37 (fun h38 => ?_) (fun h38 => ?_)
    · have v := v1 h38; clear v1 v2
      show TZ (d + 1) 39 49 [some (.inr 50), some (.inr k), some (.inl x2), some (.inl ((Z k 6) - 1))] [] Z35 (zri Q)
      refine z0 (op := 3) (a := 2) (b := 0) (by rfl) (by rfl) (?_ : TZ (d + 1) 39 50 [some (.inr 50), some (.inr k), some (.inl x2), some (.inl ((Z k 6) - 1))] [.inl x2] Z35 (zri Q))
      refine z0 (op := 5) (a := 0) (b := 0) (by rfl) (by rfl) (?_ : TZ (d + 1) 39 51 [some (.inr 50), some (.inr k), some (.inl x2), some (.inl ((Z k 6) - 1))] [.inr 50, .inl x2] Z35 (zri Q))
      refine z_fi (by rfl) fi17_50 (?_ : TZ (d + 1) 39 54 [some (.inr 50), some (.inr k), some (.inl x2), some (.inl ((Z k 6) - 1))] [.inl (Z35 50 3), .inl x2] Z35 (zri Q))
      obtain ⟨c39, c40, v1, v2⟩ := v
      refine z_if2 (a := 3) (t := 76) (by rfl) (by rfl) c39 c40 (fun h41 => ?_) (fun h41 => ?_)
      · have v := v1 h41; clear v1 v2
        show TZ (d + 1) 39 76 [some (.inr 50), some (.inr k), some (.inl x2), some (.inl ((Z k 6) - 1))] [] Z35 (zri Q)
        refine z0 (op := 0) (a := 0) (b := 0) (by rfl) (by rfl) (?_ : TZ (d + 1) 39 77 [some (.inr 50), some (.inr k), some (.inl x2), some (.inl ((Z k 6) - 1))] [.inl 0] Z35 (zri Q))
        exact z_retb (by rfl) (by rfl) (by decide) v
      · have v := v2 h41; clear v1 v2
        show TZ (d + 1) 39 57 [some (.inr 50), some (.inr k), some (.inl x2), some (.inl ((Z k 6) - 1))] [] Z35 (zri Q)
        refine z0 (op := 5) (a := 0) (b := 0) (by rfl) (by rfl) (?_ : TZ (d + 1) 39 58 [some (.inr 50), some (.inr k), some (.inl x2), some (.inl ((Z k 6) - 1))] [.inr 50] Z35 (zri Q))
        refine z_fi (by rfl) fi16_50 (?_ : TZ (d + 1) 39 61 [some (.inr 50), some (.inr k), some (.inl x2), some (.inl ((Z k 6) - 1))] [.inl (Z35 50 6)] Z35 (zri Q))
        refine z0 (op := 5) (a := 1) (b := 0) (by rfl) (by rfl) (?_ : TZ (d + 1) 39 62 [some (.inr 50), some (.inr k), some (.inl x2), some (.inl ((Z k 6) - 1))] [.inr k, .inl (Z35 50 6)] Z35 (zri Q))
        refine z_fi (by rfl) (fi19_F0 _ hk) (?_ : TZ (d + 1) 39 65 [some (.inr 50), some (.inr k), some (.inl x2), some (.inl ((Z k 6) - 1))] [.inl (Z35 k 5), .inl (Z35 50 6)] Z35 (zri Q))
        refine z0 (op := 0) (a := 0) (b := 4) (by rfl) (by rfl) (?_ : TZ (d + 1) 39 66 [some (.inr 50), some (.inr k), some (.inl x2), some (.inl ((Z k 6) - 1))] [.inl 4, .inl (Z35 k 5), .inl (Z35 50 6)] Z35 (zri Q))
        obtain ⟨c42, v⟩ := v
        refine z_min (by rfl) (by rfl) (Nat.le_of_ble_eq_true rfl) c42 (by decide) (?_ : TZ (d + 1) 39 69 [some (.inr 50), some (.inr k), some (.inl x2), some (.inl ((Z k 6) - 1))] [.inl (min (Z35 k 5) 4), .inl (Z35 50 6)] Z35 (zri Q))
        obtain ⟨c43, c44, v1, v2⟩ := v
        refine z_if2 (a := 3) (t := 76) (by rfl) (by rfl) c43 c44 (fun h45 => ?_) (fun h45 => ?_)
        · have v := v1 h45; clear v1 v2
          show TZ (d + 1) 39 76 [some (.inr 50), some (.inr k), some (.inl x2), some (.inl ((Z k 6) - 1))] [] Z35 (zri Q)
          refine z0 (op := 0) (a := 0) (b := 0) (by rfl) (by rfl) (?_ : TZ (d + 1) 39 77 [some (.inr 50), some (.inr k), some (.inl x2), some (.inl ((Z k 6) - 1))] [.inl 0] Z35 (zri Q))
          exact z_retb (by rfl) (by rfl) (by decide) v
        · have v := v2 h45; clear v1 v2
          show TZ (d + 1) 39 72 [some (.inr 50), some (.inr k), some (.inl x2), some (.inl ((Z k 6) - 1))] [] Z35 (zri Q)
          refine z0 (op := 0) (a := 0) (b := 1) (by rfl) (by rfl) (?_ : TZ (d + 1) 39 73 [some (.inr 50), some (.inr k), some (.inl x2), some (.inl ((Z k 6) - 1))] [.inl 1] Z35 (zri Q))
          refine z_goto (t := 77) (by rfl) (by rfl) (?_ : TZ (d + 1) 39 77 [some (.inr 50), some (.inr k), some (.inl x2), some (.inl ((Z k 6) - 1))] [.inl 1] Z35 (zri Q))
          exact z_retb (by rfl) (by rfl) (by decide) v
    · have v := v2 h38; clear v1 v2
      show TZ (d + 1) 39 24 [some (.inr 50), some (.inr k), some (.inl x2), some (.inl ((Z k 6) - 1))] [] Z35 (zri Q)
      refine z0 (op := 5) (a := 1) (b := 0) (by rfl) (by rfl) (?_ : TZ (d + 1) 39 25 [some (.inr 50), some (.inr k), some (.inl x2), some (.inl ((Z k 6) - 1))] [.inr k] Z35 (zri Q))
      refine z0 (op := 3) (a := 3) (b := 0) (by rfl) (by rfl) (?_ : TZ (d + 1) 39 26 [some (.inr 50), some (.inr k), some (.inl x2), some (.inl ((Z k 6) - 1))] [.inl ((Z k 6) - 1), .inr k] Z35 (zri Q))
      refine z_vi (by rfl) (by rfl) (cl_F0 _ hk) (TI.mono v fun r47 Z46 v => ?_)
      show TZ (d + 1) 39 29 [some (.inr 50), some (.inr k), some (.inl x2), some (.inl ((Z k 6) - 1))] [.inl r47] Z46 (zri Q)
      obtain ⟨c48, v1, v2⟩ := v
      refine z_if0 (a := 0) (t := 49) (by rfl) (by rfl) c48 (fun h49 => ?_) (fun h49 => ?_)
      · have v := v1 h49; clear v1 v2
        show TZ (d + 1) 39 49 [some (.inr 50), some (.inr k), some (.inl x2), some (.inl ((Z k 6) - 1))] [] Z46 (zri Q)
        refine z0 (op := 3) (a := 2) (b := 0) (by rfl) (by rfl) (?_ : TZ (d + 1) 39 50 [some (.inr 50), some (.inr k), some (.inl x2), some (.inl ((Z k 6) - 1))] [.inl x2] Z46 (zri Q))
        refine z0 (op := 5) (a := 0) (b := 0) (by rfl) (by rfl) (?_ : TZ (d + 1) 39 51 [some (.inr 50), some (.inr k), some (.inl x2), some (.inl ((Z k 6) - 1))] [.inr 50, .inl x2] Z46 (zri Q))
        refine z_fi (by rfl) fi17_50 (?_ : TZ (d + 1) 39 54 [some (.inr 50), some (.inr k), some (.inl x2), some (.inl ((Z k 6) - 1))] [.inl (Z46 50 3), .inl x2] Z46 (zri Q))
        obtain ⟨c50, c51, v1, v2⟩ := v
        refine z_if2 (a := 3) (t := 76) (by rfl) (by rfl) c50 c51 (fun h52 => ?_) (fun h52 => ?_)
        · have v := v1 h52; clear v1 v2
          show TZ (d + 1) 39 76 [some (.inr 50), some (.inr k), some (.inl x2), some (.inl ((Z k 6) - 1))] [] Z46 (zri Q)
          refine z0 (op := 0) (a := 0) (b := 0) (by rfl) (by rfl) (?_ : TZ (d + 1) 39 77 [some (.inr 50), some (.inr k), some (.inl x2), some (.inl ((Z k 6) - 1))] [.inl 0] Z46 (zri Q))
          exact z_retb (by rfl) (by rfl) (by decide) v
        · have v := v2 h52; clear v1 v2
          show TZ (d + 1) 39 57 [some (.inr 50), some (.inr k), some (.inl x2), some (.inl ((Z k 6) - 1))] [] Z46 (zri Q)
          refine z0 (op := 5) (a := 0) (b := 0) (by rfl) (by rfl) (?_ : TZ (d + 1) 39 58 [some (.inr 50), some (.inr k), some (.inl x2), some (.inl ((Z k 6) - 1))] [.inr 50] Z46 (zri Q))
          refine z_fi (by rfl) fi16_50 (?_ : TZ (d + 1) 39 61 [some (.inr 50), some (.inr k), some (.inl x2), some (.inl ((Z k 6) - 1))] [.inl (Z46 50 6)] Z46 (zri Q))
          refine z0 (op := 5) (a := 1) (b := 0) (by rfl) (by rfl) (?_ : TZ (d + 1) 39 62 [some (.inr 50), some (.inr k), some (.inl x2), some (.inl ((Z k 6) - 1))] [.inr k, .inl (Z46 50 6)] Z46 (zri Q))
          refine z_fi (by rfl) (fi19_F0 _ hk) (?_ : TZ (d + 1) 39 65 [some (.inr 50), some (.inr k), some (.inl x2), some (.inl ((Z k 6) - 1))] [.inl (Z46 k 5), .inl (Z46 50 6)] Z46 (zri Q))
          refine z0 (op := 0) (a := 0) (b := 4) (by rfl) (by rfl) (?_ : TZ (d + 1) 39 66 [some (.inr 50), some (.inr k), some (.inl x2), some (.inl ((Z k 6) - 1))] [.inl 4, .inl (Z46 k 5), .inl (Z46 50 6)] Z46 (zri Q))
          obtain ⟨c53, v⟩ := v
          refine z_min (by rfl) (by rfl) (Nat.le_of_ble_eq_true rfl) c53 (by decide) (?_ : TZ (d + 1) 39 69 [some (.inr 50), some (.inr k), some (.inl x2), some (.inl ((Z k 6) - 1))] [.inl (min (Z46 k 5) 4), .inl (Z46 50 6)] Z46 (zri Q))
          obtain ⟨c54, c55, v1, v2⟩ := v
          refine z_if2 (a := 3) (t := 76) (by rfl) (by rfl) c54 c55 (fun h56 => ?_) (fun h56 => ?_)
          · have v := v1 h56; clear v1 v2
            show TZ (d + 1) 39 76 [some (.inr 50), some (.inr k), some (.inl x2), some (.inl ((Z k 6) - 1))] [] Z46 (zri Q)
            refine z0 (op := 0) (a := 0) (b := 0) (by rfl) (by rfl) (?_ : TZ (d + 1) 39 77 [some (.inr 50), some (.inr k), some (.inl x2), some (.inl ((Z k 6) - 1))] [.inl 0] Z46 (zri Q))
            exact z_retb (by rfl) (by rfl) (by decide) v
          · have v := v2 h56; clear v1 v2
            show TZ (d + 1) 39 72 [some (.inr 50), some (.inr k), some (.inl x2), some (.inl ((Z k 6) - 1))] [] Z46 (zri Q)
            refine z0 (op := 0) (a := 0) (b := 1) (by rfl) (by rfl) (?_ : TZ (d + 1) 39 73 [some (.inr 50), some (.inr k), some (.inl x2), some (.inl ((Z k 6) - 1))] [.inl 1] Z46 (zri Q))
            refine z_goto (t := 77) (by rfl) (by rfl) (?_ : TZ (d + 1) 39 77 [some (.inr 50), some (.inr k), some (.inl x2), some (.inl ((Z k 6) - 1))] [.inl 1] Z46 (zri Q))
            exact z_retb (by rfl) (by rfl) (by decide) v
      · have v := v2 h49; clear v1 v2
        show TZ (d + 1) 39 32 [some (.inr 50), some (.inr k), some (.inl x2), some (.inl ((Z k 6) - 1))] [] Z46 (zri Q)
        refine z0 (op := 5) (a := 0) (b := 0) (by rfl) (by rfl) (?_ : TZ (d + 1) 39 33 [some (.inr 50), some (.inr k), some (.inl x2), some (.inl ((Z k 6) - 1))] [.inr 50] Z46 (zri Q))
        refine z0 (op := 5) (a := 0) (b := 0) (by rfl) (by rfl) (?_ : TZ (d + 1) 39 34 [some (.inr 50), some (.inr k), some (.inl x2), some (.inl ((Z k 6) - 1))] [.inr 50, .inr 50] Z46 (zri Q))
        refine z_fi (by rfl) fi16_50 (?_ : TZ (d + 1) 39 37 [some (.inr 50), some (.inr k), some (.inl x2), some (.inl ((Z k 6) - 1))] [.inl (Z46 50 6), .inr 50] Z46 (zri Q))
        refine z0 (op := 5) (a := 1) (b := 0) (by rfl) (by rfl) (?_ : TZ (d + 1) 39 38 [some (.inr 50), some (.inr k), some (.inl x2), some (.inl ((Z k 6) - 1))] [.inr k, .inl (Z46 50 6), .inr 50] Z46 (zri Q))
        refine z_fr (by rfl) (fr18_F0 _ hk) (?_ : TZ (d + 1) 39 41 [some (.inr 50), some (.inr k), some (.inl x2), some (.inl ((Z k 6) - 1))] [.inr (k + 4), .inl (Z46 50 6), .inr 50] Z46 (zri Q))
        refine z0 (op := 3) (a := 3) (b := 0) (by rfl) (by rfl) (?_ : TZ (d + 1) 39 42 [some (.inr 50), some (.inr k), some (.inl x2), some (.inl ((Z k 6) - 1))] [.inl ((Z k 6) - 1), .inr (k + 4), .inl (Z46 50 6), .inr 50] Z46 (zri Q))
        obtain ⟨c57, v⟩ := v
        refine z_al (by rfl) (ln_F4 _ hk) c57 (?_ : TZ (d + 1) 39 43 [some (.inr 50), some (.inr k), some (.inl x2), some (.inl ((Z k 6) - 1))] [.inl (Z46 (k + 4) ((Z k 6) - 1)), .inl (Z46 50 6), .inr 50] Z46 (zri Q))
        obtain ⟨c58, c59, v⟩ := v
        refine z_max (by rfl) (by rfl) (Nat.le_of_ble_eq_true rfl) c58 c59 (?_ : TZ (d + 1) 39 46 [some (.inr 50), some (.inr k), some (.inl x2), some (.inl ((Z k 6) - 1))] [.inl (max (Z46 50 6) (Z46 (k + 4) ((Z k 6) - 1))), .inr 50] Z46 (zri Q))
        obtain ⟨Z60, eZ60⟩ : ∃ zz, zz = zup Z46 50 6 (max (Z46 50 6) (Z46 (k + 4) ((Z k 6) - 1))) := ⟨_, rfl⟩
        have v := v Z60 eZ60
        refine z_pf (by rfl) pf16_50 (fun h => nomatch h) ?_
        show TZ (d + 1) 39 49 [some (.inr 50), some (.inr k), some (.inl x2), some (.inl ((Z k 6) - 1))] [] (zup Z46 50 6 (max (Z46 50 6) (Z46 (k + 4) ((Z k 6) - 1)))) _
        rw [← eZ60]
        refine z0 (op := 3) (a := 2) (b := 0) (by rfl) (by rfl) (?_ : TZ (d + 1) 39 50 [some (.inr 50), some (.inr k), some (.inl x2), some (.inl ((Z k 6) - 1))] [.inl x2] Z60 (zri Q))
        refine z0 (op := 5) (a := 0) (b := 0) (by rfl) (by rfl) (?_ : TZ (d + 1) 39 51 [some (.inr 50), some (.inr k), some (.inl x2), some (.inl ((Z k 6) - 1))] [.inr 50, .inl x2] Z60 (zri Q))
        refine z_fi (by rfl) fi17_50 (?_ : TZ (d + 1) 39 54 [some (.inr 50), some (.inr k), some (.inl x2), some (.inl ((Z k 6) - 1))] [.inl (Z60 50 3), .inl x2] Z60 (zri Q))
        obtain ⟨c61, c62, v1, v2⟩ := v
        refine z_if2 (a := 3) (t := 76) (by rfl) (by rfl) c61 c62 (fun h63 => ?_) (fun h63 => ?_)
        · have v := v1 h63; clear v1 v2
          show TZ (d + 1) 39 76 [some (.inr 50), some (.inr k), some (.inl x2), some (.inl ((Z k 6) - 1))] [] Z60 (zri Q)
          refine z0 (op := 0) (a := 0) (b := 0) (by rfl) (by rfl) (?_ : TZ (d + 1) 39 77 [some (.inr 50), some (.inr k), some (.inl x2), some (.inl ((Z k 6) - 1))] [.inl 0] Z60 (zri Q))
          exact z_retb (by rfl) (by rfl) (by decide) v
        · have v := v2 h63; clear v1 v2
          show TZ (d + 1) 39 57 [some (.inr 50), some (.inr k), some (.inl x2), some (.inl ((Z k 6) - 1))] [] Z60 (zri Q)
          refine z0 (op := 5) (a := 0) (b := 0) (by rfl) (by rfl) (?_ : TZ (d + 1) 39 58 [some (.inr 50), some (.inr k), some (.inl x2), some (.inl ((Z k 6) - 1))] [.inr 50] Z60 (zri Q))
          refine z_fi (by rfl) fi16_50 (?_ : TZ (d + 1) 39 61 [some (.inr 50), some (.inr k), some (.inl x2), some (.inl ((Z k 6) - 1))] [.inl (Z60 50 6)] Z60 (zri Q))
          refine z0 (op := 5) (a := 1) (b := 0) (by rfl) (by rfl) (?_ : TZ (d + 1) 39 62 [some (.inr 50), some (.inr k), some (.inl x2), some (.inl ((Z k 6) - 1))] [.inr k, .inl (Z60 50 6)] Z60 (zri Q))
          refine z_fi (by rfl) (fi19_F0 _ hk) (?_ : TZ (d + 1) 39 65 [some (.inr 50), some (.inr k), some (.inl x2), some (.inl ((Z k 6) - 1))] [.inl (Z60 k 5), .inl (Z60 50 6)] Z60 (zri Q))
          refine z0 (op := 0) (a := 0) (b := 4) (by rfl) (by rfl) (?_ : TZ (d + 1) 39 66 [some (.inr 50), some (.inr k), some (.inl x2), some (.inl ((Z k 6) - 1))] [.inl 4, .inl (Z60 k 5), .inl (Z60 50 6)] Z60 (zri Q))
          obtain ⟨c64, v⟩ := v
          refine z_min (by rfl) (by rfl) (Nat.le_of_ble_eq_true rfl) c64 (by decide) (?_ : TZ (d + 1) 39 69 [some (.inr 50), some (.inr k), some (.inl x2), some (.inl ((Z k 6) - 1))] [.inl (min (Z60 k 5) 4), .inl (Z60 50 6)] Z60 (zri Q))
          obtain ⟨c65, c66, v1, v2⟩ := v
          refine z_if2 (a := 3) (t := 76) (by rfl) (by rfl) c65 c66 (fun h67 => ?_) (fun h67 => ?_)
          · have v := v1 h67; clear v1 v2
            show TZ (d + 1) 39 76 [some (.inr 50), some (.inr k), some (.inl x2), some (.inl ((Z k 6) - 1))] [] Z60 (zri Q)
            refine z0 (op := 0) (a := 0) (b := 0) (by rfl) (by rfl) (?_ : TZ (d + 1) 39 77 [some (.inr 50), some (.inr k), some (.inl x2), some (.inl ((Z k 6) - 1))] [.inl 0] Z60 (zri Q))
            exact z_retb (by rfl) (by rfl) (by decide) v
          · have v := v2 h67; clear v1 v2
            show TZ (d + 1) 39 72 [some (.inr 50), some (.inr k), some (.inl x2), some (.inl ((Z k 6) - 1))] [] Z60 (zri Q)
            refine z0 (op := 0) (a := 0) (b := 1) (by rfl) (by rfl) (?_ : TZ (d + 1) 39 73 [some (.inr 50), some (.inr k), some (.inl x2), some (.inl ((Z k 6) - 1))] [.inl 1] Z60 (zri Q))
            refine z_goto (t := 77) (by rfl) (by rfl) (?_ : TZ (d + 1) 39 77 [some (.inr 50), some (.inr k), some (.inl x2), some (.inl ((Z k 6) - 1))] [.inl 1] Z60 (zri Q))
            exact z_retb (by rfl) (by rfl) (by decide) v
theorem w41_0 {d : Nat} {k : Nat} {x2 : Int} {Z : zM} {Q : Int → zM → Prop} (hk : k ∈ zFl)
    (v : zR x2 ∧
      zR (Z 62 4) ∧
      (x2 < (Z 62 4) → ((0 ≤ (Z 62 6) ∧ (Z 62 6) < 8) ∧
          zR (Z (k + 3) (Z 62 6)) ∧
          zR (Z 62 7) ∧
          ((Z (k + 3) (Z 62 6)) ≠ (Z 62 7) → (zR x2 ∧
              zR (Z 62 3) ∧
              ((Z 62 3) ≤ x2 → Q 0 Z) ∧
              (¬ (Z 62 3) ≤ x2 → Q 1 Z))) ∧
          (¬ (Z (k + 3) (Z 62 6)) ≠ (Z 62 7) → TV d 53 [.inr 62, .inl x2, .inl x2] Z (fun Z11 =>
              Q 0 Z11)))) ∧
      (¬ x2 < (Z 62 4) → Q 0 Z)) :
    TZ (d + 1) 41 0 [some (.inr 62), some (.inr k), some (.inl x2)] [] Z (zri Q) := by
  refine z0 (op := 3) (a := 2) (b := 0) (by rfl) (by rfl) (?_ : TZ (d + 1) 41 1 [some (.inr 62), some (.inr k), some (.inl x2)] [.inl x2] Z (zri Q))
  refine z0 (op := 5) (a := 0) (b := 0) (by rfl) (by rfl) (?_ : TZ (d + 1) 41 2 [some (.inr 62), some (.inr k), some (.inl x2)] [.inr 62, .inl x2] Z (zri Q))
  refine z_fi (by rfl) fi20_62 (?_ : TZ (d + 1) 41 5 [some (.inr 62), some (.inr k), some (.inl x2)] [.inl (Z 62 4), .inl x2] Z (zri Q))
  obtain ⟨c1, c2, v1, v2⟩ := v
  refine z_if2 (a := 2) (t := 10) (by rfl) (by rfl) c1 c2 (fun h3 => ?_) (fun h3 => ?_)
  · have v := v1 h3; clear v1 v2
    show TZ (d + 1) 41 10 [some (.inr 62), some (.inr k), some (.inl x2)] [] Z (zri Q)
    refine z0 (op := 5) (a := 1) (b := 0) (by rfl) (by rfl) (?_ : TZ (d + 1) 41 11 [some (.inr 62), some (.inr k), some (.inl x2)] [.inr k] Z (zri Q))
    refine z_fr (by rfl) (fr21_F0 _ hk) (?_ : TZ (d + 1) 41 14 [some (.inr 62), some (.inr k), some (.inl x2)] [.inr (k + 3)] Z (zri Q))
    refine z0 (op := 5) (a := 0) (b := 0) (by rfl) (by rfl) (?_ : TZ (d + 1) 41 15 [some (.inr 62), some (.inr k), some (.inl x2)] [.inr 62, .inr (k + 3)] Z (zri Q))
    refine z_fi (by rfl) fi22_62 (?_ : TZ (d + 1) 41 18 [some (.inr 62), some (.inr k), some (.inl x2)] [.inl (Z 62 6), .inr (k + 3)] Z (zri Q))
    obtain ⟨c4, v⟩ := v
    refine z_al (by rfl) (ln_F3 _ hk) c4 (?_ : TZ (d + 1) 41 19 [some (.inr 62), some (.inr k), some (.inl x2)] [.inl (Z (k + 3) (Z 62 6))] Z (zri Q))
    refine z0 (op := 5) (a := 0) (b := 0) (by rfl) (by rfl) (?_ : TZ (d + 1) 41 20 [some (.inr 62), some (.inr k), some (.inl x2)] [.inr 62, .inl (Z (k + 3) (Z 62 6))] Z (zri Q))
    refine z_fi (by rfl) fi23_62 (?_ : TZ (d + 1) 41 23 [some (.inr 62), some (.inr k), some (.inl x2)] [.inl (Z 62 7), .inl (Z (k + 3) (Z 62 6))] Z (zri Q))
    obtain ⟨c5, c6, v1, v2⟩ := v
    refine z_if2 (a := 1) (t := 34) (by rfl) (by rfl) c5 c6 (fun h7 => ?_) (fun h7 => ?_)
    · have v := v1 h7; clear v1 v2
      show TZ (d + 1) 41 34 [some (.inr 62), some (.inr k), some (.inl x2)] [] Z (zri Q)
      refine z0 (op := 3) (a := 2) (b := 0) (by rfl) (by rfl) (?_ : TZ (d + 1) 41 35 [some (.inr 62), some (.inr k), some (.inl x2)] [.inl x2] Z (zri Q))
      refine z0 (op := 5) (a := 0) (b := 0) (by rfl) (by rfl) (?_ : TZ (d + 1) 41 36 [some (.inr 62), some (.inr k), some (.inl x2)] [.inr 62, .inl x2] Z (zri Q))
      refine z_fi (by rfl) fi24_62 (?_ : TZ (d + 1) 41 39 [some (.inr 62), some (.inr k), some (.inl x2)] [.inl (Z 62 3), .inl x2] Z (zri Q))
      obtain ⟨c8, c9, v1, v2⟩ := v
      refine z_if2 (a := 3) (t := 46) (by rfl) (by rfl) c8 c9 (fun h10 => ?_) (fun h10 => ?_)
      · have v := v1 h10; clear v1 v2
        show TZ (d + 1) 41 46 [some (.inr 62), some (.inr k), some (.inl x2)] [] Z (zri Q)
        refine z0 (op := 0) (a := 0) (b := 0) (by rfl) (by rfl) (?_ : TZ (d + 1) 41 47 [some (.inr 62), some (.inr k), some (.inl x2)] [.inl 0] Z (zri Q))
        exact z_retb (by rfl) (by rfl) (by decide) v
      · have v := v2 h10; clear v1 v2
        show TZ (d + 1) 41 42 [some (.inr 62), some (.inr k), some (.inl x2)] [] Z (zri Q)
        refine z0 (op := 0) (a := 0) (b := 1) (by rfl) (by rfl) (?_ : TZ (d + 1) 41 43 [some (.inr 62), some (.inr k), some (.inl x2)] [.inl 1] Z (zri Q))
        refine z_goto (t := 47) (by rfl) (by rfl) (?_ : TZ (d + 1) 41 47 [some (.inr 62), some (.inr k), some (.inl x2)] [.inl 1] Z (zri Q))
        exact z_retb (by rfl) (by rfl) (by decide) v
    · have v := v2 h7; clear v1 v2
      show TZ (d + 1) 41 26 [some (.inr 62), some (.inr k), some (.inl x2)] [] Z (zri Q)
      refine z0 (op := 5) (a := 0) (b := 0) (by rfl) (by rfl) (?_ : TZ (d + 1) 41 27 [some (.inr 62), some (.inr k), some (.inl x2)] [.inr 62] Z (zri Q))
      refine z0 (op := 3) (a := 2) (b := 0) (by rfl) (by rfl) (?_ : TZ (d + 1) 41 28 [some (.inr 62), some (.inr k), some (.inl x2)] [.inl x2, .inr 62] Z (zri Q))
      refine z0 (op := 3) (a := 2) (b := 0) (by rfl) (by rfl) (?_ : TZ (d + 1) 41 29 [some (.inr 62), some (.inr k), some (.inl x2)] [.inl x2, .inl x2, .inr 62] Z (zri Q))
      refine z_vv (by rfl) (by rfl) cl_62 (TV.mono v fun Z11 v => ?_)
      show TZ (d + 1) 41 32 [some (.inr 62), some (.inr k), some (.inl x2)] [] Z11 (zri Q)
      refine z0 (op := 0) (a := 0) (b := 0) (by rfl) (by rfl) (?_ : TZ (d + 1) 41 33 [some (.inr 62), some (.inr k), some (.inl x2)] [.inl 0] Z11 (zri Q))
      exact z_retb (by rfl) (by rfl) (by decide) v
  · have v := v2 h3; clear v1 v2
    show TZ (d + 1) 41 8 [some (.inr 62), some (.inr k), some (.inl x2)] [] Z (zri Q)
    refine z0 (op := 0) (a := 0) (b := 0) (by rfl) (by rfl) (?_ : TZ (d + 1) 41 9 [some (.inr 62), some (.inr k), some (.inl x2)] [.inl 0] Z (zri Q))
    exact z_retb (by rfl) (by rfl) (by decide) v
theorem w43_0 {d : Nat} {k : Nat} {x2 : Int} {Z : zM} {Q : Int → zM → Prop} (hk : k ∈ zFl)
    (v : zR x2 ∧
      (x2 ≠ 0 → TI d 23 [.inr k] Z (fun r4 Z3 =>
          TI d 52 [.inr 58, .inl x2, .inl r4] Z3 (fun r6 Z5 =>
            zR r6 ∧
              (r6 ≠ 0 → (zR x2 ∧
                  zR (Z5 58 3) ∧
                  (x2 < (Z5 58 3) → (zR x2 ∧
                      zR (Z5 58 3) ∧
                      ((Z5 58 3) ≤ x2 → Q 0 Z5) ∧
                      (¬ (Z5 58 3) ≤ x2 → Q 1 Z5))) ∧
                  (¬ x2 < (Z5 58 3) → TV d 44 [.inr 58, .inl x2] Z5 (fun Z15 =>
                      zR x2 ∧
                        zR (Z15 58 3) ∧
                        ((Z15 58 3) ≤ x2 → Q 0 Z15) ∧
                        (¬ (Z15 58 3) ≤ x2 → Q 1 Z15))))) ∧
              (¬ r6 ≠ 0 → Q 0 Z5)))) ∧
      (¬ x2 ≠ 0 → ∀ Z19, Z19 = zup Z 58 6 0 →
          ∀ Z20, Z20 = zup Z19 58 7 0 →
          TI d 23 [.inr k] Z20 (fun r22 Z21 =>
          TI d 52 [.inr 58, .inl x2, .inl r22] Z21 (fun r24 Z23 =>
            zR r24 ∧
              (r24 ≠ 0 → (zR x2 ∧
                  zR (Z23 58 3) ∧
                  (x2 < (Z23 58 3) → (zR x2 ∧
                      zR (Z23 58 3) ∧
                      ((Z23 58 3) ≤ x2 → Q 0 Z23) ∧
                      (¬ (Z23 58 3) ≤ x2 → Q 1 Z23))) ∧
                  (¬ x2 < (Z23 58 3) → TV d 44 [.inr 58, .inl x2] Z23 (fun Z33 =>
                      zR x2 ∧
                        zR (Z33 58 3) ∧
                        ((Z33 58 3) ≤ x2 → Q 0 Z33) ∧
                        (¬ (Z33 58 3) ≤ x2 → Q 1 Z33))))) ∧
              (¬ r24 ≠ 0 → Q 0 Z23))))) :
    TZ (d + 1) 43 0 [some (.inr 58), some (.inr k), some (.inl x2)] [] Z (zri Q) := by
  refine z0 (op := 3) (a := 2) (b := 0) (by rfl) (by rfl) (?_ : TZ (d + 1) 43 1 [some (.inr 58), some (.inr k), some (.inl x2)] [.inl x2] Z (zri Q))
  obtain ⟨c1, v1, v2⟩ := v
  refine z_if0 (a := 1) (t := 14) (by rfl) (by rfl) c1 (fun h2 => ?_) (fun h2 => ?_)
  · have v := v1 h2; clear v1 v2
    show TZ (d + 1) 43 14 [some (.inr 58), some (.inr k), some (.inl x2)] [] Z (zri Q)
    refine z0 (op := 5) (a := 0) (b := 0) (by rfl) (by rfl) (?_ : TZ (d + 1) 43 15 [some (.inr 58), some (.inr k), some (.inl x2)] [.inr 58] Z (zri Q))
    refine z0 (op := 3) (a := 2) (b := 0) (by rfl) (by rfl) (?_ : TZ (d + 1) 43 16 [some (.inr 58), some (.inr k), some (.inl x2)] [.inl x2, .inr 58] Z (zri Q))
    refine z0 (op := 5) (a := 1) (b := 0) (by rfl) (by rfl) (?_ : TZ (d + 1) 43 17 [some (.inr 58), some (.inr k), some (.inl x2)] [.inr k, .inl x2, .inr 58] Z (zri Q))
    refine z_vi (by rfl) (by rfl) (cl_F0 _ hk) (TI.mono v fun r4 Z3 v => ?_)
    show TZ (d + 1) 43 20 [some (.inr 58), some (.inr k), some (.inl x2)] [.inl r4, .inl x2, .inr 58] Z3 (zri Q)
    refine z_vi (by rfl) (by rfl) cl_58 (TI.mono v fun r6 Z5 v => ?_)
    show TZ (d + 1) 43 23 [some (.inr 58), some (.inr k), some (.inl x2)] [.inl r6] Z5 (zri Q)
    obtain ⟨c7, v1, v2⟩ := v
    refine z_if0 (a := 1) (t := 28) (by rfl) (by rfl) c7 (fun h8 => ?_) (fun h8 => ?_)
    · have v := v1 h8; clear v1 v2
      show TZ (d + 1) 43 28 [some (.inr 58), some (.inr k), some (.inl x2)] [] Z5 (zri Q)
      refine z0 (op := 3) (a := 2) (b := 0) (by rfl) (by rfl) (?_ : TZ (d + 1) 43 29 [some (.inr 58), some (.inr k), some (.inl x2)] [.inl x2] Z5 (zri Q))
      refine z0 (op := 5) (a := 0) (b := 0) (by rfl) (by rfl) (?_ : TZ (d + 1) 43 30 [some (.inr 58), some (.inr k), some (.inl x2)] [.inr 58, .inl x2] Z5 (zri Q))
      refine z_fi (by rfl) fi27_58 (?_ : TZ (d + 1) 43 33 [some (.inr 58), some (.inr k), some (.inl x2)] [.inl (Z5 58 3), .inl x2] Z5 (zri Q))
      obtain ⟨c9, c10, v1, v2⟩ := v
      refine z_if2 (a := 2) (t := 41) (by rfl) (by rfl) c9 c10 (fun h11 => ?_) (fun h11 => ?_)
      · have v := v1 h11; clear v1 v2
        show TZ (d + 1) 43 41 [some (.inr 58), some (.inr k), some (.inl x2)] [] Z5 (zri Q)
        refine z0 (op := 3) (a := 2) (b := 0) (by rfl) (by rfl) (?_ : TZ (d + 1) 43 42 [some (.inr 58), some (.inr k), some (.inl x2)] [.inl x2] Z5 (zri Q))
        refine z0 (op := 5) (a := 0) (b := 0) (by rfl) (by rfl) (?_ : TZ (d + 1) 43 43 [some (.inr 58), some (.inr k), some (.inl x2)] [.inr 58, .inl x2] Z5 (zri Q))
        refine z_fi (by rfl) fi27_58 (?_ : TZ (d + 1) 43 46 [some (.inr 58), some (.inr k), some (.inl x2)] [.inl (Z5 58 3), .inl x2] Z5 (zri Q))
        obtain ⟨c12, c13, v1, v2⟩ := v
        refine z_if2 (a := 3) (t := 53) (by rfl) (by rfl) c12 c13 (fun h14 => ?_) (fun h14 => ?_)
        · have v := v1 h14; clear v1 v2
          show TZ (d + 1) 43 53 [some (.inr 58), some (.inr k), some (.inl x2)] [] Z5 (zri Q)
          refine z0 (op := 0) (a := 0) (b := 0) (by rfl) (by rfl) (?_ : TZ (d + 1) 43 54 [some (.inr 58), some (.inr k), some (.inl x2)] [.inl 0] Z5 (zri Q))
          exact z_retb (by rfl) (by rfl) (by decide) v
        · have v := v2 h14; clear v1 v2
          show TZ (d + 1) 43 49 [some (.inr 58), some (.inr k), some (.inl x2)] [] Z5 (zri Q)
          refine z0 (op := 0) (a := 0) (b := 1) (by rfl) (by rfl) (?_ : TZ (d + 1) 43 50 [some (.inr 58), some (.inr k), some (.inl x2)] [.inl 1] Z5 (zri Q))
          refine z_goto (t := 54) (by rfl) (by rfl) (?_ : TZ (d + 1) 43 54 [some (.inr 58), some (.inr k), some (.inl x2)] [.inl 1] Z5 (zri Q))
          exact z_retb (by rfl) (by rfl) (by decide) v
      · have v := v2 h11; clear v1 v2
        show TZ (d + 1) 43 36 [some (.inr 58), some (.inr k), some (.inl x2)] [] Z5 (zri Q)
        refine z0 (op := 5) (a := 0) (b := 0) (by rfl) (by rfl) (?_ : TZ (d + 1) 43 37 [some (.inr 58), some (.inr k), some (.inl x2)] [.inr 58] Z5 (zri Q))
        refine z0 (op := 3) (a := 2) (b := 0) (by rfl) (by rfl) (?_ : TZ (d + 1) 43 38 [some (.inr 58), some (.inr k), some (.inl x2)] [.inl x2, .inr 58] Z5 (zri Q))
        refine z_vv (by rfl) (by rfl) cl_58 (TV.mono v fun Z15 v => ?_)
        show TZ (d + 1) 43 41 [some (.inr 58), some (.inr k), some (.inl x2)] [] Z15 (zri Q)
        refine z0 (op := 3) (a := 2) (b := 0) (by rfl) (by rfl) (?_ : TZ (d + 1) 43 42 [some (.inr 58), some (.inr k), some (.inl x2)] [.inl x2] Z15 (zri Q))
        refine z0 (op := 5) (a := 0) (b := 0) (by rfl) (by rfl) (?_ : TZ (d + 1) 43 43 [some (.inr 58), some (.inr k), some (.inl x2)] [.inr 58, .inl x2] Z15 (zri Q))
        refine z_fi (by rfl) fi27_58 (?_ : TZ (d + 1) 43 46 [some (.inr 58), some (.inr k), some (.inl x2)] [.inl (Z15 58 3), .inl x2] Z15 (zri Q))
        obtain ⟨c16, c17, v1, v2⟩ := v
        refine z_if2 (a := 3) (t := 53) (by rfl) (by rfl) c16 c17 (fun h18 => ?_) (fun h18 => ?_)
        · have v := v1 h18; clear v1 v2
          show TZ (d + 1) 43 53 [some (.inr 58), some (.inr k), some (.inl x2)] [] Z15 (zri Q)
          refine z0 (op := 0) (a := 0) (b := 0) (by rfl) (by rfl) (?_ : TZ (d + 1) 43 54 [some (.inr 58), some (.inr k), some (.inl x2)] [.inl 0] Z15 (zri Q))
          exact z_retb (by rfl) (by rfl) (by decide) v
        · have v := v2 h18; clear v1 v2
          show TZ (d + 1) 43 49 [some (.inr 58), some (.inr k), some (.inl x2)] [] Z15 (zri Q)
          refine z0 (op := 0) (a := 0) (b := 1) (by rfl) (by rfl) (?_ : TZ (d + 1) 43 50 [some (.inr 58), some (.inr k), some (.inl x2)] [.inl 1] Z15 (zri Q))
          refine z_goto (t := 54) (by rfl) (by rfl) (?_ : TZ (d + 1) 43 54 [some (.inr 58), some (.inr k), some (.inl x2)] [.inl 1] Z15 (zri Q))
          exact z_retb (by rfl) (by rfl) (by decide) v
    · have v := v2 h8; clear v1 v2
      show TZ (d + 1) 43 26 [some (.inr 58), some (.inr k), some (.inl x2)] [] Z5 (zri Q)
      refine z0 (op := 0) (a := 0) (b := 0) (by rfl) (by rfl) (?_ : TZ (d + 1) 43 27 [some (.inr 58), some (.inr k), some (.inl x2)] [.inl 0] Z5 (zri Q))
      exact z_retb (by rfl) (by rfl) (by decide) v
  · have v := v2 h2; clear v1 v2
    show TZ (d + 1) 43 4 [some (.inr 58), some (.inr k), some (.inl x2)] [] Z (zri Q)
    refine z0 (op := 5) (a := 0) (b := 0) (by rfl) (by rfl) (?_ : TZ (d + 1) 43 5 [some (.inr 58), some (.inr k), some (.inl x2)] [.inr 58] Z (zri Q))
    refine z0 (op := 0) (a := 0) (b := 0) (by rfl) (by rfl) (?_ : TZ (d + 1) 43 6 [some (.inr 58), some (.inr k), some (.inl x2)] [.inl 0, .inr 58] Z (zri Q))
    obtain ⟨Z19, eZ19⟩ : ∃ zz, zz = zup Z 58 6 0 := ⟨_, rfl⟩
    have v := v Z19 eZ19
    refine z_pf (by rfl) pf25_58 (fun h => nomatch h) ?_
    show TZ (d + 1) 43 9 [some (.inr 58), some (.inr k), some (.inl x2)] [] (zup Z 58 6 0) _
    rw [← eZ19]
    refine z0 (op := 5) (a := 0) (b := 0) (by rfl) (by rfl) (?_ : TZ (d + 1) 43 10 [some (.inr 58), some (.inr k), some (.inl x2)] [.inr 58] Z19 (zri Q))
    refine z0 (op := 0) (a := 0) (b := 0) (by rfl) (by rfl) (?_ : TZ (d + 1) 43 11 [some (.inr 58), some (.inr k), some (.inl x2)] [.inl 0, .inr 58] Z19 (zri Q))
    obtain ⟨Z20, eZ20⟩ : ∃ zz, zz = zup Z19 58 7 0 := ⟨_, rfl⟩
    have v := v Z20 eZ20
    refine z_pf (by rfl) pf26_58 (fun h => nomatch h) ?_
    show TZ (d + 1) 43 14 [some (.inr 58), some (.inr k), some (.inl x2)] [] (zup Z19 58 7 0) _
    rw [← eZ20]
    refine z0 (op := 5) (a := 0) (b := 0) (by rfl) (by rfl) (?_ : TZ (d + 1) 43 15 [some (.inr 58), some (.inr k), some (.inl x2)] [.inr 58] Z20 (zri Q))
    refine z0 (op := 3) (a := 2) (b := 0) (by rfl) (by rfl) (?_ : TZ (d + 1) 43 16 [some (.inr 58), some (.inr k), some (.inl x2)] [.inl x2, .inr 58] Z20 (zri Q))
    refine z0 (op := 5) (a := 1) (b := 0) (by rfl) (by rfl) (?_ : TZ (d + 1) 43 17 [some (.inr 58), some (.inr k), some (.inl x2)] [.inr k, .inl x2, .inr 58] Z20 (zri Q))
    refine z_vi (by rfl) (by rfl) (cl_F0 _ hk) (TI.mono v fun r22 Z21 v => ?_)
    show TZ (d + 1) 43 20 [some (.inr 58), some (.inr k), some (.inl x2)] [.inl r22, .inl x2, .inr 58] Z21 (zri Q)
    refine z_vi (by rfl) (by rfl) cl_58 (TI.mono v fun r24 Z23 v => ?_)
    show TZ (d + 1) 43 23 [some (.inr 58), some (.inr k), some (.inl x2)] [.inl r24] Z23 (zri Q)
    obtain ⟨c25, v1, v2⟩ := v
    refine z_if0 (a := 1) (t := 28) (by rfl) (by rfl) c25 (fun h26 => ?_) (fun h26 => ?_)
    · have v := v1 h26; clear v1 v2
      show TZ (d + 1) 43 28 [some (.inr 58), some (.inr k), some (.inl x2)] [] Z23 (zri Q)
      refine z0 (op := 3) (a := 2) (b := 0) (by rfl) (by rfl) (?_ : TZ (d + 1) 43 29 [some (.inr 58), some (.inr k), some (.inl x2)] [.inl x2] Z23 (zri Q))
      refine z0 (op := 5) (a := 0) (b := 0) (by rfl) (by rfl) (?_ : TZ (d + 1) 43 30 [some (.inr 58), some (.inr k), some (.inl x2)] [.inr 58, .inl x2] Z23 (zri Q))
      refine z_fi (by rfl) fi27_58 (?_ : TZ (d + 1) 43 33 [some (.inr 58), some (.inr k), some (.inl x2)] [.inl (Z23 58 3), .inl x2] Z23 (zri Q))
      obtain ⟨c27, c28, v1, v2⟩ := v
      refine z_if2 (a := 2) (t := 41) (by rfl) (by rfl) c27 c28 (fun h29 => ?_) (fun h29 => ?_)
      · have v := v1 h29; clear v1 v2
        show TZ (d + 1) 43 41 [some (.inr 58), some (.inr k), some (.inl x2)] [] Z23 (zri Q)
        refine z0 (op := 3) (a := 2) (b := 0) (by rfl) (by rfl) (?_ : TZ (d + 1) 43 42 [some (.inr 58), some (.inr k), some (.inl x2)] [.inl x2] Z23 (zri Q))
        refine z0 (op := 5) (a := 0) (b := 0) (by rfl) (by rfl) (?_ : TZ (d + 1) 43 43 [some (.inr 58), some (.inr k), some (.inl x2)] [.inr 58, .inl x2] Z23 (zri Q))
        refine z_fi (by rfl) fi27_58 (?_ : TZ (d + 1) 43 46 [some (.inr 58), some (.inr k), some (.inl x2)] [.inl (Z23 58 3), .inl x2] Z23 (zri Q))
        obtain ⟨c30, c31, v1, v2⟩ := v
        refine z_if2 (a := 3) (t := 53) (by rfl) (by rfl) c30 c31 (fun h32 => ?_) (fun h32 => ?_)
        · have v := v1 h32; clear v1 v2
          show TZ (d + 1) 43 53 [some (.inr 58), some (.inr k), some (.inl x2)] [] Z23 (zri Q)
          refine z0 (op := 0) (a := 0) (b := 0) (by rfl) (by rfl) (?_ : TZ (d + 1) 43 54 [some (.inr 58), some (.inr k), some (.inl x2)] [.inl 0] Z23 (zri Q))
          exact z_retb (by rfl) (by rfl) (by decide) v
        · have v := v2 h32; clear v1 v2
          show TZ (d + 1) 43 49 [some (.inr 58), some (.inr k), some (.inl x2)] [] Z23 (zri Q)
          refine z0 (op := 0) (a := 0) (b := 1) (by rfl) (by rfl) (?_ : TZ (d + 1) 43 50 [some (.inr 58), some (.inr k), some (.inl x2)] [.inl 1] Z23 (zri Q))
          refine z_goto (t := 54) (by rfl) (by rfl) (?_ : TZ (d + 1) 43 54 [some (.inr 58), some (.inr k), some (.inl x2)] [.inl 1] Z23 (zri Q))
          exact z_retb (by rfl) (by rfl) (by decide) v
      · have v := v2 h29; clear v1 v2
        show TZ (d + 1) 43 36 [some (.inr 58), some (.inr k), some (.inl x2)] [] Z23 (zri Q)
        refine z0 (op := 5) (a := 0) (b := 0) (by rfl) (by rfl) (?_ : TZ (d + 1) 43 37 [some (.inr 58), some (.inr k), some (.inl x2)] [.inr 58] Z23 (zri Q))
        refine z0 (op := 3) (a := 2) (b := 0) (by rfl) (by rfl) (?_ : TZ (d + 1) 43 38 [some (.inr 58), some (.inr k), some (.inl x2)] [.inl x2, .inr 58] Z23 (zri Q))
        refine z_vv (by rfl) (by rfl) cl_58 (TV.mono v fun Z33 v => ?_)
        show TZ (d + 1) 43 41 [some (.inr 58), some (.inr k), some (.inl x2)] [] Z33 (zri Q)
        refine z0 (op := 3) (a := 2) (b := 0) (by rfl) (by rfl) (?_ : TZ (d + 1) 43 42 [some (.inr 58), some (.inr k), some (.inl x2)] [.inl x2] Z33 (zri Q))
        refine z0 (op := 5) (a := 0) (b := 0) (by rfl) (by rfl) (?_ : TZ (d + 1) 43 43 [some (.inr 58), some (.inr k), some (.inl x2)] [.inr 58, .inl x2] Z33 (zri Q))
        refine z_fi (by rfl) fi27_58 (?_ : TZ (d + 1) 43 46 [some (.inr 58), some (.inr k), some (.inl x2)] [.inl (Z33 58 3), .inl x2] Z33 (zri Q))
        obtain ⟨c34, c35, v1, v2⟩ := v
        refine z_if2 (a := 3) (t := 53) (by rfl) (by rfl) c34 c35 (fun h36 => ?_) (fun h36 => ?_)
        · have v := v1 h36; clear v1 v2
          show TZ (d + 1) 43 53 [some (.inr 58), some (.inr k), some (.inl x2)] [] Z33 (zri Q)
          refine z0 (op := 0) (a := 0) (b := 0) (by rfl) (by rfl) (?_ : TZ (d + 1) 43 54 [some (.inr 58), some (.inr k), some (.inl x2)] [.inl 0] Z33 (zri Q))
          exact z_retb (by rfl) (by rfl) (by decide) v
        · have v := v2 h36; clear v1 v2
          show TZ (d + 1) 43 49 [some (.inr 58), some (.inr k), some (.inl x2)] [] Z33 (zri Q)
          refine z0 (op := 0) (a := 0) (b := 1) (by rfl) (by rfl) (?_ : TZ (d + 1) 43 50 [some (.inr 58), some (.inr k), some (.inl x2)] [.inl 1] Z33 (zri Q))
          refine z_goto (t := 54) (by rfl) (by rfl) (?_ : TZ (d + 1) 43 54 [some (.inr 58), some (.inr k), some (.inl x2)] [.inl 1] Z33 (zri Q))
          exact z_retb (by rfl) (by rfl) (by decide) v
    · have v := v2 h26; clear v1 v2
      show TZ (d + 1) 43 26 [some (.inr 58), some (.inr k), some (.inl x2)] [] Z23 (zri Q)
      refine z0 (op := 0) (a := 0) (b := 0) (by rfl) (by rfl) (?_ : TZ (d + 1) 43 27 [some (.inr 58), some (.inr k), some (.inl x2)] [.inl 0] Z23 (zri Q))
      exact z_retb (by rfl) (by rfl) (by decide) v
theorem w44_0 {d : Nat} {x1 : Int} {Z : zM} {Q : zM → Prop}
    (v : ∀ Z1, Z1 = zup Z 58 6 ((Z 58 6) + 1) →
      TI d 54 [.inr 58, .inl x1] Z1 (fun r3 Z2 =>
      zR (Z1 58 4) ∧
        zR r3 ∧
        ∀ Z6, Z6 = zup Z2 58 4 (min (Z1 58 4) r3) →
        TZ (d + 1) 44 28 [some (.inr 58), some (.inl x1), some (.inl 0)] [] Z6 (zrv Q))) :
    TZ (d + 1) 44 0 [some (.inr 58), some (.inl x1), none] [] Z (zrv Q) := by
  refine z0 (op := 5) (a := 0) (b := 0) (by rfl) (by rfl) (?_ : TZ (d + 1) 44 1 [some (.inr 58), some (.inl x1), none] [.inr 58] Z (zrv Q))
  refine z0 (op := 15) (a := 0) (b := 0) (by rfl) (by rfl) (?_ : TZ (d + 1) 44 2 [some (.inr 58), some (.inl x1), none] [.inr 58, .inr 58] Z (zrv Q))
  refine z_fi (by rfl) fi25_58 (?_ : TZ (d + 1) 44 5 [some (.inr 58), some (.inl x1), none] [.inl (Z 58 6), .inr 58] Z (zrv Q))
  refine z0 (op := 0) (a := 0) (b := 1) (by rfl) (by rfl) (?_ : TZ (d + 1) 44 6 [some (.inr 58), some (.inl x1), none] [.inl 1, .inl (Z 58 6), .inr 58] Z (zrv Q))
  refine z0 (op := 12) (a := 0) (b := 0) (by rfl) (by rfl) (?_ : TZ (d + 1) 44 7 [some (.inr 58), some (.inl x1), none] [.inl ((Z 58 6) + 1), .inr 58] Z (zrv Q))
  obtain ⟨Z1, eZ1⟩ : ∃ zz, zz = zup Z 58 6 ((Z 58 6) + 1) := ⟨_, rfl⟩
  have v := v Z1 eZ1
  refine z_pf (by rfl) pf25_58 (fun h => nomatch h) ?_
  show TZ (d + 1) 44 10 [some (.inr 58), some (.inl x1), none] [] (zup Z 58 6 ((Z 58 6) + 1)) _
  rw [← eZ1]
  refine z0 (op := 5) (a := 0) (b := 0) (by rfl) (by rfl) (?_ : TZ (d + 1) 44 11 [some (.inr 58), some (.inl x1), none] [.inr 58] Z1 (zrv Q))
  refine z0 (op := 5) (a := 0) (b := 0) (by rfl) (by rfl) (?_ : TZ (d + 1) 44 12 [some (.inr 58), some (.inl x1), none] [.inr 58, .inr 58] Z1 (zrv Q))
  refine z_fi (by rfl) fi28_58 (?_ : TZ (d + 1) 44 15 [some (.inr 58), some (.inl x1), none] [.inl (Z1 58 4), .inr 58] Z1 (zrv Q))
  refine z0 (op := 5) (a := 0) (b := 0) (by rfl) (by rfl) (?_ : TZ (d + 1) 44 16 [some (.inr 58), some (.inl x1), none] [.inr 58, .inl (Z1 58 4), .inr 58] Z1 (zrv Q))
  refine z0 (op := 3) (a := 1) (b := 0) (by rfl) (by rfl) (?_ : TZ (d + 1) 44 17 [some (.inr 58), some (.inl x1), none] [.inl x1, .inr 58, .inl (Z1 58 4), .inr 58] Z1 (zrv Q))
  refine z_vi (by rfl) (by rfl) cl_58 (TI.mono v fun r3 Z2 v => ?_)
  show TZ (d + 1) 44 20 [some (.inr 58), some (.inl x1), none] [.inl r3, .inl (Z1 58 4), .inr 58] Z2 (zrv Q)
  obtain ⟨c4, c5, v⟩ := v
  refine z_min (by rfl) (by rfl) (Nat.le_of_ble_eq_true rfl) c4 c5 (?_ : TZ (d + 1) 44 23 [some (.inr 58), some (.inl x1), none] [.inl (min (Z1 58 4) r3), .inr 58] Z2 (zrv Q))
  obtain ⟨Z6, eZ6⟩ : ∃ zz, zz = zup Z2 58 4 (min (Z1 58 4) r3) := ⟨_, rfl⟩
  have v := v Z6 eZ6
  refine z_pf (by rfl) pf28_58 (fun h => nomatch h) ?_
  show TZ (d + 1) 44 26 [some (.inr 58), some (.inl x1), none] [] (zup Z2 58 4 (min (Z1 58 4) r3)) _
  rw [← eZ6]
  refine z0 (op := 0) (a := 0) (b := 0) (by rfl) (by rfl) (?_ : TZ (d + 1) 44 27 [some (.inr 58), some (.inl x1), none] [.inl 0] Z6 (zrv Q))
  refine z0 (op := 7) (a := 2) (b := 0) (by rfl) (by rfl) (?_ : TZ (d + 1) 44 28 [some (.inr 58), some (.inl x1), some (.inl 0)] [] Z6 (zrv Q))
  exact v
theorem w44_28 {d : Nat} {x1 x2 : Int} {Z : zM} {Q : zM → Prop}
    (v : zR x2 ∧
      zR x1 ∧
      (x1 ≤ x2 → Q Z) ∧
      (¬ x1 ≤ x2 → (zR x2 ∧
          (4 ≤ x2 → Q Z) ∧
          (¬ 4 ≤ x2 → ((0 ≤ x2 ∧ x2 < 4) ∧
              zR (Z 59 x2) ∧
              ((Z 59 x2) ≤ 0 → TZ d 44 28 [some (.inr 58), some (.inl x1), some (.inl (x2 + 1))] [] Z (zrv Q)) ∧
              (¬ (Z 59 x2) ≤ 0 → ((0 ≤ x2 ∧ x2 < 4) ∧
                  ∀ Z10, Z10 = zup Z 58 7 (zbit 4 (Z 58 7) (zbit 6 1 ((Z 59 x2) - 1))) →
                  TZ d 44 28 [some (.inr 58), some (.inl x1), some (.inl (x2 + 1))] [] Z10 (zrv Q)))))))) :
    TZ d 44 28 [some (.inr 58), some (.inl x1), some (.inl x2)] [] Z (zrv Q) := by
  refine z0 (op := 3) (a := 2) (b := 0) (by rfl) (by rfl) (?_ : TZ d 44 29 [some (.inr 58), some (.inl x1), some (.inl x2)] [.inl x2] Z (zrv Q))
  refine z0 (op := 3) (a := 1) (b := 0) (by rfl) (by rfl) (?_ : TZ d 44 30 [some (.inr 58), some (.inl x1), some (.inl x2)] [.inl x1, .inl x2] Z (zrv Q))
  obtain ⟨c1, c2, v1, v2⟩ := v
  refine z_if2 (a := 3) (t := 72) (by rfl) (by rfl) c1 c2 (fun h3 => ?_) (fun h3 => ?_)
  · have v := v1 h3; clear v1 v2
    show TZ d 44 72 [some (.inr 58), some (.inl x1), some (.inl x2)] [] Z (zrv Q)
    exact z_retv (by rfl) (by rfl) v
  · have v := v2 h3; clear v1 v2
    show TZ d 44 33 [some (.inr 58), some (.inl x1), some (.inl x2)] [] Z (zrv Q)
    refine z0 (op := 3) (a := 2) (b := 0) (by rfl) (by rfl) (?_ : TZ d 44 34 [some (.inr 58), some (.inl x1), some (.inl x2)] [.inl x2] Z (zrv Q))
    refine z0 (op := 0) (a := 0) (b := 4) (by rfl) (by rfl) (?_ : TZ d 44 35 [some (.inr 58), some (.inl x1), some (.inl x2)] [.inl 4, .inl x2] Z (zrv Q))
    obtain ⟨c4, v1, v2⟩ := v
    refine z_if2 (a := 3) (t := 72) (by rfl) (by rfl) c4 (by decide) (fun h5 => ?_) (fun h5 => ?_)
    · have v := v1 h5; clear v1 v2
      show TZ d 44 72 [some (.inr 58), some (.inl x1), some (.inl x2)] [] Z (zrv Q)
      exact z_retv (by rfl) (by rfl) v
    · have v := v2 h5; clear v1 v2
      show TZ d 44 38 [some (.inr 58), some (.inl x1), some (.inl x2)] [] Z (zrv Q)
      refine z0 (op := 5) (a := 0) (b := 0) (by rfl) (by rfl) (?_ : TZ d 44 39 [some (.inr 58), some (.inl x1), some (.inl x2)] [.inr 58] Z (zrv Q))
      refine z_fr (by rfl) fr29_58 (?_ : TZ d 44 42 [some (.inr 58), some (.inl x1), some (.inl x2)] [.inr 59] Z (zrv Q))
      refine z0 (op := 3) (a := 2) (b := 0) (by rfl) (by rfl) (?_ : TZ d 44 43 [some (.inr 58), some (.inl x1), some (.inl x2)] [.inl x2, .inr 59] Z (zrv Q))
      obtain ⟨c6, v⟩ := v
      refine z_al (by rfl) ln_59 c6 (?_ : TZ d 44 44 [some (.inr 58), some (.inl x1), some (.inl x2)] [.inl (Z 59 x2)] Z (zrv Q))
      obtain ⟨c7, v1, v2⟩ := v
      refine z_if0 (a := 5) (t := 66) (by rfl) (by rfl) c7 (fun h8 => ?_) (fun h8 => ?_)
      · have v := v1 h8; clear v1 v2
        show TZ d 44 66 [some (.inr 58), some (.inl x1), some (.inl x2)] [] Z (zrv Q)
        refine z0 (op := 11) (a := 2) (b := 1) (by rfl) (by rfl) (?_ : TZ d 44 69 [some (.inr 58), some (.inl x1), some (.inl (x2 + 1))] [] Z (zrv Q))
        refine z_goto (t := 28) (by rfl) (by rfl) (?_ : TZ d 44 28 [some (.inr 58), some (.inl x1), some (.inl (x2 + 1))] [] Z (zrv Q))
        exact v
      · have v := v2 h8; clear v1 v2
        show TZ d 44 47 [some (.inr 58), some (.inl x1), some (.inl x2)] [] Z (zrv Q)
        refine z0 (op := 5) (a := 0) (b := 0) (by rfl) (by rfl) (?_ : TZ d 44 48 [some (.inr 58), some (.inl x1), some (.inl x2)] [.inr 58] Z (zrv Q))
        refine z0 (op := 15) (a := 0) (b := 0) (by rfl) (by rfl) (?_ : TZ d 44 49 [some (.inr 58), some (.inl x1), some (.inl x2)] [.inr 58, .inr 58] Z (zrv Q))
        refine z_fi (by rfl) fi26_58 (?_ : TZ d 44 52 [some (.inr 58), some (.inl x1), some (.inl x2)] [.inl (Z 58 7), .inr 58] Z (zrv Q))
        refine z0 (op := 0) (a := 0) (b := 1) (by rfl) (by rfl) (?_ : TZ d 44 53 [some (.inr 58), some (.inl x1), some (.inl x2)] [.inl 1, .inl (Z 58 7), .inr 58] Z (zrv Q))
        refine z0 (op := 5) (a := 0) (b := 0) (by rfl) (by rfl) (?_ : TZ d 44 54 [some (.inr 58), some (.inl x1), some (.inl x2)] [.inr 58, .inl 1, .inl (Z 58 7), .inr 58] Z (zrv Q))
        refine z_fr (by rfl) fr29_58 (?_ : TZ d 44 57 [some (.inr 58), some (.inl x1), some (.inl x2)] [.inr 59, .inl 1, .inl (Z 58 7), .inr 58] Z (zrv Q))
        refine z0 (op := 3) (a := 2) (b := 0) (by rfl) (by rfl) (?_ : TZ d 44 58 [some (.inr 58), some (.inl x1), some (.inl x2)] [.inl x2, .inr 59, .inl 1, .inl (Z 58 7), .inr 58] Z (zrv Q))
        obtain ⟨c9, v⟩ := v
        refine z_al (by rfl) ln_59 c9 (?_ : TZ d 44 59 [some (.inr 58), some (.inl x1), some (.inl x2)] [.inl (Z 59 x2), .inl 1, .inl (Z 58 7), .inr 58] Z (zrv Q))
        refine z0 (op := 0) (a := 0) (b := 1) (by rfl) (by rfl) (?_ : TZ d 44 60 [some (.inr 58), some (.inl x1), some (.inl x2)] [.inl 1, .inl (Z 59 x2), .inl 1, .inl (Z 58 7), .inr 58] Z (zrv Q))
        refine z0 (op := 12) (a := 1) (b := 0) (by rfl) (by rfl) (?_ : TZ d 44 61 [some (.inr 58), some (.inl x1), some (.inl x2)] [.inl ((Z 59 x2) - 1), .inl 1, .inl (Z 58 7), .inr 58] Z (zrv Q))
        refine z0 (op := 12) (a := 6) (b := 0) (by rfl) (by rfl) (?_ : TZ d 44 62 [some (.inr 58), some (.inl x1), some (.inl x2)] [.inl (zbit 6 1 ((Z 59 x2) - 1)), .inl (Z 58 7), .inr 58] Z (zrv Q))
        refine z0 (op := 12) (a := 4) (b := 0) (by rfl) (by rfl) (?_ : TZ d 44 63 [some (.inr 58), some (.inl x1), some (.inl x2)] [.inl (zbit 4 (Z 58 7) (zbit 6 1 ((Z 59 x2) - 1))), .inr 58] Z (zrv Q))
        obtain ⟨Z10, eZ10⟩ : ∃ zz, zz = zup Z 58 7 (zbit 4 (Z 58 7) (zbit 6 1 ((Z 59 x2) - 1))) := ⟨_, rfl⟩
        have v := v Z10 eZ10
        refine z_pf (by rfl) pf26_58 (fun h => nomatch h) ?_
        show TZ d 44 66 [some (.inr 58), some (.inl x1), some (.inl x2)] [] (zup Z 58 7 (zbit 4 (Z 58 7) (zbit 6 1 ((Z 59 x2) - 1)))) _
        rw [← eZ10]
        refine z0 (op := 11) (a := 2) (b := 1) (by rfl) (by rfl) (?_ : TZ d 44 69 [some (.inr 58), some (.inl x1), some (.inl (x2 + 1))] [] Z10 (zrv Q))
        refine z_goto (t := 28) (by rfl) (by rfl) (?_ : TZ d 44 28 [some (.inr 58), some (.inl x1), some (.inl (x2 + 1))] [] Z10 (zrv Q))
        exact v
theorem w50_0 {d : Nat} {q : Nat} {x1 : Int} {Z : zM} {Q : zM → Prop} (hq : q ∈ zQu)
    (v : ∀ Z1, Z1 = zup Z q 3 x1 →
      ∀ Z2, Z2 = zup Z1 q 4 1000000 →
      ∀ Z3, Z3 = zup Z2 q 5 0 →
      Q Z3) :
    TZ d 50 0 [some (.inr q), some (.inl x1)] [] Z (zrv Q) := by
  refine z0 (op := 5) (a := 0) (b := 0) (by rfl) (by rfl) (?_ : TZ d 50 1 [some (.inr q), some (.inl x1)] [.inr q] Z (zrv Q))
  refine z0 (op := 3) (a := 1) (b := 0) (by rfl) (by rfl) (?_ : TZ d 50 2 [some (.inr q), some (.inl x1)] [.inl x1, .inr q] Z (zrv Q))
  obtain ⟨Z1, eZ1⟩ : ∃ zz, zz = zup Z q 3 x1 := ⟨_, rfl⟩
  have v := v Z1 eZ1
  refine z_pf (by rfl) (pf40_Q0 _ hq) (fun h => nomatch h) ?_
  show TZ d 50 5 [some (.inr q), some (.inl x1)] [] (zup Z q 3 x1) _
  rw [← eZ1]
  refine z0 (op := 5) (a := 0) (b := 0) (by rfl) (by rfl) (?_ : TZ d 50 6 [some (.inr q), some (.inl x1)] [.inr q] Z1 (zrv Q))
  refine z_con (op := 0) (a := 7) (b := 0) (by rfl) (by rfl) (by decide) (?_ : TZ d 50 8 [some (.inr q), some (.inl x1)] [.inl 1000000, .inr q] Z1 (zrv Q))
  obtain ⟨Z2, eZ2⟩ : ∃ zz, zz = zup Z1 q 4 1000000 := ⟨_, rfl⟩
  have v := v Z2 eZ2
  refine z_pf (by rfl) (pf41_Q0 _ hq) (fun h => nomatch h) ?_
  show TZ d 50 11 [some (.inr q), some (.inl x1)] [] (zup Z1 q 4 1000000) _
  rw [← eZ2]
  refine z0 (op := 5) (a := 0) (b := 0) (by rfl) (by rfl) (?_ : TZ d 50 12 [some (.inr q), some (.inl x1)] [.inr q] Z2 (zrv Q))
  refine z0 (op := 0) (a := 0) (b := 0) (by rfl) (by rfl) (?_ : TZ d 50 13 [some (.inr q), some (.inl x1)] [.inl 0, .inr q] Z2 (zrv Q))
  obtain ⟨Z3, eZ3⟩ : ∃ zz, zz = zup Z2 q 5 0 := ⟨_, rfl⟩
  have v := v Z3 eZ3
  refine z_pf (by rfl) (pf42_Q0 _ hq) (fun h => nomatch h) ?_
  show TZ d 50 16 [some (.inr q), some (.inl x1)] [] (zup Z2 q 5 0) _
  rw [← eZ3]
  exact z_retv (by rfl) (by rfl) v
theorem w51_0 {d : Nat} {q : Nat} {Z : zM} {Q : zM → Prop} (hq : q ∈ zQu)
    (v : ∀ Z1, Z1 = zcpy Z 40 (q + 3) 4 →
      Q Z1) :
    TZ (d + 1) 51 0 [some (.inr q), some (.inr 39)] [] Z (zrv Q) := by
  refine z0 (op := 5) (a := 1) (b := 0) (by rfl) (by rfl) (?_ : TZ (d + 1) 51 1 [some (.inr q), some (.inr 39)] [.inr 39] Z (zrv Q))
  refine z_fr (by rfl) fr43_39 (?_ : TZ (d + 1) 51 4 [some (.inr q), some (.inr 39)] [.inr 40] Z (zrv Q))
  refine z0 (op := 0) (a := 0) (b := 0) (by rfl) (by rfl) (?_ : TZ (d + 1) 51 5 [some (.inr q), some (.inr 39)] [.inl 0, .inr 40] Z (zrv Q))
  refine z0 (op := 5) (a := 0) (b := 0) (by rfl) (by rfl) (?_ : TZ (d + 1) 51 6 [some (.inr q), some (.inr 39)] [.inr q, .inl 0, .inr 40] Z (zrv Q))
  refine z_fr (by rfl) (fr39_Q0 _ hq) (?_ : TZ (d + 1) 51 9 [some (.inr q), some (.inr 39)] [.inr (q + 3), .inl 0, .inr 40] Z (zrv Q))
  refine z0 (op := 0) (a := 0) (b := 0) (by rfl) (by rfl) (?_ : TZ (d + 1) 51 10 [some (.inr q), some (.inr 39)] [.inl 0, .inr (q + 3), .inl 0, .inr 40] Z (zrv Q))
  refine z0 (op := 0) (a := 0) (b := 4) (by rfl) (by rfl) (?_ : TZ (d + 1) 51 11 [some (.inr q), some (.inr 39)] [.inl 4, .inl 0, .inr (q + 3), .inl 0, .inr 40] Z (zrv Q))
  obtain ⟨Z1, eZ1⟩ : ∃ zz, zz = zcpy Z 40 (q + 3) 4 := ⟨_, rfl⟩
  have v := v Z1 eZ1
  refine z_cpy (by rfl) (by rfl) (Nat.le_of_ble_eq_true rfl) ln_40 (ln_Q3 _ hq) (by decide) ?_
  show TZ (d + 1) 51 14 [some (.inr q), some (.inr 39)] [] (zcpy Z 40 (q + 3) 4) _
  rw [← eZ1]
  exact z_retv (by rfl) (by rfl) v
theorem w52_0 {d : Nat} {q : Nat} {x1 x2 : Int} {Z : zM} {Q : Int → zM → Prop} (hq : q ∈ zQu)
    (v : zR x1 ∧
      (x1 < 1 → Q 1 Z) ∧
      (¬ x1 < 1 → (zR x1 ∧
          (4 < x1 → Q 1 Z) ∧
          (¬ 4 < x1 → ((0 ≤ (x1 - 1) ∧ (x1 - 1) < 4) ∧
              zR (Z (q + 3) (x1 - 1)) ∧
              zR x2 ∧
              ((Z (q + 3) (x1 - 1)) ≠ x2 → Q 0 Z) ∧
              (¬ (Z (q + 3) (x1 - 1)) ≠ x2 → Q 1 Z)))))) :
    TZ d 52 0 [some (.inr q), some (.inl x1), some (.inl x2)] [] Z (zri Q) := by
  refine z0 (op := 3) (a := 1) (b := 0) (by rfl) (by rfl) (?_ : TZ d 52 1 [some (.inr q), some (.inl x1), some (.inl x2)] [.inl x1] Z (zri Q))
  refine z0 (op := 0) (a := 0) (b := 1) (by rfl) (by rfl) (?_ : TZ d 52 2 [some (.inr q), some (.inl x1), some (.inl x2)] [.inl 1, .inl x1] Z (zri Q))
  obtain ⟨c1, v1, v2⟩ := v
  refine z_if2 (a := 2) (t := 22) (by rfl) (by rfl) c1 (by decide) (fun h2 => ?_) (fun h2 => ?_)
  · have v := v1 h2; clear v1 v2
    show TZ d 52 22 [some (.inr q), some (.inl x1), some (.inl x2)] [] Z (zri Q)
    refine z0 (op := 0) (a := 0) (b := 1) (by rfl) (by rfl) (?_ : TZ d 52 23 [some (.inr q), some (.inl x1), some (.inl x2)] [.inl 1] Z (zri Q))
    refine z_goto (t := 27) (by rfl) (by rfl) (?_ : TZ d 52 27 [some (.inr q), some (.inl x1), some (.inl x2)] [.inl 1] Z (zri Q))
    exact z_retb (by rfl) (by rfl) (by decide) v
  · have v := v2 h2; clear v1 v2
    show TZ d 52 5 [some (.inr q), some (.inl x1), some (.inl x2)] [] Z (zri Q)
    refine z0 (op := 3) (a := 1) (b := 0) (by rfl) (by rfl) (?_ : TZ d 52 6 [some (.inr q), some (.inl x1), some (.inl x2)] [.inl x1] Z (zri Q))
    refine z0 (op := 0) (a := 0) (b := 4) (by rfl) (by rfl) (?_ : TZ d 52 7 [some (.inr q), some (.inl x1), some (.inl x2)] [.inl 4, .inl x1] Z (zri Q))
    obtain ⟨c3, v1, v2⟩ := v
    refine z_if2 (a := 4) (t := 22) (by rfl) (by rfl) c3 (by decide) (fun h4 => ?_) (fun h4 => ?_)
    · have v := v1 h4; clear v1 v2
      show TZ d 52 22 [some (.inr q), some (.inl x1), some (.inl x2)] [] Z (zri Q)
      refine z0 (op := 0) (a := 0) (b := 1) (by rfl) (by rfl) (?_ : TZ d 52 23 [some (.inr q), some (.inl x1), some (.inl x2)] [.inl 1] Z (zri Q))
      refine z_goto (t := 27) (by rfl) (by rfl) (?_ : TZ d 52 27 [some (.inr q), some (.inl x1), some (.inl x2)] [.inl 1] Z (zri Q))
      exact z_retb (by rfl) (by rfl) (by decide) v
    · have v := v2 h4; clear v1 v2
      show TZ d 52 10 [some (.inr q), some (.inl x1), some (.inl x2)] [] Z (zri Q)
      refine z0 (op := 5) (a := 0) (b := 0) (by rfl) (by rfl) (?_ : TZ d 52 11 [some (.inr q), some (.inl x1), some (.inl x2)] [.inr q] Z (zri Q))
      refine z_fr (by rfl) (fr39_Q0 _ hq) (?_ : TZ d 52 14 [some (.inr q), some (.inl x1), some (.inl x2)] [.inr (q + 3)] Z (zri Q))
      refine z0 (op := 3) (a := 1) (b := 0) (by rfl) (by rfl) (?_ : TZ d 52 15 [some (.inr q), some (.inl x1), some (.inl x2)] [.inl x1, .inr (q + 3)] Z (zri Q))
      refine z0 (op := 0) (a := 0) (b := 1) (by rfl) (by rfl) (?_ : TZ d 52 16 [some (.inr q), some (.inl x1), some (.inl x2)] [.inl 1, .inl x1, .inr (q + 3)] Z (zri Q))
      refine z0 (op := 12) (a := 1) (b := 0) (by rfl) (by rfl) (?_ : TZ d 52 17 [some (.inr q), some (.inl x1), some (.inl x2)] [.inl (x1 - 1), .inr (q + 3)] Z (zri Q))
      obtain ⟨c5, v⟩ := v
      refine z_al (by rfl) (ln_Q3 _ hq) c5 (?_ : TZ d 52 18 [some (.inr q), some (.inl x1), some (.inl x2)] [.inl (Z (q + 3) (x1 - 1))] Z (zri Q))
      refine z0 (op := 3) (a := 2) (b := 0) (by rfl) (by rfl) (?_ : TZ d 52 19 [some (.inr q), some (.inl x1), some (.inl x2)] [.inl x2, .inl (Z (q + 3) (x1 - 1))] Z (zri Q))
      obtain ⟨c6, c7, v1, v2⟩ := v
      refine z_if2 (a := 1) (t := 26) (by rfl) (by rfl) c6 c7 (fun h8 => ?_) (fun h8 => ?_)
      · have v := v1 h8; clear v1 v2
        show TZ d 52 26 [some (.inr q), some (.inl x1), some (.inl x2)] [] Z (zri Q)
        refine z0 (op := 0) (a := 0) (b := 0) (by rfl) (by rfl) (?_ : TZ d 52 27 [some (.inr q), some (.inl x1), some (.inl x2)] [.inl 0] Z (zri Q))
        exact z_retb (by rfl) (by rfl) (by decide) v
      · have v := v2 h8; clear v1 v2
        show TZ d 52 22 [some (.inr q), some (.inl x1), some (.inl x2)] [] Z (zri Q)
        refine z0 (op := 0) (a := 0) (b := 1) (by rfl) (by rfl) (?_ : TZ d 52 23 [some (.inr q), some (.inl x1), some (.inl x2)] [.inl 1] Z (zri Q))
        refine z_goto (t := 27) (by rfl) (by rfl) (?_ : TZ d 52 27 [some (.inr q), some (.inl x1), some (.inl x2)] [.inl 1] Z (zri Q))
        exact z_retb (by rfl) (by rfl) (by decide) v
theorem w53_0 {d : Nat} {q : Nat} {x1 x2 : Int} {Z : zM} {Q : zM → Prop} (hq : q ∈ zQu)
    (v : ∀ Z1, Z1 = zup Z q 4 x1 →
      zR x2 ∧
      ∀ Z3, Z3 = zup Z1 q 5 (min x2 4) →
      (0 ≤ (Z3 q 5) ∧ (Z3 q 5) ≤ 4 ∧ (Z3 q 5) ≤ 4) ∧
      ∀ Z5, Z5 = zcpy Z3 (q + 1) (q + 2) (Z3 q 5) →
      Q Z5) :
    TZ (d + 1) 53 0 [some (.inr q), some (.inl x1), some (.inl x2)] [] Z (zrv Q) := by
  refine z0 (op := 5) (a := 0) (b := 0) (by rfl) (by rfl) (?_ : TZ (d + 1) 53 1 [some (.inr q), some (.inl x1), some (.inl x2)] [.inr q] Z (zrv Q))
  refine z0 (op := 3) (a := 1) (b := 0) (by rfl) (by rfl) (?_ : TZ (d + 1) 53 2 [some (.inr q), some (.inl x1), some (.inl x2)] [.inl x1, .inr q] Z (zrv Q))
  obtain ⟨Z1, eZ1⟩ : ∃ zz, zz = zup Z q 4 x1 := ⟨_, rfl⟩
  have v := v Z1 eZ1
  refine z_pf (by rfl) (pf41_Q0 _ hq) (fun h => nomatch h) ?_
  show TZ (d + 1) 53 5 [some (.inr q), some (.inl x1), some (.inl x2)] [] (zup Z q 4 x1) _
  rw [← eZ1]
  refine z0 (op := 5) (a := 0) (b := 0) (by rfl) (by rfl) (?_ : TZ (d + 1) 53 6 [some (.inr q), some (.inl x1), some (.inl x2)] [.inr q] Z1 (zrv Q))
  refine z0 (op := 3) (a := 2) (b := 0) (by rfl) (by rfl) (?_ : TZ (d + 1) 53 7 [some (.inr q), some (.inl x1), some (.inl x2)] [.inl x2, .inr q] Z1 (zrv Q))
  refine z0 (op := 0) (a := 0) (b := 4) (by rfl) (by rfl) (?_ : TZ (d + 1) 53 8 [some (.inr q), some (.inl x1), some (.inl x2)] [.inl 4, .inl x2, .inr q] Z1 (zrv Q))
  obtain ⟨c2, v⟩ := v
  refine z_min (by rfl) (by rfl) (Nat.le_of_ble_eq_true rfl) c2 (by decide) (?_ : TZ (d + 1) 53 11 [some (.inr q), some (.inl x1), some (.inl x2)] [.inl (min x2 4), .inr q] Z1 (zrv Q))
  obtain ⟨Z3, eZ3⟩ : ∃ zz, zz = zup Z1 q 5 (min x2 4) := ⟨_, rfl⟩
  have v := v Z3 eZ3
  refine z_pf (by rfl) (pf42_Q0 _ hq) (fun h => nomatch h) ?_
  show TZ (d + 1) 53 14 [some (.inr q), some (.inl x1), some (.inl x2)] [] (zup Z1 q 5 (min x2 4)) _
  rw [← eZ3]
  refine z0 (op := 5) (a := 0) (b := 0) (by rfl) (by rfl) (?_ : TZ (d + 1) 53 15 [some (.inr q), some (.inl x1), some (.inl x2)] [.inr q] Z3 (zrv Q))
  refine z_fr (by rfl) (fr37_Q0 _ hq) (?_ : TZ (d + 1) 53 18 [some (.inr q), some (.inl x1), some (.inl x2)] [.inr (q + 1)] Z3 (zrv Q))
  refine z0 (op := 0) (a := 0) (b := 0) (by rfl) (by rfl) (?_ : TZ (d + 1) 53 19 [some (.inr q), some (.inl x1), some (.inl x2)] [.inl 0, .inr (q + 1)] Z3 (zrv Q))
  refine z0 (op := 5) (a := 0) (b := 0) (by rfl) (by rfl) (?_ : TZ (d + 1) 53 20 [some (.inr q), some (.inl x1), some (.inl x2)] [.inr q, .inl 0, .inr (q + 1)] Z3 (zrv Q))
  refine z_fr (by rfl) (fr38_Q0 _ hq) (?_ : TZ (d + 1) 53 23 [some (.inr q), some (.inl x1), some (.inl x2)] [.inr (q + 2), .inl 0, .inr (q + 1)] Z3 (zrv Q))
  refine z0 (op := 0) (a := 0) (b := 0) (by rfl) (by rfl) (?_ : TZ (d + 1) 53 24 [some (.inr q), some (.inl x1), some (.inl x2)] [.inl 0, .inr (q + 2), .inl 0, .inr (q + 1)] Z3 (zrv Q))
  refine z0 (op := 5) (a := 0) (b := 0) (by rfl) (by rfl) (?_ : TZ (d + 1) 53 25 [some (.inr q), some (.inl x1), some (.inl x2)] [.inr q, .inl 0, .inr (q + 2), .inl 0, .inr (q + 1)] Z3 (zrv Q))
  refine z_fi (by rfl) (fi42_Q0 _ hq) (?_ : TZ (d + 1) 53 28 [some (.inr q), some (.inl x1), some (.inl x2)] [.inl (Z3 q 5), .inl 0, .inr (q + 2), .inl 0, .inr (q + 1)] Z3 (zrv Q))
  obtain ⟨c4, v⟩ := v
  obtain ⟨Z5, eZ5⟩ : ∃ zz, zz = zcpy Z3 (q + 1) (q + 2) (Z3 q 5) := ⟨_, rfl⟩
  have v := v Z5 eZ5
  refine z_cpy (by rfl) (by rfl) (Nat.le_of_ble_eq_true rfl) (ln_Q1 _ hq) (ln_Q2 _ hq) c4 ?_
  show TZ (d + 1) 53 31 [some (.inr q), some (.inl x1), some (.inl x2)] [] (zcpy Z3 (q + 1) (q + 2) (Z3 q 5)) _
  rw [← eZ5]
  exact z_retv (by rfl) (by rfl) v
theorem w54_0 {d : Nat} {q : Nat} {x1 : Int} {Z : zM} {Q : Int → zM → Prop} (hq : q ∈ zQu)
    (v : TZ d 54 4 [some (.inr q), some (.inl x1), some (.inl 0), some (.inl 0)] [] Z (zri Q)) :
    TZ d 54 0 [some (.inr q), some (.inl x1), none, none] [] Z (zri Q) := by
  refine z0 (op := 0) (a := 0) (b := 0) (by rfl) (by rfl) (?_ : TZ d 54 1 [some (.inr q), some (.inl x1), none, none] [.inl 0] Z (zri Q))
  refine z0 (op := 7) (a := 2) (b := 0) (by rfl) (by rfl) (?_ : TZ d 54 2 [some (.inr q), some (.inl x1), some (.inl 0), none] [] Z (zri Q))
  refine z0 (op := 0) (a := 0) (b := 0) (by rfl) (by rfl) (?_ : TZ d 54 3 [some (.inr q), some (.inl x1), some (.inl 0), none] [.inl 0] Z (zri Q))
  refine z0 (op := 7) (a := 3) (b := 0) (by rfl) (by rfl) (?_ : TZ d 54 4 [some (.inr q), some (.inl x1), some (.inl 0), some (.inl 0)] [] Z (zri Q))
  exact v
theorem w54_4 {d : Nat} {q : Nat} {x1 x2 x3 : Int} {Z : zM} {Q : Int → zM → Prop} (hq : q ∈ zQu)
    (v : zR x3 ∧
      zR x1 ∧
      (x1 ≤ x3 → Q x2 Z) ∧
      (¬ x1 ≤ x3 → (zR x3 ∧
          (4 ≤ x3 → Q x2 Z) ∧
          (¬ 4 ≤ x3 → ((0 ≤ x3 ∧ x3 < 4) ∧ TZ d 54 4 [some (.inr q), some (.inl x1), some (.inl (x2 + (Z (q + 1) x3))), some (.inl (x3 + 1))] [] Z (zri Q)))))) :
    TZ d 54 4 [some (.inr q), some (.inl x1), some (.inl x2), some (.inl x3)] [] Z (zri Q) := by
  refine z0 (op := 3) (a := 3) (b := 0) (by rfl) (by rfl) (?_ : TZ d 54 5 [some (.inr q), some (.inl x1), some (.inl x2), some (.inl x3)] [.inl x3] Z (zri Q))
  refine z0 (op := 3) (a := 1) (b := 0) (by rfl) (by rfl) (?_ : TZ d 54 6 [some (.inr q), some (.inl x1), some (.inl x2), some (.inl x3)] [.inl x1, .inl x3] Z (zri Q))
  obtain ⟨c1, c2, v1, v2⟩ := v
  refine z_if2 (a := 3) (t := 29) (by rfl) (by rfl) c1 c2 (fun h3 => ?_) (fun h3 => ?_)
  · have v := v1 h3; clear v1 v2
    show TZ d 54 29 [some (.inr q), some (.inl x1), some (.inl x2), some (.inl x3)] [] Z (zri Q)
    refine z0 (op := 3) (a := 2) (b := 0) (by rfl) (by rfl) (?_ : TZ d 54 30 [some (.inr q), some (.inl x1), some (.inl x2), some (.inl x3)] [.inl x2] Z (zri Q))
    exact z_reti (by rfl) (by rfl) v
  · have v := v2 h3; clear v1 v2
    show TZ d 54 9 [some (.inr q), some (.inl x1), some (.inl x2), some (.inl x3)] [] Z (zri Q)
    refine z0 (op := 3) (a := 3) (b := 0) (by rfl) (by rfl) (?_ : TZ d 54 10 [some (.inr q), some (.inl x1), some (.inl x2), some (.inl x3)] [.inl x3] Z (zri Q))
    refine z0 (op := 0) (a := 0) (b := 4) (by rfl) (by rfl) (?_ : TZ d 54 11 [some (.inr q), some (.inl x1), some (.inl x2), some (.inl x3)] [.inl 4, .inl x3] Z (zri Q))
    obtain ⟨c4, v1, v2⟩ := v
    refine z_if2 (a := 3) (t := 29) (by rfl) (by rfl) c4 (by decide) (fun h5 => ?_) (fun h5 => ?_)
    · have v := v1 h5; clear v1 v2
      show TZ d 54 29 [some (.inr q), some (.inl x1), some (.inl x2), some (.inl x3)] [] Z (zri Q)
      refine z0 (op := 3) (a := 2) (b := 0) (by rfl) (by rfl) (?_ : TZ d 54 30 [some (.inr q), some (.inl x1), some (.inl x2), some (.inl x3)] [.inl x2] Z (zri Q))
      exact z_reti (by rfl) (by rfl) v
    · have v := v2 h5; clear v1 v2
      show TZ d 54 14 [some (.inr q), some (.inl x1), some (.inl x2), some (.inl x3)] [] Z (zri Q)
      refine z0 (op := 3) (a := 2) (b := 0) (by rfl) (by rfl) (?_ : TZ d 54 15 [some (.inr q), some (.inl x1), some (.inl x2), some (.inl x3)] [.inl x2] Z (zri Q))
      refine z0 (op := 5) (a := 0) (b := 0) (by rfl) (by rfl) (?_ : TZ d 54 16 [some (.inr q), some (.inl x1), some (.inl x2), some (.inl x3)] [.inr q, .inl x2] Z (zri Q))
      refine z_fr (by rfl) (fr37_Q0 _ hq) (?_ : TZ d 54 19 [some (.inr q), some (.inl x1), some (.inl x2), some (.inl x3)] [.inr (q + 1), .inl x2] Z (zri Q))
      refine z0 (op := 3) (a := 3) (b := 0) (by rfl) (by rfl) (?_ : TZ d 54 20 [some (.inr q), some (.inl x1), some (.inl x2), some (.inl x3)] [.inl x3, .inr (q + 1), .inl x2] Z (zri Q))
      obtain ⟨c6, v⟩ := v
      refine z_al (by rfl) (ln_Q1 _ hq) c6 (?_ : TZ d 54 21 [some (.inr q), some (.inl x1), some (.inl x2), some (.inl x3)] [.inl (Z (q + 1) x3), .inl x2] Z (zri Q))
      refine z0 (op := 12) (a := 0) (b := 0) (by rfl) (by rfl) (?_ : TZ d 54 22 [some (.inr q), some (.inl x1), some (.inl x2), some (.inl x3)] [.inl (x2 + (Z (q + 1) x3))] Z (zri Q))
      refine z0 (op := 7) (a := 2) (b := 0) (by rfl) (by rfl) (?_ : TZ d 54 23 [some (.inr q), some (.inl x1), some (.inl (x2 + (Z (q + 1) x3))), some (.inl x3)] [] Z (zri Q))
      refine z0 (op := 11) (a := 3) (b := 1) (by rfl) (by rfl) (?_ : TZ d 54 26 [some (.inr q), some (.inl x1), some (.inl (x2 + (Z (q + 1) x3))), some (.inl (x3 + 1))] [] Z (zri Q))
      refine z_goto (t := 4) (by rfl) (by rfl) (?_ : TZ d 54 4 [some (.inr q), some (.inl x1), some (.inl (x2 + (Z (q + 1) x3))), some (.inl (x3 + 1))] [] Z (zri Q))
      exact v
theorem w55_0 {d : Nat} {q : Nat} {Z : zM} {Q : Int → zM → Prop} (hq : q ∈ zQu)
    (v : zR (Z q 4) ∧
      (1000000 ≤ (Z q 4) → Q (-9) Z) ∧
      (¬ 1000000 ≤ (Z q 4) → Q (Z q 4) Z)) :
    TZ d 55 0 [some (.inr q)] [] Z (zri Q) := by
  refine z0 (op := 5) (a := 0) (b := 0) (by rfl) (by rfl) (?_ : TZ d 55 1 [some (.inr q)] [.inr q] Z (zri Q))
  refine z_fi (by rfl) (fi41_Q0 _ hq) (?_ : TZ d 55 4 [some (.inr q)] [.inl (Z q 4)] Z (zri Q))
  refine z_con (op := 0) (a := 7) (b := 0) (by rfl) (by rfl) (by decide) (?_ : TZ d 55 6 [some (.inr q)] [.inl 1000000, .inl (Z q 4)] Z (zri Q))
  obtain ⟨c1, v1, v2⟩ := v
  refine z_if2 (a := 3) (t := 16) (by rfl) (by rfl) c1 (by decide) (fun h2 => ?_) (fun h2 => ?_)
  · have v := v1 h2; clear v1 v2
    show TZ d 55 16 [some (.inr q)] [] Z (zri Q)
    refine z0 (op := 1) (a := 0) (b := (-9)) (by rfl) (by rfl) (?_ : TZ d 55 18 [some (.inr q)] [.inl (-9)] Z (zri Q))
    exact z_reti (by rfl) (by rfl) v
  · have v := v2 h2; clear v1 v2
    show TZ d 55 9 [some (.inr q)] [] Z (zri Q)
    refine z0 (op := 5) (a := 0) (b := 0) (by rfl) (by rfl) (?_ : TZ d 55 10 [some (.inr q)] [.inr q] Z (zri Q))
    refine z_fi (by rfl) (fi41_Q0 _ hq) (?_ : TZ d 55 13 [some (.inr q)] [.inl (Z q 4)] Z (zri Q))
    refine z_goto (t := 18) (by rfl) (by rfl) (?_ : TZ d 55 18 [some (.inr q)] [.inl (Z q 4)] Z (zri Q))
    exact z_reti (by rfl) (by rfl) v
theorem w56_0 {d : Nat} {q : Nat} {x1 : Int} {Z : zM} {Q : Int → zM → Prop} (hq : q ∈ zQu)
    (v : zR x1 ∧
      (x1 < 0 → Q (-9) Z) ∧
      (¬ x1 < 0 → (zR x1 ∧
          zR (Z q 5) ∧
          ((Z q 5) ≤ x1 → Q (-9) Z) ∧
          (¬ (Z q 5) ≤ x1 → ((0 ≤ x1 ∧ x1 < 4) ∧ Q (Z (q + 2) x1) Z))))) :
    TZ d 56 0 [some (.inr q), some (.inl x1)] [] Z (zri Q) := by
  refine z0 (op := 3) (a := 1) (b := 0) (by rfl) (by rfl) (?_ : TZ d 56 1 [some (.inr q), some (.inl x1)] [.inl x1] Z (zri Q))
  obtain ⟨c1, v1, v2⟩ := v
  refine z_if0 (a := 2) (t := 21) (by rfl) (by rfl) c1 (fun h2 => ?_) (fun h2 => ?_)
  · have v := v1 h2; clear v1 v2
    show TZ d 56 21 [some (.inr q), some (.inl x1)] [] Z (zri Q)
    refine z0 (op := 1) (a := 0) (b := (-9)) (by rfl) (by rfl) (?_ : TZ d 56 23 [some (.inr q), some (.inl x1)] [.inl (-9)] Z (zri Q))
    exact z_reti (by rfl) (by rfl) v
  · have v := v2 h2; clear v1 v2
    show TZ d 56 4 [some (.inr q), some (.inl x1)] [] Z (zri Q)
    refine z0 (op := 3) (a := 1) (b := 0) (by rfl) (by rfl) (?_ : TZ d 56 5 [some (.inr q), some (.inl x1)] [.inl x1] Z (zri Q))
    refine z0 (op := 5) (a := 0) (b := 0) (by rfl) (by rfl) (?_ : TZ d 56 6 [some (.inr q), some (.inl x1)] [.inr q, .inl x1] Z (zri Q))
    refine z_fi (by rfl) (fi42_Q0 _ hq) (?_ : TZ d 56 9 [some (.inr q), some (.inl x1)] [.inl (Z q 5), .inl x1] Z (zri Q))
    obtain ⟨c3, c4, v1, v2⟩ := v
    refine z_if2 (a := 3) (t := 21) (by rfl) (by rfl) c3 c4 (fun h5 => ?_) (fun h5 => ?_)
    · have v := v1 h5; clear v1 v2
      show TZ d 56 21 [some (.inr q), some (.inl x1)] [] Z (zri Q)
      refine z0 (op := 1) (a := 0) (b := (-9)) (by rfl) (by rfl) (?_ : TZ d 56 23 [some (.inr q), some (.inl x1)] [.inl (-9)] Z (zri Q))
      exact z_reti (by rfl) (by rfl) v
    · have v := v2 h5; clear v1 v2
      show TZ d 56 12 [some (.inr q), some (.inl x1)] [] Z (zri Q)
      refine z0 (op := 5) (a := 0) (b := 0) (by rfl) (by rfl) (?_ : TZ d 56 13 [some (.inr q), some (.inl x1)] [.inr q] Z (zri Q))
      refine z_fr (by rfl) (fr38_Q0 _ hq) (?_ : TZ d 56 16 [some (.inr q), some (.inl x1)] [.inr (q + 2)] Z (zri Q))
      refine z0 (op := 3) (a := 1) (b := 0) (by rfl) (by rfl) (?_ : TZ d 56 17 [some (.inr q), some (.inl x1)] [.inl x1, .inr (q + 2)] Z (zri Q))
      obtain ⟨c6, v⟩ := v
      refine z_al (by rfl) (ln_Q2 _ hq) c6 (?_ : TZ d 56 18 [some (.inr q), some (.inl x1)] [.inl (Z (q + 2) x1)] Z (zri Q))
      refine z_goto (t := 23) (by rfl) (by rfl) (?_ : TZ d 56 23 [some (.inr q), some (.inl x1)] [.inl (Z (q + 2) x1)] Z (zri Q))
      exact z_reti (by rfl) (by rfl) v
theorem w58_0 {d : Nat} {x1 : Int} {Z : zM} {Q : Int → zM → Prop}
    (v : zR (Z 39 3) ∧
      (12 ≤ (Z 39 3) → Q (Z 39 3) Z) ∧
      (¬ 12 ≤ (Z 39 3) → ((0 ≤ (Z 39 3) ∧ (Z 39 3) < 12) ∧
          ∀ Z4, Z4 = zup Z 40 (Z 39 3) x1 →
          ∀ Z5, Z5 = zup Z4 39 3 ((Z4 39 3) + 1) →
          Q (Z5 39 3) Z5))) :
    TZ d 58 0 [some (.inr 39), some (.inl x1)] [] Z (zri Q) := by
  refine z0 (op := 5) (a := 0) (b := 0) (by rfl) (by rfl) (?_ : TZ d 58 1 [some (.inr 39), some (.inl x1)] [.inr 39] Z (zri Q))
  refine z_fi (by rfl) fi47_39 (?_ : TZ d 58 4 [some (.inr 39), some (.inl x1)] [.inl (Z 39 3)] Z (zri Q))
  refine z0 (op := 1) (a := 0) (b := 12) (by rfl) (by rfl) (?_ : TZ d 58 6 [some (.inr 39), some (.inl x1)] [.inl 12, .inl (Z 39 3)] Z (zri Q))
  obtain ⟨c1, v1, v2⟩ := v
  refine z_if2 (a := 3) (t := 29) (by rfl) (by rfl) c1 (by decide) (fun h2 => ?_) (fun h2 => ?_)
  · have v := v1 h2; clear v1 v2
    show TZ d 58 29 [some (.inr 39), some (.inl x1)] [] Z (zri Q)
    refine z0 (op := 5) (a := 0) (b := 0) (by rfl) (by rfl) (?_ : TZ d 58 30 [some (.inr 39), some (.inl x1)] [.inr 39] Z (zri Q))
    refine z_fi (by rfl) fi47_39 (?_ : TZ d 58 33 [some (.inr 39), some (.inl x1)] [.inl (Z 39 3)] Z (zri Q))
    exact z_reti (by rfl) (by rfl) v
  · have v := v2 h2; clear v1 v2
    show TZ d 58 9 [some (.inr 39), some (.inl x1)] [] Z (zri Q)
    refine z0 (op := 5) (a := 0) (b := 0) (by rfl) (by rfl) (?_ : TZ d 58 10 [some (.inr 39), some (.inl x1)] [.inr 39] Z (zri Q))
    refine z_fr (by rfl) fr44_39 (?_ : TZ d 58 13 [some (.inr 39), some (.inl x1)] [.inr 40] Z (zri Q))
    refine z0 (op := 5) (a := 0) (b := 0) (by rfl) (by rfl) (?_ : TZ d 58 14 [some (.inr 39), some (.inl x1)] [.inr 39, .inr 40] Z (zri Q))
    refine z_fi (by rfl) fi47_39 (?_ : TZ d 58 17 [some (.inr 39), some (.inl x1)] [.inl (Z 39 3), .inr 40] Z (zri Q))
    refine z0 (op := 3) (a := 1) (b := 0) (by rfl) (by rfl) (?_ : TZ d 58 18 [some (.inr 39), some (.inl x1)] [.inl x1, .inl (Z 39 3), .inr 40] Z (zri Q))
    obtain ⟨c3, v⟩ := v
    obtain ⟨Z4, eZ4⟩ : ∃ zz, zz = zup Z 40 (Z 39 3) x1 := ⟨_, rfl⟩
    have v := v Z4 eZ4
    refine z_as (by rfl) ln_40 c3 ?_
    show TZ d 58 19 [some (.inr 39), some (.inl x1)] [] (zup Z 40 (Z 39 3) x1) _
    rw [← eZ4]
    refine z0 (op := 5) (a := 0) (b := 0) (by rfl) (by rfl) (?_ : TZ d 58 20 [some (.inr 39), some (.inl x1)] [.inr 39] Z4 (zri Q))
    refine z0 (op := 15) (a := 0) (b := 0) (by rfl) (by rfl) (?_ : TZ d 58 21 [some (.inr 39), some (.inl x1)] [.inr 39, .inr 39] Z4 (zri Q))
    refine z_fi (by rfl) fi47_39 (?_ : TZ d 58 24 [some (.inr 39), some (.inl x1)] [.inl (Z4 39 3), .inr 39] Z4 (zri Q))
    refine z0 (op := 0) (a := 0) (b := 1) (by rfl) (by rfl) (?_ : TZ d 58 25 [some (.inr 39), some (.inl x1)] [.inl 1, .inl (Z4 39 3), .inr 39] Z4 (zri Q))
    refine z0 (op := 12) (a := 0) (b := 0) (by rfl) (by rfl) (?_ : TZ d 58 26 [some (.inr 39), some (.inl x1)] [.inl ((Z4 39 3) + 1), .inr 39] Z4 (zri Q))
    obtain ⟨Z5, eZ5⟩ : ∃ zz, zz = zup Z4 39 3 ((Z4 39 3) + 1) := ⟨_, rfl⟩
    have v := v Z5 eZ5
    refine z_pf (by rfl) pf47_39 (fun h => nomatch h) ?_
    show TZ d 58 29 [some (.inr 39), some (.inl x1)] [] (zup Z4 39 3 ((Z4 39 3) + 1)) _
    rw [← eZ5]
    refine z0 (op := 5) (a := 0) (b := 0) (by rfl) (by rfl) (?_ : TZ d 58 30 [some (.inr 39), some (.inl x1)] [.inr 39] Z5 (zri Q))
    refine z_fi (by rfl) fi47_39 (?_ : TZ d 58 33 [some (.inr 39), some (.inl x1)] [.inl (Z5 39 3)] Z5 (zri Q))
    exact z_reti (by rfl) (by rfl) v
theorem w59_0 {d : Nat} {Z : zM} {Q : Int → zM → Prop}
    (v : TZ d 59 4 [some (.inr 39), some (.inl 0), some (.inl 0)] [] Z (zri Q)) :
    TZ d 59 0 [some (.inr 39), none, none] [] Z (zri Q) := by
  refine z0 (op := 0) (a := 0) (b := 0) (by rfl) (by rfl) (?_ : TZ d 59 1 [some (.inr 39), none, none] [.inl 0] Z (zri Q))
  refine z0 (op := 7) (a := 1) (b := 0) (by rfl) (by rfl) (?_ : TZ d 59 2 [some (.inr 39), some (.inl 0), none] [] Z (zri Q))
  refine z0 (op := 0) (a := 0) (b := 0) (by rfl) (by rfl) (?_ : TZ d 59 3 [some (.inr 39), some (.inl 0), none] [.inl 0] Z (zri Q))
  refine z0 (op := 7) (a := 2) (b := 0) (by rfl) (by rfl) (?_ : TZ d 59 4 [some (.inr 39), some (.inl 0), some (.inl 0)] [] Z (zri Q))
  exact v
theorem w59_4 {d : Nat} {x1 x2 : Int} {Z : zM} {Q : Int → zM → Prop}
    (v : zR x2 ∧
      zR (Z 39 3) ∧
      ((Z 39 3) ≤ x2 → Q x1 Z) ∧
      (¬ (Z 39 3) ≤ x2 → ((0 ≤ x2 ∧ x2 < 12) ∧
          zR x1 ∧
          zR (Z 40 x2) ∧ TZ (d + 1) 59 4 [some (.inr 39), some (.inl (max x1 (Z 40 x2))), some (.inl (x2 + 1))] [] Z (zri Q)))) :
    TZ (d + 1) 59 4 [some (.inr 39), some (.inl x1), some (.inl x2)] [] Z (zri Q) := by
  refine z0 (op := 3) (a := 2) (b := 0) (by rfl) (by rfl) (?_ : TZ (d + 1) 59 5 [some (.inr 39), some (.inl x1), some (.inl x2)] [.inl x2] Z (zri Q))
  refine z0 (op := 5) (a := 0) (b := 0) (by rfl) (by rfl) (?_ : TZ (d + 1) 59 6 [some (.inr 39), some (.inl x1), some (.inl x2)] [.inr 39, .inl x2] Z (zri Q))
  refine z_fi (by rfl) fi47_39 (?_ : TZ (d + 1) 59 9 [some (.inr 39), some (.inl x1), some (.inl x2)] [.inl (Z 39 3), .inl x2] Z (zri Q))
  obtain ⟨c1, c2, v1, v2⟩ := v
  refine z_if2 (a := 3) (t := 29) (by rfl) (by rfl) c1 c2 (fun h3 => ?_) (fun h3 => ?_)
  · have v := v1 h3; clear v1 v2
    show TZ (d + 1) 59 29 [some (.inr 39), some (.inl x1), some (.inl x2)] [] Z (zri Q)
    refine z0 (op := 3) (a := 1) (b := 0) (by rfl) (by rfl) (?_ : TZ (d + 1) 59 30 [some (.inr 39), some (.inl x1), some (.inl x2)] [.inl x1] Z (zri Q))
    exact z_reti (by rfl) (by rfl) v
  · have v := v2 h3; clear v1 v2
    show TZ (d + 1) 59 12 [some (.inr 39), some (.inl x1), some (.inl x2)] [] Z (zri Q)
    refine z0 (op := 3) (a := 1) (b := 0) (by rfl) (by rfl) (?_ : TZ (d + 1) 59 13 [some (.inr 39), some (.inl x1), some (.inl x2)] [.inl x1] Z (zri Q))
    refine z0 (op := 5) (a := 0) (b := 0) (by rfl) (by rfl) (?_ : TZ (d + 1) 59 14 [some (.inr 39), some (.inl x1), some (.inl x2)] [.inr 39, .inl x1] Z (zri Q))
    refine z_fr (by rfl) fr44_39 (?_ : TZ (d + 1) 59 17 [some (.inr 39), some (.inl x1), some (.inl x2)] [.inr 40, .inl x1] Z (zri Q))
    refine z0 (op := 3) (a := 2) (b := 0) (by rfl) (by rfl) (?_ : TZ (d + 1) 59 18 [some (.inr 39), some (.inl x1), some (.inl x2)] [.inl x2, .inr 40, .inl x1] Z (zri Q))
    obtain ⟨c4, v⟩ := v
    refine z_al (by rfl) ln_40 c4 (?_ : TZ (d + 1) 59 19 [some (.inr 39), some (.inl x1), some (.inl x2)] [.inl (Z 40 x2), .inl x1] Z (zri Q))
    obtain ⟨c5, c6, v⟩ := v
    refine z_max (by rfl) (by rfl) (Nat.le_of_ble_eq_true rfl) c5 c6 (?_ : TZ (d + 1) 59 22 [some (.inr 39), some (.inl x1), some (.inl x2)] [.inl (max x1 (Z 40 x2))] Z (zri Q))
    refine z0 (op := 7) (a := 1) (b := 0) (by rfl) (by rfl) (?_ : TZ (d + 1) 59 23 [some (.inr 39), some (.inl (max x1 (Z 40 x2))), some (.inl x2)] [] Z (zri Q))
    refine z0 (op := 11) (a := 2) (b := 1) (by rfl) (by rfl) (?_ : TZ (d + 1) 59 26 [some (.inr 39), some (.inl (max x1 (Z 40 x2))), some (.inl (x2 + 1))] [] Z (zri Q))
    refine z_goto (t := 4) (by rfl) (by rfl) (?_ : TZ (d + 1) 59 4 [some (.inr 39), some (.inl (max x1 (Z 40 x2))), some (.inl (x2 + 1))] [] Z (zri Q))
    exact v
theorem w60_0 {d : Nat} {Z : zM} {Q : Int → zM → Prop}
    (v : TZ d 60 2 [some (.inr 39), some (.inl 0), none] [] Z (zri Q)) :
    TZ d 60 0 [some (.inr 39), none, none] [] Z (zri Q) := by
  refine z0 (op := 0) (a := 0) (b := 0) (by rfl) (by rfl) (?_ : TZ d 60 1 [some (.inr 39), none, none] [.inl 0] Z (zri Q))
  refine z0 (op := 7) (a := 1) (b := 0) (by rfl) (by rfl) (?_ : TZ d 60 2 [some (.inr 39), some (.inl 0), none] [] Z (zri Q))
  exact v
theorem w60_2 {d : Nat} {x1 : Int} {Z : zM} {Q : Int → zM → Prop}
    (v : zR x1 ∧
      zR (Z 39 3) ∧
      ((Z 39 3) ≤ x1 → TI d 61 [.inr 39] Z (fun r5 Z4 =>
          TZ (d + 1) 60 38 [some (.inr 39), some (.inl r5), some (.inl 0)] [] Z4 (zri Q))) ∧
      (¬ (Z 39 3) ≤ x1 → ((0 ≤ x1 ∧ x1 < 12) ∧
          zR (Z 40 x1) ∧
          (0 ≤ x1 ∧ x1 < 12) ∧
          ∀ Z9, Z9 = zup Z 41 x1 (Int.tmod (Z 40 x1) 12) →
          TZ (d + 1) 60 2 [some (.inr 39), some (.inl (x1 + 1)), none] [] Z9 (zri Q)))) :
    TZ (d + 1) 60 2 [some (.inr 39), some (.inl x1), none] [] Z (zri Q) := by
  refine z0 (op := 3) (a := 1) (b := 0) (by rfl) (by rfl) (?_ : TZ (d + 1) 60 3 [some (.inr 39), some (.inl x1), none] [.inl x1] Z (zri Q))
  refine z0 (op := 5) (a := 0) (b := 0) (by rfl) (by rfl) (?_ : TZ (d + 1) 60 4 [some (.inr 39), some (.inl x1), none] [.inr 39, .inl x1] Z (zri Q))
  refine z_fi (by rfl) fi47_39 (?_ : TZ (d + 1) 60 7 [some (.inr 39), some (.inl x1), none] [.inl (Z 39 3), .inl x1] Z (zri Q))
  obtain ⟨c1, c2, v1, v2⟩ := v
  refine z_if2 (a := 3) (t := 31) (by rfl) (by rfl) c1 c2 (fun h3 => ?_) (fun h3 => ?_)
  · have v := v1 h3; clear v1 v2
    show TZ (d + 1) 60 31 [some (.inr 39), some (.inl x1), none] [] Z (zri Q)
    refine z0 (op := 5) (a := 0) (b := 0) (by rfl) (by rfl) (?_ : TZ (d + 1) 60 32 [some (.inr 39), some (.inl x1), none] [.inr 39] Z (zri Q))
    refine z_vi (by rfl) (by rfl) cl_39 (TI.mono v fun r5 Z4 v => ?_)
    show TZ (d + 1) 60 35 [some (.inr 39), some (.inl x1), none] [.inl r5] Z4 (zri Q)
    refine z0 (op := 7) (a := 1) (b := 0) (by rfl) (by rfl) (?_ : TZ (d + 1) 60 36 [some (.inr 39), some (.inl r5), none] [] Z4 (zri Q))
    refine z0 (op := 0) (a := 0) (b := 0) (by rfl) (by rfl) (?_ : TZ (d + 1) 60 37 [some (.inr 39), some (.inl r5), none] [.inl 0] Z4 (zri Q))
    refine z0 (op := 7) (a := 2) (b := 0) (by rfl) (by rfl) (?_ : TZ (d + 1) 60 38 [some (.inr 39), some (.inl r5), some (.inl 0)] [] Z4 (zri Q))
    exact v
  · have v := v2 h3; clear v1 v2
    show TZ (d + 1) 60 10 [some (.inr 39), some (.inl x1), none] [] Z (zri Q)
    refine z0 (op := 5) (a := 0) (b := 0) (by rfl) (by rfl) (?_ : TZ (d + 1) 60 11 [some (.inr 39), some (.inl x1), none] [.inr 39] Z (zri Q))
    refine z_fr (by rfl) fr45_39 (?_ : TZ (d + 1) 60 14 [some (.inr 39), some (.inl x1), none] [.inr 41] Z (zri Q))
    refine z0 (op := 3) (a := 1) (b := 0) (by rfl) (by rfl) (?_ : TZ (d + 1) 60 15 [some (.inr 39), some (.inl x1), none] [.inl x1, .inr 41] Z (zri Q))
    refine z0 (op := 5) (a := 0) (b := 0) (by rfl) (by rfl) (?_ : TZ (d + 1) 60 16 [some (.inr 39), some (.inl x1), none] [.inr 39, .inl x1, .inr 41] Z (zri Q))
    refine z_fr (by rfl) fr44_39 (?_ : TZ (d + 1) 60 19 [some (.inr 39), some (.inl x1), none] [.inr 40, .inl x1, .inr 41] Z (zri Q))
    refine z0 (op := 3) (a := 1) (b := 0) (by rfl) (by rfl) (?_ : TZ (d + 1) 60 20 [some (.inr 39), some (.inl x1), none] [.inl x1, .inr 40, .inl x1, .inr 41] Z (zri Q))
    obtain ⟨c6, v⟩ := v
    refine z_al (by rfl) ln_40 c6 (?_ : TZ (d + 1) 60 21 [some (.inr 39), some (.inl x1), none] [.inl (Z 40 x1), .inl x1, .inr 41] Z (zri Q))
    refine z0 (op := 1) (a := 0) (b := 12) (by rfl) (by rfl) (?_ : TZ (d + 1) 60 23 [some (.inr 39), some (.inl x1), none] [.inl 12, .inl (Z 40 x1), .inl x1, .inr 41] Z (zri Q))
    obtain ⟨c7, v⟩ := v
    refine z_rem (by rfl) c7 (by decide) (?_ : TZ (d + 1) 60 24 [some (.inr 39), some (.inl x1), none] [.inl (Int.tmod (Z 40 x1) 12), .inl x1, .inr 41] Z (zri Q))
    obtain ⟨c8, v⟩ := v
    obtain ⟨Z9, eZ9⟩ : ∃ zz, zz = zup Z 41 x1 (Int.tmod (Z 40 x1) 12) := ⟨_, rfl⟩
    have v := v Z9 eZ9
    refine z_as (by rfl) ln_41 c8 ?_
    show TZ (d + 1) 60 25 [some (.inr 39), some (.inl x1), none] [] (zup Z 41 x1 (Int.tmod (Z 40 x1) 12)) _
    rw [← eZ9]
    refine z0 (op := 11) (a := 1) (b := 1) (by rfl) (by rfl) (?_ : TZ (d + 1) 60 28 [some (.inr 39), some (.inl (x1 + 1)), none] [] Z9 (zri Q))
    refine z_goto (t := 2) (by rfl) (by rfl) (?_ : TZ (d + 1) 60 2 [some (.inr 39), some (.inl (x1 + 1)), none] [] Z9 (zri Q))
    exact v
theorem w60_38 {d : Nat} {x1 x2 : Int} {Z : zM} {Q : Int → zM → Prop}
    (v : zR x1 ∧
      (x1 = 0 → (zR x1 ∧
          (x1 = 0 → Q x2 Z) ∧
          (¬ x1 = 0 → Q (-9) Z))) ∧
      (¬ x1 = 0 → (zR x2 ∧
          (20 ≤ x2 → (zR x1 ∧
              (x1 = 0 → Q x2 Z) ∧
              (¬ x1 = 0 → Q (-9) Z))) ∧
          (¬ 20 ≤ x2 → ∀ Z9, Z9 = zcpy Z 42 41 12 →
              TI d 61 [.inr 39] Z9 (fun r11 Z10 =>
              TZ (d + 1) 60 38 [some (.inr 39), some (.inl r11), some (.inl (x2 + 1))] [] Z10 (zri Q)))))) :
    TZ (d + 1) 60 38 [some (.inr 39), some (.inl x1), some (.inl x2)] [] Z (zri Q) := by
  refine z0 (op := 3) (a := 1) (b := 0) (by rfl) (by rfl) (?_ : TZ (d + 1) 60 39 [some (.inr 39), some (.inl x1), some (.inl x2)] [.inl x1] Z (zri Q))
  obtain ⟨c1, v1, v2⟩ := v
  refine z_if0 (a := 0) (t := 74) (by rfl) (by rfl) c1 (fun h2 => ?_) (fun h2 => ?_)
  · have v := v1 h2; clear v1 v2
    show TZ (d + 1) 60 74 [some (.inr 39), some (.inl x1), some (.inl x2)] [] Z (zri Q)
    refine z0 (op := 3) (a := 1) (b := 0) (by rfl) (by rfl) (?_ : TZ (d + 1) 60 75 [some (.inr 39), some (.inl x1), some (.inl x2)] [.inl x1] Z (zri Q))
    obtain ⟨c3, v1, v2⟩ := v
    refine z_if0 (a := 0) (t := 83) (by rfl) (by rfl) c3 (fun h4 => ?_) (fun h4 => ?_)
    · have v := v1 h4; clear v1 v2
      show TZ (d + 1) 60 83 [some (.inr 39), some (.inl x1), some (.inl x2)] [] Z (zri Q)
      refine z0 (op := 3) (a := 2) (b := 0) (by rfl) (by rfl) (?_ : TZ (d + 1) 60 84 [some (.inr 39), some (.inl x1), some (.inl x2)] [.inl x2] Z (zri Q))
      exact z_reti (by rfl) (by rfl) v
    · have v := v2 h4; clear v1 v2
      show TZ (d + 1) 60 78 [some (.inr 39), some (.inl x1), some (.inl x2)] [] Z (zri Q)
      refine z0 (op := 1) (a := 0) (b := (-9)) (by rfl) (by rfl) (?_ : TZ (d + 1) 60 80 [some (.inr 39), some (.inl x1), some (.inl x2)] [.inl (-9)] Z (zri Q))
      refine z_goto (t := 84) (by rfl) (by rfl) (?_ : TZ (d + 1) 60 84 [some (.inr 39), some (.inl x1), some (.inl x2)] [.inl (-9)] Z (zri Q))
      exact z_reti (by rfl) (by rfl) v
  · have v := v2 h2; clear v1 v2
    show TZ (d + 1) 60 42 [some (.inr 39), some (.inl x1), some (.inl x2)] [] Z (zri Q)
    refine z0 (op := 3) (a := 2) (b := 0) (by rfl) (by rfl) (?_ : TZ (d + 1) 60 43 [some (.inr 39), some (.inl x1), some (.inl x2)] [.inl x2] Z (zri Q))
    refine z0 (op := 1) (a := 0) (b := 20) (by rfl) (by rfl) (?_ : TZ (d + 1) 60 45 [some (.inr 39), some (.inl x1), some (.inl x2)] [.inl 20, .inl x2] Z (zri Q))
    obtain ⟨c5, v1, v2⟩ := v
    refine z_if2 (a := 3) (t := 74) (by rfl) (by rfl) c5 (by decide) (fun h6 => ?_) (fun h6 => ?_)
    · have v := v1 h6; clear v1 v2
      show TZ (d + 1) 60 74 [some (.inr 39), some (.inl x1), some (.inl x2)] [] Z (zri Q)
      refine z0 (op := 3) (a := 1) (b := 0) (by rfl) (by rfl) (?_ : TZ (d + 1) 60 75 [some (.inr 39), some (.inl x1), some (.inl x2)] [.inl x1] Z (zri Q))
      obtain ⟨c7, v1, v2⟩ := v
      refine z_if0 (a := 0) (t := 83) (by rfl) (by rfl) c7 (fun h8 => ?_) (fun h8 => ?_)
      · have v := v1 h8; clear v1 v2
        show TZ (d + 1) 60 83 [some (.inr 39), some (.inl x1), some (.inl x2)] [] Z (zri Q)
        refine z0 (op := 3) (a := 2) (b := 0) (by rfl) (by rfl) (?_ : TZ (d + 1) 60 84 [some (.inr 39), some (.inl x1), some (.inl x2)] [.inl x2] Z (zri Q))
        exact z_reti (by rfl) (by rfl) v
      · have v := v2 h8; clear v1 v2
        show TZ (d + 1) 60 78 [some (.inr 39), some (.inl x1), some (.inl x2)] [] Z (zri Q)
        refine z0 (op := 1) (a := 0) (b := (-9)) (by rfl) (by rfl) (?_ : TZ (d + 1) 60 80 [some (.inr 39), some (.inl x1), some (.inl x2)] [.inl (-9)] Z (zri Q))
        refine z_goto (t := 84) (by rfl) (by rfl) (?_ : TZ (d + 1) 60 84 [some (.inr 39), some (.inl x1), some (.inl x2)] [.inl (-9)] Z (zri Q))
        exact z_reti (by rfl) (by rfl) v
    · have v := v2 h6; clear v1 v2
      show TZ (d + 1) 60 48 [some (.inr 39), some (.inl x1), some (.inl x2)] [] Z (zri Q)
      refine z0 (op := 5) (a := 0) (b := 0) (by rfl) (by rfl) (?_ : TZ (d + 1) 60 49 [some (.inr 39), some (.inl x1), some (.inl x2)] [.inr 39] Z (zri Q))
      refine z_fr (by rfl) fr46_39 (?_ : TZ (d + 1) 60 52 [some (.inr 39), some (.inl x1), some (.inl x2)] [.inr 42] Z (zri Q))
      refine z0 (op := 0) (a := 0) (b := 0) (by rfl) (by rfl) (?_ : TZ (d + 1) 60 53 [some (.inr 39), some (.inl x1), some (.inl x2)] [.inl 0, .inr 42] Z (zri Q))
      refine z0 (op := 5) (a := 0) (b := 0) (by rfl) (by rfl) (?_ : TZ (d + 1) 60 54 [some (.inr 39), some (.inl x1), some (.inl x2)] [.inr 39, .inl 0, .inr 42] Z (zri Q))
      refine z_fr (by rfl) fr45_39 (?_ : TZ (d + 1) 60 57 [some (.inr 39), some (.inl x1), some (.inl x2)] [.inr 41, .inl 0, .inr 42] Z (zri Q))
      refine z0 (op := 0) (a := 0) (b := 0) (by rfl) (by rfl) (?_ : TZ (d + 1) 60 58 [some (.inr 39), some (.inl x1), some (.inl x2)] [.inl 0, .inr 41, .inl 0, .inr 42] Z (zri Q))
      refine z0 (op := 1) (a := 0) (b := 12) (by rfl) (by rfl) (?_ : TZ (d + 1) 60 60 [some (.inr 39), some (.inl x1), some (.inl x2)] [.inl 12, .inl 0, .inr 41, .inl 0, .inr 42] Z (zri Q))
      obtain ⟨Z9, eZ9⟩ : ∃ zz, zz = zcpy Z 42 41 12 := ⟨_, rfl⟩
      have v := v Z9 eZ9
      refine z_cpy (by rfl) (by rfl) (Nat.le_of_ble_eq_true rfl) ln_42 ln_41 (by decide) ?_
      show TZ (d + 1) 60 63 [some (.inr 39), some (.inl x1), some (.inl x2)] [] (zcpy Z 42 41 12) _
      rw [← eZ9]
      refine z0 (op := 5) (a := 0) (b := 0) (by rfl) (by rfl) (?_ : TZ (d + 1) 60 64 [some (.inr 39), some (.inl x1), some (.inl x2)] [.inr 39] Z9 (zri Q))
      refine z_vi (by rfl) (by rfl) cl_39 (TI.mono v fun r11 Z10 v => ?_)
      show TZ (d + 1) 60 67 [some (.inr 39), some (.inl x1), some (.inl x2)] [.inl r11] Z10 (zri Q)
      refine z0 (op := 7) (a := 1) (b := 0) (by rfl) (by rfl) (?_ : TZ (d + 1) 60 68 [some (.inr 39), some (.inl r11), some (.inl x2)] [] Z10 (zri Q))
      refine z0 (op := 11) (a := 2) (b := 1) (by rfl) (by rfl) (?_ : TZ (d + 1) 60 71 [some (.inr 39), some (.inl r11), some (.inl (x2 + 1))] [] Z10 (zri Q))
      refine z_goto (t := 38) (by rfl) (by rfl) (?_ : TZ (d + 1) 60 38 [some (.inr 39), some (.inl r11), some (.inl (x2 + 1))] [] Z10 (zri Q))
      exact v
theorem w61_0 {d : Nat} {Z : zM} {Q : Int → zM → Prop}
    (v : TZ d 61 4 [some (.inr 39), some (.inl 0), some (.inl 0), none, none] [] Z (zri Q)) :
    TZ d 61 0 [some (.inr 39), none, none, none, none] [] Z (zri Q) := by
  refine z0 (op := 0) (a := 0) (b := 0) (by rfl) (by rfl) (?_ : TZ d 61 1 [some (.inr 39), none, none, none, none] [.inl 0] Z (zri Q))
  refine z0 (op := 7) (a := 1) (b := 0) (by rfl) (by rfl) (?_ : TZ d 61 2 [some (.inr 39), some (.inl 0), none, none, none] [] Z (zri Q))
  refine z0 (op := 0) (a := 0) (b := 0) (by rfl) (by rfl) (?_ : TZ d 61 3 [some (.inr 39), some (.inl 0), none, none, none] [.inl 0] Z (zri Q))
  refine z0 (op := 7) (a := 2) (b := 0) (by rfl) (by rfl) (?_ : TZ d 61 4 [some (.inr 39), some (.inl 0), some (.inl 0), none, none] [] Z (zri Q))
  exact v
theorem w61_4 {d : Nat} {x1 x2 : Int} {o3 o4 : Option zV} {Z : zM} {Q : Int → zM → Prop}
    (v : zR x2 ∧
      zR (Z 39 3) ∧
      ((Z 39 3) ≤ x2 → ((x1 = 0 ∨ x1 = 1) ∧ Q x1 Z)) ∧
      (¬ (Z 39 3) ≤ x2 → (zR x2 ∧
          (x2 ≤ 0 → ((0 ≤ ((Z 39 3) - 1) ∧ ((Z 39 3) - 1) < 12) ∧
              zR (x2 + 1) ∧
              zR (Z 39 3) ∧
              ((Z 39 3) ≤ (x2 + 1) → (zR (Z 39 3) ∧
                  (3 ≤ (Z 39 3) → ((0 ≤ x2 ∧ x2 < 12) ∧
                      TI d 62 [.inl (Z 41 ((Z 39 3) - 1)), .inl (Z 41 x2), .inl (Z 41 0)] Z (fun r15 Z14 =>
                      (0 ≤ x2 ∧ x2 < 12) ∧
                        ∀ Z17, Z17 = zup Z14 42 x2 r15 →
                        zR x1 ∧
                        (x1 ≠ 0 → TZ (d + 1) 61 4 [some (.inr 39), some (.inl 1), some (.inl (x2 + 1)), some (.inl (Z 41 ((Z 39 3) - 1))), some (.inl (Z 41 0))] [] Z17 (zri Q)) ∧
                        (¬ x1 ≠ 0 → ((0 ≤ x2 ∧ x2 < 12) ∧
                            (0 ≤ x2 ∧ x2 < 12) ∧
                            zR (Z17 42 x2) ∧
                            zR (Z17 41 x2) ∧
                            ((Z17 42 x2) = (Z17 41 x2) → TZ (d + 1) 61 4 [some (.inr 39), some (.inl 0), some (.inl (x2 + 1)), some (.inl (Z 41 ((Z 39 3) - 1))), some (.inl (Z 41 0))] [] Z17 (zri Q)) ∧
                            (¬ (Z17 42 x2) = (Z17 41 x2) → TZ (d + 1) 61 4 [some (.inr 39), some (.inl 1), some (.inl (x2 + 1)), some (.inl (Z 41 ((Z 39 3) - 1))), some (.inl (Z 41 0))] [] Z17 (zri Q))))))) ∧
                  (¬ 3 ≤ (Z 39 3) → ((0 ≤ x2 ∧ x2 < 12) ∧
                      (0 ≤ x2 ∧ x2 < 12) ∧
                      ∀ Z27, Z27 = zup Z 42 x2 (Z 41 x2) →
                      zR x1 ∧
                      (x1 ≠ 0 → TZ (d + 1) 61 4 [some (.inr 39), some (.inl 1), some (.inl (x2 + 1)), some (.inl (Z 41 ((Z 39 3) - 1))), some (.inl (Z 41 0))] [] Z27 (zri Q)) ∧
                      (¬ x1 ≠ 0 → ((0 ≤ x2 ∧ x2 < 12) ∧
                          (0 ≤ x2 ∧ x2 < 12) ∧
                          zR (Z27 42 x2) ∧
                          zR (Z27 41 x2) ∧
                          ((Z27 42 x2) = (Z27 41 x2) → TZ (d + 1) 61 4 [some (.inr 39), some (.inl 0), some (.inl (x2 + 1)), some (.inl (Z 41 ((Z 39 3) - 1))), some (.inl (Z 41 0))] [] Z27 (zri Q)) ∧
                          (¬ (Z27 42 x2) = (Z27 41 x2) → TZ (d + 1) 61 4 [some (.inr 39), some (.inl 1), some (.inl (x2 + 1)), some (.inl (Z 41 ((Z 39 3) - 1))), some (.inl (Z 41 0))] [] Z27 (zri Q)))))))) ∧
              (¬ (Z 39 3) ≤ (x2 + 1) → ((0 ≤ (x2 + 1) ∧ (x2 + 1) < 12) ∧
                  zR (Z 39 3) ∧
                  (3 ≤ (Z 39 3) → ((0 ≤ x2 ∧ x2 < 12) ∧
                      TI d 62 [.inl (Z 41 ((Z 39 3) - 1)), .inl (Z 41 x2), .inl (Z 41 (x2 + 1))] Z (fun r40 Z39 =>
                      (0 ≤ x2 ∧ x2 < 12) ∧
                        ∀ Z42, Z42 = zup Z39 42 x2 r40 →
                        zR x1 ∧
                        (x1 ≠ 0 → TZ (d + 1) 61 4 [some (.inr 39), some (.inl 1), some (.inl (x2 + 1)), some (.inl (Z 41 ((Z 39 3) - 1))), some (.inl (Z 41 (x2 + 1)))] [] Z42 (zri Q)) ∧
                        (¬ x1 ≠ 0 → ((0 ≤ x2 ∧ x2 < 12) ∧
                            (0 ≤ x2 ∧ x2 < 12) ∧
                            zR (Z42 42 x2) ∧
                            zR (Z42 41 x2) ∧
                            ((Z42 42 x2) = (Z42 41 x2) → TZ (d + 1) 61 4 [some (.inr 39), some (.inl 0), some (.inl (x2 + 1)), some (.inl (Z 41 ((Z 39 3) - 1))), some (.inl (Z 41 (x2 + 1)))] [] Z42 (zri Q)) ∧
                            (¬ (Z42 42 x2) = (Z42 41 x2) → TZ (d + 1) 61 4 [some (.inr 39), some (.inl 1), some (.inl (x2 + 1)), some (.inl (Z 41 ((Z 39 3) - 1))), some (.inl (Z 41 (x2 + 1)))] [] Z42 (zri Q))))))) ∧
                  (¬ 3 ≤ (Z 39 3) → ((0 ≤ x2 ∧ x2 < 12) ∧
                      (0 ≤ x2 ∧ x2 < 12) ∧
                      ∀ Z52, Z52 = zup Z 42 x2 (Z 41 x2) →
                      zR x1 ∧
                      (x1 ≠ 0 → TZ (d + 1) 61 4 [some (.inr 39), some (.inl 1), some (.inl (x2 + 1)), some (.inl (Z 41 ((Z 39 3) - 1))), some (.inl (Z 41 (x2 + 1)))] [] Z52 (zri Q)) ∧
                      (¬ x1 ≠ 0 → ((0 ≤ x2 ∧ x2 < 12) ∧
                          (0 ≤ x2 ∧ x2 < 12) ∧
                          zR (Z52 42 x2) ∧
                          zR (Z52 41 x2) ∧
                          ((Z52 42 x2) = (Z52 41 x2) → TZ (d + 1) 61 4 [some (.inr 39), some (.inl 0), some (.inl (x2 + 1)), some (.inl (Z 41 ((Z 39 3) - 1))), some (.inl (Z 41 (x2 + 1)))] [] Z52 (zri Q)) ∧
                          (¬ (Z52 42 x2) = (Z52 41 x2) → TZ (d + 1) 61 4 [some (.inr 39), some (.inl 1), some (.inl (x2 + 1)), some (.inl (Z 41 ((Z 39 3) - 1))), some (.inl (Z 41 (x2 + 1)))] [] Z52 (zri Q)))))))))) ∧
          (¬ x2 ≤ 0 → ((0 ≤ (x2 - 1) ∧ (x2 - 1) < 12) ∧
              zR (x2 + 1) ∧
              zR (Z 39 3) ∧
              ((Z 39 3) ≤ (x2 + 1) → (zR (Z 39 3) ∧
                  (3 ≤ (Z 39 3) → ((0 ≤ x2 ∧ x2 < 12) ∧
                      TI d 62 [.inl (Z 41 (x2 - 1)), .inl (Z 41 x2), .inl (Z 41 0)] Z (fun r68 Z67 =>
                      (0 ≤ x2 ∧ x2 < 12) ∧
                        ∀ Z70, Z70 = zup Z67 42 x2 r68 →
                        zR x1 ∧
                        (x1 ≠ 0 → TZ (d + 1) 61 4 [some (.inr 39), some (.inl 1), some (.inl (x2 + 1)), some (.inl (Z 41 (x2 - 1))), some (.inl (Z 41 0))] [] Z70 (zri Q)) ∧
                        (¬ x1 ≠ 0 → ((0 ≤ x2 ∧ x2 < 12) ∧
                            (0 ≤ x2 ∧ x2 < 12) ∧
                            zR (Z70 42 x2) ∧
                            zR (Z70 41 x2) ∧
                            ((Z70 42 x2) = (Z70 41 x2) → TZ (d + 1) 61 4 [some (.inr 39), some (.inl 0), some (.inl (x2 + 1)), some (.inl (Z 41 (x2 - 1))), some (.inl (Z 41 0))] [] Z70 (zri Q)) ∧
                            (¬ (Z70 42 x2) = (Z70 41 x2) → TZ (d + 1) 61 4 [some (.inr 39), some (.inl 1), some (.inl (x2 + 1)), some (.inl (Z 41 (x2 - 1))), some (.inl (Z 41 0))] [] Z70 (zri Q))))))) ∧
                  (¬ 3 ≤ (Z 39 3) → ((0 ≤ x2 ∧ x2 < 12) ∧
                      (0 ≤ x2 ∧ x2 < 12) ∧
                      ∀ Z80, Z80 = zup Z 42 x2 (Z 41 x2) →
                      zR x1 ∧
                      (x1 ≠ 0 → TZ (d + 1) 61 4 [some (.inr 39), some (.inl 1), some (.inl (x2 + 1)), some (.inl (Z 41 (x2 - 1))), some (.inl (Z 41 0))] [] Z80 (zri Q)) ∧
                      (¬ x1 ≠ 0 → ((0 ≤ x2 ∧ x2 < 12) ∧
                          (0 ≤ x2 ∧ x2 < 12) ∧
                          zR (Z80 42 x2) ∧
                          zR (Z80 41 x2) ∧
                          ((Z80 42 x2) = (Z80 41 x2) → TZ (d + 1) 61 4 [some (.inr 39), some (.inl 0), some (.inl (x2 + 1)), some (.inl (Z 41 (x2 - 1))), some (.inl (Z 41 0))] [] Z80 (zri Q)) ∧
                          (¬ (Z80 42 x2) = (Z80 41 x2) → TZ (d + 1) 61 4 [some (.inr 39), some (.inl 1), some (.inl (x2 + 1)), some (.inl (Z 41 (x2 - 1))), some (.inl (Z 41 0))] [] Z80 (zri Q)))))))) ∧
              (¬ (Z 39 3) ≤ (x2 + 1) → ((0 ≤ (x2 + 1) ∧ (x2 + 1) < 12) ∧
                  zR (Z 39 3) ∧
                  (3 ≤ (Z 39 3) → ((0 ≤ x2 ∧ x2 < 12) ∧
                      TI d 62 [.inl (Z 41 (x2 - 1)), .inl (Z 41 x2), .inl (Z 41 (x2 + 1))] Z (fun r93 Z92 =>
                      (0 ≤ x2 ∧ x2 < 12) ∧
                        ∀ Z95, Z95 = zup Z92 42 x2 r93 →
                        zR x1 ∧
                        (x1 ≠ 0 → TZ (d + 1) 61 4 [some (.inr 39), some (.inl 1), some (.inl (x2 + 1)), some (.inl (Z 41 (x2 - 1))), some (.inl (Z 41 (x2 + 1)))] [] Z95 (zri Q)) ∧
                        (¬ x1 ≠ 0 → ((0 ≤ x2 ∧ x2 < 12) ∧
                            (0 ≤ x2 ∧ x2 < 12) ∧
                            zR (Z95 42 x2) ∧
                            zR (Z95 41 x2) ∧
                            ((Z95 42 x2) = (Z95 41 x2) → TZ (d + 1) 61 4 [some (.inr 39), some (.inl 0), some (.inl (x2 + 1)), some (.inl (Z 41 (x2 - 1))), some (.inl (Z 41 (x2 + 1)))] [] Z95 (zri Q)) ∧
                            (¬ (Z95 42 x2) = (Z95 41 x2) → TZ (d + 1) 61 4 [some (.inr 39), some (.inl 1), some (.inl (x2 + 1)), some (.inl (Z 41 (x2 - 1))), some (.inl (Z 41 (x2 + 1)))] [] Z95 (zri Q))))))) ∧
                  (¬ 3 ≤ (Z 39 3) → ((0 ≤ x2 ∧ x2 < 12) ∧
                      (0 ≤ x2 ∧ x2 < 12) ∧
                      ∀ Z105, Z105 = zup Z 42 x2 (Z 41 x2) →
                      zR x1 ∧
                      (x1 ≠ 0 → TZ (d + 1) 61 4 [some (.inr 39), some (.inl 1), some (.inl (x2 + 1)), some (.inl (Z 41 (x2 - 1))), some (.inl (Z 41 (x2 + 1)))] [] Z105 (zri Q)) ∧
                      (¬ x1 ≠ 0 → ((0 ≤ x2 ∧ x2 < 12) ∧
                          (0 ≤ x2 ∧ x2 < 12) ∧
                          zR (Z105 42 x2) ∧
                          zR (Z105 41 x2) ∧
                          ((Z105 42 x2) = (Z105 41 x2) → TZ (d + 1) 61 4 [some (.inr 39), some (.inl 0), some (.inl (x2 + 1)), some (.inl (Z 41 (x2 - 1))), some (.inl (Z 41 (x2 + 1)))] [] Z105 (zri Q)) ∧
                          (¬ (Z105 42 x2) = (Z105 41 x2) → TZ (d + 1) 61 4 [some (.inr 39), some (.inl 1), some (.inl (x2 + 1)), some (.inl (Z 41 (x2 - 1))), some (.inl (Z 41 (x2 + 1)))] [] Z105 (zri Q))))))))))))) :
    TZ (d + 1) 61 4 [some (.inr 39), some (.inl x1), some (.inl x2), o3, o4] [] Z (zri Q) := by
  refine z0 (op := 3) (a := 2) (b := 0) (by rfl) (by rfl) (?_ : TZ (d + 1) 61 5 [some (.inr 39), some (.inl x1), some (.inl x2), o3, o4] [.inl x2] Z (zri Q))
  refine z0 (op := 5) (a := 0) (b := 0) (by rfl) (by rfl) (?_ : TZ (d + 1) 61 6 [some (.inr 39), some (.inl x1), some (.inl x2), o3, o4] [.inr 39, .inl x2] Z (zri Q))
  refine z_fi (by rfl) fi47_39 (?_ : TZ (d + 1) 61 9 [some (.inr 39), some (.inl x1), some (.inl x2), o3, o4] [.inl (Z 39 3), .inl x2] Z (zri Q))
  obtain ⟨c1, c2, v1, v2⟩ := v
  refine z_if2 (a := 3) (t := 124) (by rfl) (by rfl) c1 c2 (fun h3 => ?_) (fun h3 => ?_)
  · have v := v1 h3; clear v1 v2
    show TZ (d + 1) 61 124 [some (.inr 39), some (.inl x1), some (.inl x2), o3, o4] [] Z (zri Q)
    refine z0 (op := 3) (a := 1) (b := 0) (by rfl) (by rfl) (?_ : TZ (d + 1) 61 125 [some (.inr 39), some (.inl x1), some (.inl x2), o3, o4] [.inl x1] Z (zri Q))
    obtain ⟨c4, v⟩ := v
    exact z_retb (by rfl) (by rfl) c4 v
  · have v := v2 h3; clear v1 v2
    show TZ (d + 1) 61 12 [some (.inr 39), some (.inl x1), some (.inl x2), o3, o4] [] Z (zri Q)
    refine z0 (op := 5) (a := 0) (b := 0) (by rfl) (by rfl) (?_ : TZ (d + 1) 61 13 [some (.inr 39), some (.inl x1), some (.inl x2), o3, o4] [.inr 39] Z (zri Q))
    refine z_fr (by rfl) fr45_39 (?_ : TZ (d + 1) 61 16 [some (.inr 39), some (.inl x1), some (.inl x2), o3, o4] [.inr 41] Z (zri Q))
    refine z0 (op := 3) (a := 2) (b := 0) (by rfl) (by rfl) (?_ : TZ (d + 1) 61 17 [some (.inr 39), some (.inl x1), some (.inl x2), o3, o4] [.inl x2, .inr 41] Z (zri Q))
    obtain ⟨c5, v1, v2⟩ := v
    refine z_if0 (a := 5) (t := 26) (by rfl) (by rfl) c5 (fun h6 => ?_) (fun h6 => ?_)
    · have v := v1 h6; clear v1 v2
      show TZ (d + 1) 61 26 [some (.inr 39), some (.inl x1), some (.inl x2), o3, o4] [.inr 41] Z (zri Q)
      refine z0 (op := 5) (a := 0) (b := 0) (by rfl) (by rfl) (?_ : TZ (d + 1) 61 27 [some (.inr 39), some (.inl x1), some (.inl x2), o3, o4] [.inr 39, .inr 41] Z (zri Q))
      refine z_fi (by rfl) fi47_39 (?_ : TZ (d + 1) 61 30 [some (.inr 39), some (.inl x1), some (.inl x2), o3, o4] [.inl (Z 39 3), .inr 41] Z (zri Q))
      refine z0 (op := 0) (a := 0) (b := 1) (by rfl) (by rfl) (?_ : TZ (d + 1) 61 31 [some (.inr 39), some (.inl x1), some (.inl x2), o3, o4] [.inl 1, .inl (Z 39 3), .inr 41] Z (zri Q))
      refine z0 (op := 12) (a := 1) (b := 0) (by rfl) (by rfl) (?_ : TZ (d + 1) 61 32 [some (.inr 39), some (.inl x1), some (.inl x2), o3, o4] [.inl ((Z 39 3) - 1), .inr 41] Z (zri Q))
      obtain ⟨c7, v⟩ := v
      refine z_al (by rfl) ln_41 c7 (?_ : TZ (d + 1) 61 33 [some (.inr 39), some (.inl x1), some (.inl x2), o3, o4] [.inl (Z 41 ((Z 39 3) - 1))] Z (zri Q))
      refine z0 (op := 7) (a := 3) (b := 0) (by rfl) (by rfl) (?_ : TZ (d + 1) 61 34 [some (.inr 39), some (.inl x1), some (.inl x2), some (.inl (Z 41 ((Z 39 3) - 1))), o4] [] Z (zri Q))
      refine z0 (op := 5) (a := 0) (b := 0) (by rfl) (by rfl) (?_ : TZ (d + 1) 61 35 [some (.inr 39), some (.inl x1), some (.inl x2), some (.inl (Z 41 ((Z 39 3) - 1))), o4] [.inr 39] Z (zri Q))
      refine z_fr (by rfl) fr45_39 (?_ : TZ (d + 1) 61 38 [some (.inr 39), some (.inl x1), some (.inl x2), some (.inl (Z 41 ((Z 39 3) - 1))), o4] [.inr 41] Z (zri Q))
      refine z0 (op := 3) (a := 2) (b := 0) (by rfl) (by rfl) (?_ : TZ (d + 1) 61 39 [some (.inr 39), some (.inl x1), some (.inl x2), some (.inl (Z 41 ((Z 39 3) - 1))), o4] [.inl x2, .inr 41] Z (zri Q))
      refine z0 (op := 0) (a := 0) (b := 1) (by rfl) (by rfl) (?_ : TZ (d + 1) 61 40 [some (.inr 39), some (.inl x1), some (.inl x2), some (.inl (Z 41 ((Z 39 3) - 1))), o4] [.inl 1, .inl x2, .inr 41] Z (zri Q))
      refine z0 (op := 12) (a := 0) (b := 0) (by rfl) (by rfl) (?_ : TZ (d + 1) 61 41 [some (.inr 39), some (.inl x1), some (.inl x2), some (.inl (Z 41 ((Z 39 3) - 1))), o4] [.inl (x2 + 1), .inr 41] Z (zri Q))
      refine z0 (op := 5) (a := 0) (b := 0) (by rfl) (by rfl) (?_ : TZ (d + 1) 61 42 [some (.inr 39), some (.inl x1), some (.inl x2), some (.inl (Z 41 ((Z 39 3) - 1))), o4] [.inr 39, .inl (x2 + 1), .inr 41] Z (zri Q))
      refine z_fi (by rfl) fi47_39 (?_ : TZ (d + 1) 61 45 [some (.inr 39), some (.inl x1), some (.inl x2), some (.inl (Z 41 ((Z 39 3) - 1))), o4] [.inl (Z 39 3), .inl (x2 + 1), .inr 41] Z (zri Q))
      obtain ⟨c8, c9, v1, v2⟩ := v
      refine z_if2 (a := 3) (t := 54) (by rfl) (by rfl) c8 c9 (fun h10 => ?_) (fun h10 => ?_)
      · have v := v1 h10; clear v1 v2
        show TZ (d + 1) 61 54 [some (.inr 39), some (.inl x1), some (.inl x2), some (.inl (Z 41 ((Z 39 3) - 1))), o4] [.inr 41] Z (zri Q)
        refine z0 (op := 0) (a := 0) (b := 0) (by rfl) (by rfl) (?_ : TZ (d + 1) 61 55 [some (.inr 39), some (.inl x1), some (.inl x2), some (.inl (Z 41 ((Z 39 3) - 1))), o4] [.inl 0, .inr 41] Z (zri Q))
        refine z_al (by rfl) ln_41 (by decide) (?_ : TZ (d + 1) 61 56 [some (.inr 39), some (.inl x1), some (.inl x2), some (.inl (Z 41 ((Z 39 3) - 1))), o4] [.inl (Z 41 0)] Z (zri Q))
        refine z0 (op := 8) (a := 4) (b := 0) (by rfl) (by rfl) (?_ : TZ (d + 1) 61 58 [some (.inr 39), some (.inl x1), some (.inl x2), some (.inl (Z 41 ((Z 39 3) - 1))), some (.inl (Z 41 0))] [] Z (zri Q))
        refine z0 (op := 5) (a := 0) (b := 0) (by rfl) (by rfl) (?_ : TZ (d + 1) 61 59 [some (.inr 39), some (.inl x1), some (.inl x2), some (.inl (Z 41 ((Z 39 3) - 1))), some (.inl (Z 41 0))] [.inr 39] Z (zri Q))
        refine z_fr (by rfl) fr46_39 (?_ : TZ (d + 1) 61 62 [some (.inr 39), some (.inl x1), some (.inl x2), some (.inl (Z 41 ((Z 39 3) - 1))), some (.inl (Z 41 0))] [.inr 42] Z (zri Q))
        refine z0 (op := 3) (a := 2) (b := 0) (by rfl) (by rfl) (?_ : TZ (d + 1) 61 63 [some (.inr 39), some (.inl x1), some (.inl x2), some (.inl (Z 41 ((Z 39 3) - 1))), some (.inl (Z 41 0))] [.inl x2, .inr 42] Z (zri Q))
        refine z0 (op := 5) (a := 0) (b := 0) (by rfl) (by rfl) (?_ : TZ (d + 1) 61 64 [some (.inr 39), some (.inl x1), some (.inl x2), some (.inl (Z 41 ((Z 39 3) - 1))), some (.inl (Z 41 0))] [.inr 39, .inl x2, .inr 42] Z (zri Q))
        refine z_fi (by rfl) fi47_39 (?_ : TZ (d + 1) 61 67 [some (.inr 39), some (.inl x1), some (.inl x2), some (.inl (Z 41 ((Z 39 3) - 1))), some (.inl (Z 41 0))] [.inl (Z 39 3), .inl x2, .inr 42] Z (zri Q))
        refine z0 (op := 0) (a := 0) (b := 3) (by rfl) (by rfl) (?_ : TZ (d + 1) 61 68 [some (.inr 39), some (.inl x1), some (.inl x2), some (.inl (Z 41 ((Z 39 3) - 1))), some (.inl (Z 41 0))] [.inl 3, .inl (Z 39 3), .inl x2, .inr 42] Z (zri Q))
        obtain ⟨c11, v1, v2⟩ := v
        refine z_if2 (a := 3) (t := 80) (by rfl) (by rfl) c11 (by decide) (fun h12 => ?_) (fun h12 => ?_)
        · have v := v1 h12; clear v1 v2
          show TZ (d + 1) 61 80 [some (.inr 39), some (.inl x1), some (.inl x2), some (.inl (Z 41 ((Z 39 3) - 1))), some (.inl (Z 41 0))] [.inl x2, .inr 42] Z (zri Q)
          refine z0 (op := 3) (a := 3) (b := 0) (by rfl) (by rfl) (?_ : TZ (d + 1) 61 81 [some (.inr 39), some (.inl x1), some (.inl x2), some (.inl (Z 41 ((Z 39 3) - 1))), some (.inl (Z 41 0))] [.inl (Z 41 ((Z 39 3) - 1)), .inl x2, .inr 42] Z (zri Q))
          refine z0 (op := 5) (a := 0) (b := 0) (by rfl) (by rfl) (?_ : TZ (d + 1) 61 82 [some (.inr 39), some (.inl x1), some (.inl x2), some (.inl (Z 41 ((Z 39 3) - 1))), some (.inl (Z 41 0))] [.inr 39, .inl (Z 41 ((Z 39 3) - 1)), .inl x2, .inr 42] Z (zri Q))
          refine z_fr (by rfl) fr45_39 (?_ : TZ (d + 1) 61 85 [some (.inr 39), some (.inl x1), some (.inl x2), some (.inl (Z 41 ((Z 39 3) - 1))), some (.inl (Z 41 0))] [.inr 41, .inl (Z 41 ((Z 39 3) - 1)), .inl x2, .inr 42] Z (zri Q))
          refine z0 (op := 3) (a := 2) (b := 0) (by rfl) (by rfl) (?_ : TZ (d + 1) 61 86 [some (.inr 39), some (.inl x1), some (.inl x2), some (.inl (Z 41 ((Z 39 3) - 1))), some (.inl (Z 41 0))] [.inl x2, .inr 41, .inl (Z 41 ((Z 39 3) - 1)), .inl x2, .inr 42] Z (zri Q))
          obtain ⟨c13, v⟩ := v
          refine z_al (by rfl) ln_41 c13 (?_ : TZ (d + 1) 61 87 [some (.inr 39), some (.inl x1), some (.inl x2), some (.inl (Z 41 ((Z 39 3) - 1))), some (.inl (Z 41 0))] [.inl (Z 41 x2), .inl (Z 41 ((Z 39 3) - 1)), .inl x2, .inr 42] Z (zri Q))
          refine z0 (op := 4) (a := 4) (b := 0) (by rfl) (by rfl) (?_ : TZ (d + 1) 61 89 [some (.inr 39), some (.inl x1), some (.inl x2), some (.inl (Z 41 ((Z 39 3) - 1))), some (.inl (Z 41 0))] [.inl (Z 41 0), .inl (Z 41 x2), .inl (Z 41 ((Z 39 3) - 1)), .inl x2, .inr 42] Z (zri Q))
          refine z_si (by rfl) (by rfl) (TI.mono v fun r15 Z14 v => ?_)
          show TZ (d + 1) 61 92 [some (.inr 39), some (.inl x1), some (.inl x2), some (.inl (Z 41 ((Z 39 3) - 1))), some (.inl (Z 41 0))] [.inl r15, .inl x2, .inr 42] Z14 (zri Q)
          obtain ⟨c16, v⟩ := v
          obtain ⟨Z17, eZ17⟩ : ∃ zz, zz = zup Z14 42 x2 r15 := ⟨_, rfl⟩
          have v := v Z17 eZ17
          refine z_as (by rfl) ln_42 c16 ?_
          show TZ (d + 1) 61 93 [some (.inr 39), some (.inl x1), some (.inl x2), some (.inl (Z 41 ((Z 39 3) - 1))), some (.inl (Z 41 0))] [] (zup Z14 42 x2 r15) _
          rw [← eZ17]
          refine z0 (op := 3) (a := 1) (b := 0) (by rfl) (by rfl) (?_ : TZ (d + 1) 61 94 [some (.inr 39), some (.inl x1), some (.inl x2), some (.inl (Z 41 ((Z 39 3) - 1))), some (.inl (Z 41 0))] [.inl x1] Z17 (zri Q))
          obtain ⟨c18, v1, v2⟩ := v
          refine z_if0 (a := 1) (t := 112) (by rfl) (by rfl) c18 (fun h19 => ?_) (fun h19 => ?_)
          · have v := v1 h19; clear v1 v2
            show TZ (d + 1) 61 112 [some (.inr 39), some (.inl x1), some (.inl x2), some (.inl (Z 41 ((Z 39 3) - 1))), some (.inl (Z 41 0))] [] Z17 (zri Q)
            refine z0 (op := 0) (a := 0) (b := 1) (by rfl) (by rfl) (?_ : TZ (d + 1) 61 113 [some (.inr 39), some (.inl x1), some (.inl x2), some (.inl (Z 41 ((Z 39 3) - 1))), some (.inl (Z 41 0))] [.inl 1] Z17 (zri Q))
            refine z_goto (t := 117) (by rfl) (by rfl) (?_ : TZ (d + 1) 61 117 [some (.inr 39), some (.inl x1), some (.inl x2), some (.inl (Z 41 ((Z 39 3) - 1))), some (.inl (Z 41 0))] [.inl 1] Z17 (zri Q))
            refine z0 (op := 7) (a := 1) (b := 0) (by rfl) (by rfl) (?_ : TZ (d + 1) 61 118 [some (.inr 39), some (.inl 1), some (.inl x2), some (.inl (Z 41 ((Z 39 3) - 1))), some (.inl (Z 41 0))] [] Z17 (zri Q))
            refine z0 (op := 11) (a := 2) (b := 1) (by rfl) (by rfl) (?_ : TZ (d + 1) 61 121 [some (.inr 39), some (.inl 1), some (.inl (x2 + 1)), some (.inl (Z 41 ((Z 39 3) - 1))), some (.inl (Z 41 0))] [] Z17 (zri Q))
            refine z_goto (t := 4) (by rfl) (by rfl) (?_ : TZ (d + 1) 61 4 [some (.inr 39), some (.inl 1), some (.inl (x2 + 1)), some (.inl (Z 41 ((Z 39 3) - 1))), some (.inl (Z 41 0))] [] Z17 (zri Q))
            exact v
          · have v := v2 h19; clear v1 v2
            show TZ (d + 1) 61 97 [some (.inr 39), some (.inl x1), some (.inl x2), some (.inl (Z 41 ((Z 39 3) - 1))), some (.inl (Z 41 0))] [] Z17 (zri Q)
            refine z0 (op := 5) (a := 0) (b := 0) (by rfl) (by rfl) (?_ : TZ (d + 1) 61 98 [some (.inr 39), some (.inl x1), some (.inl x2), some (.inl (Z 41 ((Z 39 3) - 1))), some (.inl (Z 41 0))] [.inr 39] Z17 (zri Q))
            refine z_fr (by rfl) fr46_39 (?_ : TZ (d + 1) 61 101 [some (.inr 39), some (.inl x1), some (.inl x2), some (.inl (Z 41 ((Z 39 3) - 1))), some (.inl (Z 41 0))] [.inr 42] Z17 (zri Q))
            refine z0 (op := 3) (a := 2) (b := 0) (by rfl) (by rfl) (?_ : TZ (d + 1) 61 102 [some (.inr 39), some (.inl x1), some (.inl x2), some (.inl (Z 41 ((Z 39 3) - 1))), some (.inl (Z 41 0))] [.inl x2, .inr 42] Z17 (zri Q))
            obtain ⟨c20, v⟩ := v
            refine z_al (by rfl) ln_42 c20 (?_ : TZ (d + 1) 61 103 [some (.inr 39), some (.inl x1), some (.inl x2), some (.inl (Z 41 ((Z 39 3) - 1))), some (.inl (Z 41 0))] [.inl (Z17 42 x2)] Z17 (zri Q))
            refine z0 (op := 5) (a := 0) (b := 0) (by rfl) (by rfl) (?_ : TZ (d + 1) 61 104 [some (.inr 39), some (.inl x1), some (.inl x2), some (.inl (Z 41 ((Z 39 3) - 1))), some (.inl (Z 41 0))] [.inr 39, .inl (Z17 42 x2)] Z17 (zri Q))
            refine z_fr (by rfl) fr45_39 (?_ : TZ (d + 1) 61 107 [some (.inr 39), some (.inl x1), some (.inl x2), some (.inl (Z 41 ((Z 39 3) - 1))), some (.inl (Z 41 0))] [.inr 41, .inl (Z17 42 x2)] Z17 (zri Q))
            refine z0 (op := 3) (a := 2) (b := 0) (by rfl) (by rfl) (?_ : TZ (d + 1) 61 108 [some (.inr 39), some (.inl x1), some (.inl x2), some (.inl (Z 41 ((Z 39 3) - 1))), some (.inl (Z 41 0))] [.inl x2, .inr 41, .inl (Z17 42 x2)] Z17 (zri Q))
            obtain ⟨c21, v⟩ := v
            refine z_al (by rfl) ln_41 c21 (?_ : TZ (d + 1) 61 109 [some (.inr 39), some (.inl x1), some (.inl x2), some (.inl (Z 41 ((Z 39 3) - 1))), some (.inl (Z 41 0))] [.inl (Z17 41 x2), .inl (Z17 42 x2)] Z17 (zri Q))
            obtain ⟨c22, c23, v1, v2⟩ := v
            refine z_if2 (a := 0) (t := 116) (by rfl) (by rfl) c22 c23 (fun h24 => ?_) (fun h24 => ?_)
            · have v := v1 h24; clear v1 v2
              show TZ (d + 1) 61 116 [some (.inr 39), some (.inl x1), some (.inl x2), some (.inl (Z 41 ((Z 39 3) - 1))), some (.inl (Z 41 0))] [] Z17 (zri Q)
              refine z0 (op := 0) (a := 0) (b := 0) (by rfl) (by rfl) (?_ : TZ (d + 1) 61 117 [some (.inr 39), some (.inl x1), some (.inl x2), some (.inl (Z 41 ((Z 39 3) - 1))), some (.inl (Z 41 0))] [.inl 0] Z17 (zri Q))
              refine z0 (op := 7) (a := 1) (b := 0) (by rfl) (by rfl) (?_ : TZ (d + 1) 61 118 [some (.inr 39), some (.inl 0), some (.inl x2), some (.inl (Z 41 ((Z 39 3) - 1))), some (.inl (Z 41 0))] [] Z17 (zri Q))
              refine z0 (op := 11) (a := 2) (b := 1) (by rfl) (by rfl) (?_ : TZ (d + 1) 61 121 [some (.inr 39), some (.inl 0), some (.inl (x2 + 1)), some (.inl (Z 41 ((Z 39 3) - 1))), some (.inl (Z 41 0))] [] Z17 (zri Q))
              refine z_goto (t := 4) (by rfl) (by rfl) (?_ : TZ (d + 1) 61 4 [some (.inr 39), some (.inl 0), some (.inl (x2 + 1)), some (.inl (Z 41 ((Z 39 3) - 1))), some (.inl (Z 41 0))] [] Z17 (zri Q))
              exact v
            · have v := v2 h24; clear v1 v2
              show TZ (d + 1) 61 112 [some (.inr 39), some (.inl x1), some (.inl x2), some (.inl (Z 41 ((Z 39 3) - 1))), some (.inl (Z 41 0))] [] Z17 (zri Q)
              refine z0 (op := 0) (a := 0) (b := 1) (by rfl) (by rfl) (?_ : TZ (d + 1) 61 113 [some (.inr 39), some (.inl x1), some (.inl x2), some (.inl (Z 41 ((Z 39 3) - 1))), some (.inl (Z 41 0))] [.inl 1] Z17 (zri Q))
              refine z_goto (t := 117) (by rfl) (by rfl) (?_ : TZ (d + 1) 61 117 [some (.inr 39), some (.inl x1), some (.inl x2), some (.inl (Z 41 ((Z 39 3) - 1))), some (.inl (Z 41 0))] [.inl 1] Z17 (zri Q))
              refine z0 (op := 7) (a := 1) (b := 0) (by rfl) (by rfl) (?_ : TZ (d + 1) 61 118 [some (.inr 39), some (.inl 1), some (.inl x2), some (.inl (Z 41 ((Z 39 3) - 1))), some (.inl (Z 41 0))] [] Z17 (zri Q))
              refine z0 (op := 11) (a := 2) (b := 1) (by rfl) (by rfl) (?_ : TZ (d + 1) 61 121 [some (.inr 39), some (.inl 1), some (.inl (x2 + 1)), some (.inl (Z 41 ((Z 39 3) - 1))), some (.inl (Z 41 0))] [] Z17 (zri Q))
              refine z_goto (t := 4) (by rfl) (by rfl) (?_ : TZ (d + 1) 61 4 [some (.inr 39), some (.inl 1), some (.inl (x2 + 1)), some (.inl (Z 41 ((Z 39 3) - 1))), some (.inl (Z 41 0))] [] Z17 (zri Q))
              exact v
        · have v := v2 h12; clear v1 v2
          show TZ (d + 1) 61 71 [some (.inr 39), some (.inl x1), some (.inl x2), some (.inl (Z 41 ((Z 39 3) - 1))), some (.inl (Z 41 0))] [.inl x2, .inr 42] Z (zri Q)
          refine z0 (op := 5) (a := 0) (b := 0) (by rfl) (by rfl) (?_ : TZ (d + 1) 61 72 [some (.inr 39), some (.inl x1), some (.inl x2), some (.inl (Z 41 ((Z 39 3) - 1))), some (.inl (Z 41 0))] [.inr 39, .inl x2, .inr 42] Z (zri Q))
          refine z_fr (by rfl) fr45_39 (?_ : TZ (d + 1) 61 75 [some (.inr 39), some (.inl x1), some (.inl x2), some (.inl (Z 41 ((Z 39 3) - 1))), some (.inl (Z 41 0))] [.inr 41, .inl x2, .inr 42] Z (zri Q))
          refine z0 (op := 3) (a := 2) (b := 0) (by rfl) (by rfl) (?_ : TZ (d + 1) 61 76 [some (.inr 39), some (.inl x1), some (.inl x2), some (.inl (Z 41 ((Z 39 3) - 1))), some (.inl (Z 41 0))] [.inl x2, .inr 41, .inl x2, .inr 42] Z (zri Q))
          obtain ⟨c25, v⟩ := v
          refine z_al (by rfl) ln_41 c25 (?_ : TZ (d + 1) 61 77 [some (.inr 39), some (.inl x1), some (.inl x2), some (.inl (Z 41 ((Z 39 3) - 1))), some (.inl (Z 41 0))] [.inl (Z 41 x2), .inl x2, .inr 42] Z (zri Q))
          refine z_goto (t := 92) (by rfl) (by rfl) (?_ : TZ (d + 1) 61 92 [some (.inr 39), some (.inl x1), some (.inl x2), some (.inl (Z 41 ((Z 39 3) - 1))), some (.inl (Z 41 0))] [.inl (Z 41 x2), .inl x2, .inr 42] Z (zri Q))
          obtain ⟨c26, v⟩ := v
          obtain ⟨Z27, eZ27⟩ : ∃ zz, zz = zup Z 42 x2 (Z 41 x2) := ⟨_, rfl⟩
          have v := v Z27 eZ27
          refine z_as (by rfl) ln_42 c26 ?_
          show TZ (d + 1) 61 93 [some (.inr 39), some (.inl x1), some (.inl x2), some (.inl (Z 41 ((Z 39 3) - 1))), some (.inl (Z 41 0))] [] (zup Z 42 x2 (Z 41 x2)) _
          rw [← eZ27]
          refine z0 (op := 3) (a := 1) (b := 0) (by rfl) (by rfl) (?_ : TZ (d + 1) 61 94 [some (.inr 39), some (.inl x1), some (.inl x2), some (.inl (Z 41 ((Z 39 3) - 1))), some (.inl (Z 41 0))] [.inl x1] Z27 (zri Q))
          obtain ⟨c28, v1, v2⟩ := v
          refine z_if0 (a := 1) (t := 112) (by rfl) (by rfl) c28 (fun h29 => ?_) (fun h29 => ?_)
          · have v := v1 h29; clear v1 v2
            show TZ (d + 1) 61 112 [some (.inr 39), some (.inl x1), some (.inl x2), some (.inl (Z 41 ((Z 39 3) - 1))), some (.inl (Z 41 0))] [] Z27 (zri Q)
            refine z0 (op := 0) (a := 0) (b := 1) (by rfl) (by rfl) (?_ : TZ (d + 1) 61 113 [some (.inr 39), some (.inl x1), some (.inl x2), some (.inl (Z 41 ((Z 39 3) - 1))), some (.inl (Z 41 0))] [.inl 1] Z27 (zri Q))
            refine z_goto (t := 117) (by rfl) (by rfl) (?_ : TZ (d + 1) 61 117 [some (.inr 39), some (.inl x1), some (.inl x2), some (.inl (Z 41 ((Z 39 3) - 1))), some (.inl (Z 41 0))] [.inl 1] Z27 (zri Q))
            refine z0 (op := 7) (a := 1) (b := 0) (by rfl) (by rfl) (?_ : TZ (d + 1) 61 118 [some (.inr 39), some (.inl 1), some (.inl x2), some (.inl (Z 41 ((Z 39 3) - 1))), some (.inl (Z 41 0))] [] Z27 (zri Q))
            refine z0 (op := 11) (a := 2) (b := 1) (by rfl) (by rfl) (?_ : TZ (d + 1) 61 121 [some (.inr 39), some (.inl 1), some (.inl (x2 + 1)), some (.inl (Z 41 ((Z 39 3) - 1))), some (.inl (Z 41 0))] [] Z27 (zri Q))
            refine z_goto (t := 4) (by rfl) (by rfl) (?_ : TZ (d + 1) 61 4 [some (.inr 39), some (.inl 1), some (.inl (x2 + 1)), some (.inl (Z 41 ((Z 39 3) - 1))), some (.inl (Z 41 0))] [] Z27 (zri Q))
            exact v
          · have v := v2 h29; clear v1 v2
            show TZ (d + 1) 61 97 [some (.inr 39), some (.inl x1), some (.inl x2), some (.inl (Z 41 ((Z 39 3) - 1))), some (.inl (Z 41 0))] [] Z27 (zri Q)
            refine z0 (op := 5) (a := 0) (b := 0) (by rfl) (by rfl) (?_ : TZ (d + 1) 61 98 [some (.inr 39), some (.inl x1), some (.inl x2), some (.inl (Z 41 ((Z 39 3) - 1))), some (.inl (Z 41 0))] [.inr 39] Z27 (zri Q))
            refine z_fr (by rfl) fr46_39 (?_ : TZ (d + 1) 61 101 [some (.inr 39), some (.inl x1), some (.inl x2), some (.inl (Z 41 ((Z 39 3) - 1))), some (.inl (Z 41 0))] [.inr 42] Z27 (zri Q))
            refine z0 (op := 3) (a := 2) (b := 0) (by rfl) (by rfl) (?_ : TZ (d + 1) 61 102 [some (.inr 39), some (.inl x1), some (.inl x2), some (.inl (Z 41 ((Z 39 3) - 1))), some (.inl (Z 41 0))] [.inl x2, .inr 42] Z27 (zri Q))
            obtain ⟨c30, v⟩ := v
            refine z_al (by rfl) ln_42 c30 (?_ : TZ (d + 1) 61 103 [some (.inr 39), some (.inl x1), some (.inl x2), some (.inl (Z 41 ((Z 39 3) - 1))), some (.inl (Z 41 0))] [.inl (Z27 42 x2)] Z27 (zri Q))
            refine z0 (op := 5) (a := 0) (b := 0) (by rfl) (by rfl) (?_ : TZ (d + 1) 61 104 [some (.inr 39), some (.inl x1), some (.inl x2), some (.inl (Z 41 ((Z 39 3) - 1))), some (.inl (Z 41 0))] [.inr 39, .inl (Z27 42 x2)] Z27 (zri Q))
            refine z_fr (by rfl) fr45_39 (?_ : TZ (d + 1) 61 107 [some (.inr 39), some (.inl x1), some (.inl x2), some (.inl (Z 41 ((Z 39 3) - 1))), some (.inl (Z 41 0))] [.inr 41, .inl (Z27 42 x2)] Z27 (zri Q))
            refine z0 (op := 3) (a := 2) (b := 0) (by rfl) (by rfl) (?_ : TZ (d + 1) 61 108 [some (.inr 39), some (.inl x1), some (.inl x2), some (.inl (Z 41 ((Z 39 3) - 1))), some (.inl (Z 41 0))] [.inl x2, .inr 41, .inl (Z27 42 x2)] Z27 (zri Q))
            obtain ⟨c31, v⟩ := v
            refine z_al (by rfl) ln_41 c31 (?_ : TZ (d + 1) 61 109 [some (.inr 39), some (.inl x1), some (.inl x2), some (.inl (Z 41 ((Z 39 3) - 1))), some (.inl (Z 41 0))] [.inl (Z27 41 x2), .inl (Z27 42 x2)] Z27 (zri Q))
            obtain ⟨c32, c33, v1, v2⟩ := v
            refine z_if2 (a := 0) (t := 116) (by rfl) (by rfl) c32 c33 (fun h34 => ?_) (fun h34 => ?_)
            · have v := v1 h34; clear v1 v2
              show TZ (d + 1) 61 116 [some (.inr 39), some (.inl x1), some (.inl x2), some (.inl (Z 41 ((Z 39 3) - 1))), some (.inl (Z 41 0))] [] Z27 (zri Q)
              refine z0 (op := 0) (a := 0) (b := 0) (by rfl) (by rfl) (?_ : TZ (d + 1) 61 117 [some (.inr 39), some (.inl x1), some (.inl x2), some (.inl (Z 41 ((Z 39 3) - 1))), some (.inl (Z 41 0))] [.inl 0] Z27 (zri Q))
              refine z0 (op := 7) (a := 1) (b := 0) (by rfl) (by rfl) (?_ : TZ (d + 1) 61 118 [some (.inr 39), some (.inl 0), some (.inl x2), some (.inl (Z 41 ((Z 39 3) - 1))), some (.inl (Z 41 0))] [] Z27 (zri Q))
              refine z0 (op := 11) (a := 2) (b := 1) (by rfl) (by rfl) (?_ : TZ (d + 1) 61 121 [some (.inr 39), some (.inl 0), some (.inl (x2 + 1)), some (.inl (Z 41 ((Z 39 3) - 1))), some (.inl (Z 41 0))] [] Z27 (zri Q))
              refine z_goto (t := 4) (by rfl) (by rfl) (?_ : TZ (d + 1) 61 4 [some (.inr 39), some (.inl 0), some (.inl (x2 + 1)), some (.inl (Z 41 ((Z 39 3) - 1))), some (.inl (Z 41 0))] [] Z27 (zri Q))
              exact v
            · have v := v2 h34; clear v1 v2
              show TZ (d + 1) 61 112 [some (.inr 39), some (.inl x1), some (.inl x2), some (.inl (Z 41 ((Z 39 3) - 1))), some (.inl (Z 41 0))] [] Z27 (zri Q)
              refine z0 (op := 0) (a := 0) (b := 1) (by rfl) (by rfl) (?_ : TZ (d + 1) 61 113 [some (.inr 39), some (.inl x1), some (.inl x2), some (.inl (Z 41 ((Z 39 3) - 1))), some (.inl (Z 41 0))] [.inl 1] Z27 (zri Q))
              refine z_goto (t := 117) (by rfl) (by rfl) (?_ : TZ (d + 1) 61 117 [some (.inr 39), some (.inl x1), some (.inl x2), some (.inl (Z 41 ((Z 39 3) - 1))), some (.inl (Z 41 0))] [.inl 1] Z27 (zri Q))
              refine z0 (op := 7) (a := 1) (b := 0) (by rfl) (by rfl) (?_ : TZ (d + 1) 61 118 [some (.inr 39), some (.inl 1), some (.inl x2), some (.inl (Z 41 ((Z 39 3) - 1))), some (.inl (Z 41 0))] [] Z27 (zri Q))
              refine z0 (op := 11) (a := 2) (b := 1) (by rfl) (by rfl) (?_ : TZ (d + 1) 61 121 [some (.inr 39), some (.inl 1), some (.inl (x2 + 1)), some (.inl (Z 41 ((Z 39 3) - 1))), some (.inl (Z 41 0))] [] Z27 (zri Q))
              refine z_goto (t := 4) (by rfl) (by rfl) (?_ : TZ (d + 1) 61 4 [some (.inr 39), some (.inl 1), some (.inl (x2 + 1)), some (.inl (Z 41 ((Z 39 3) - 1))), some (.inl (Z 41 0))] [] Z27 (zri Q))
              exact v
      · have v := v2 h10; clear v1 v2
        show TZ (d + 1) 61 48 [some (.inr 39), some (.inl x1), some (.inl x2), some (.inl (Z 41 ((Z 39 3) - 1))), o4] [.inr 41] Z (zri Q)
        refine z0 (op := 3) (a := 2) (b := 0) (by rfl) (by rfl) (?_ : TZ (d + 1) 61 49 [some (.inr 39), some (.inl x1), some (.inl x2), some (.inl (Z 41 ((Z 39 3) - 1))), o4] [.inl x2, .inr 41] Z (zri Q))
        refine z0 (op := 0) (a := 0) (b := 1) (by rfl) (by rfl) (?_ : TZ (d + 1) 61 50 [some (.inr 39), some (.inl x1), some (.inl x2), some (.inl (Z 41 ((Z 39 3) - 1))), o4] [.inl 1, .inl x2, .inr 41] Z (zri Q))
        refine z0 (op := 12) (a := 0) (b := 0) (by rfl) (by rfl) (?_ : TZ (d + 1) 61 51 [some (.inr 39), some (.inl x1), some (.inl x2), some (.inl (Z 41 ((Z 39 3) - 1))), o4] [.inl (x2 + 1), .inr 41] Z (zri Q))
        refine z_goto (t := 55) (by rfl) (by rfl) (?_ : TZ (d + 1) 61 55 [some (.inr 39), some (.inl x1), some (.inl x2), some (.inl (Z 41 ((Z 39 3) - 1))), o4] [.inl (x2 + 1), .inr 41] Z (zri Q))
        obtain ⟨c35, v⟩ := v
        refine z_al (by rfl) ln_41 c35 (?_ : TZ (d + 1) 61 56 [some (.inr 39), some (.inl x1), some (.inl x2), some (.inl (Z 41 ((Z 39 3) - 1))), o4] [.inl (Z 41 (x2 + 1))] Z (zri Q))
        refine z0 (op := 8) (a := 4) (b := 0) (by rfl) (by rfl) (?_ : TZ (d + 1) 61 58 [some (.inr 39), some (.inl x1), some (.inl x2), some (.inl (Z 41 ((Z 39 3) - 1))), some (.inl (Z 41 (x2 + 1)))] [] Z (zri Q))
        refine z0 (op := 5) (a := 0) (b := 0) (by rfl) (by rfl) (?_ : TZ (d + 1) 61 59 [some (.inr 39), some (.inl x1), some (.inl x2), some (.inl (Z 41 ((Z 39 3) - 1))), some (.inl (Z 41 (x2 + 1)))] [.inr 39] Z (zri Q))
        refine z_fr (by rfl) fr46_39 (?_ : TZ (d + 1) 61 62 [some (.inr 39), some (.inl x1), some (.inl x2), some (.inl (Z 41 ((Z 39 3) - 1))), some (.inl (Z 41 (x2 + 1)))] [.inr 42] Z (zri Q))
        refine z0 (op := 3) (a := 2) (b := 0) (by rfl) (by rfl) (?_ : TZ (d + 1) 61 63 [some (.inr 39), some (.inl x1), some (.inl x2), some (.inl (Z 41 ((Z 39 3) - 1))), some (.inl (Z 41 (x2 + 1)))] [.inl x2, .inr 42] Z (zri Q))
        refine z0 (op := 5) (a := 0) (b := 0) (by rfl) (by rfl) (?_ : TZ (d + 1) 61 64 [some (.inr 39), some (.inl x1), some (.inl x2), some (.inl (Z 41 ((Z 39 3) - 1))), some (.inl (Z 41 (x2 + 1)))] [.inr 39, .inl x2, .inr 42] Z (zri Q))
        refine z_fi (by rfl) fi47_39 (?_ : TZ (d + 1) 61 67 [some (.inr 39), some (.inl x1), some (.inl x2), some (.inl (Z 41 ((Z 39 3) - 1))), some (.inl (Z 41 (x2 + 1)))] [.inl (Z 39 3), .inl x2, .inr 42] Z (zri Q))
        refine z0 (op := 0) (a := 0) (b := 3) (by rfl) (by rfl) (?_ : TZ (d + 1) 61 68 [some (.inr 39), some (.inl x1), some (.inl x2), some (.inl (Z 41 ((Z 39 3) - 1))), some (.inl (Z 41 (x2 + 1)))] [.inl 3, .inl (Z 39 3), .inl x2, .inr 42] Z (zri Q))
        obtain ⟨c36, v1, v2⟩ := v
        refine z_if2 (a := 3) (t := 80) (by rfl) (by rfl) c36 (by decide) (fun h37 => ?_) (fun h37 => ?_)
        · have v := v1 h37; clear v1 v2
          show TZ (d + 1) 61 80 [some (.inr 39), some (.inl x1), some (.inl x2), some (.inl (Z 41 ((Z 39 3) - 1))), some (.inl (Z 41 (x2 + 1)))] [.inl x2, .inr 42] Z (zri Q)
          refine z0 (op := 3) (a := 3) (b := 0) (by rfl) (by rfl) (?_ : TZ (d + 1) 61 81 [some (.inr 39), some (.inl x1), some (.inl x2), some (.inl (Z 41 ((Z 39 3) - 1))), some (.inl (Z 41 (x2 + 1)))] [.inl (Z 41 ((Z 39 3) - 1)), .inl x2, .inr 42] Z (zri Q))
          refine z0 (op := 5) (a := 0) (b := 0) (by rfl) (by rfl) (?_ : TZ (d + 1) 61 82 [some (.inr 39), some (.inl x1), some (.inl x2), some (.inl (Z 41 ((Z 39 3) - 1))), some (.inl (Z 41 (x2 + 1)))] [.inr 39, .inl (Z 41 ((Z 39 3) - 1)), .inl x2, .inr 42] Z (zri Q))
          refine z_fr (by rfl) fr45_39 (?_ : TZ (d + 1) 61 85 [some (.inr 39), some (.inl x1), some (.inl x2), some (.inl (Z 41 ((Z 39 3) - 1))), some (.inl (Z 41 (x2 + 1)))] [.inr 41, .inl (Z 41 ((Z 39 3) - 1)), .inl x2, .inr 42] Z (zri Q))
          refine z0 (op := 3) (a := 2) (b := 0) (by rfl) (by rfl) (?_ : TZ (d + 1) 61 86 [some (.inr 39), some (.inl x1), some (.inl x2), some (.inl (Z 41 ((Z 39 3) - 1))), some (.inl (Z 41 (x2 + 1)))] [.inl x2, .inr 41, .inl (Z 41 ((Z 39 3) - 1)), .inl x2, .inr 42] Z (zri Q))
          obtain ⟨c38, v⟩ := v
          refine z_al (by rfl) ln_41 c38 (?_ : TZ (d + 1) 61 87 [some (.inr 39), some (.inl x1), some (.inl x2), some (.inl (Z 41 ((Z 39 3) - 1))), some (.inl (Z 41 (x2 + 1)))] [.inl (Z 41 x2), .inl (Z 41 ((Z 39 3) - 1)), .inl x2, .inr 42] Z (zri Q))
          refine z0 (op := 4) (a := 4) (b := 0) (by rfl) (by rfl) (?_ : TZ (d + 1) 61 89 [some (.inr 39), some (.inl x1), some (.inl x2), some (.inl (Z 41 ((Z 39 3) - 1))), some (.inl (Z 41 (x2 + 1)))] [.inl (Z 41 (x2 + 1)), .inl (Z 41 x2), .inl (Z 41 ((Z 39 3) - 1)), .inl x2, .inr 42] Z (zri Q))
          refine z_si (by rfl) (by rfl) (TI.mono v fun r40 Z39 v => ?_)
          show TZ (d + 1) 61 92 [some (.inr 39), some (.inl x1), some (.inl x2), some (.inl (Z 41 ((Z 39 3) - 1))), some (.inl (Z 41 (x2 + 1)))] [.inl r40, .inl x2, .inr 42] Z39 (zri Q)
          obtain ⟨c41, v⟩ := v
          obtain ⟨Z42, eZ42⟩ : ∃ zz, zz = zup Z39 42 x2 r40 := ⟨_, rfl⟩
          have v := v Z42 eZ42
          refine z_as (by rfl) ln_42 c41 ?_
          show TZ (d + 1) 61 93 [some (.inr 39), some (.inl x1), some (.inl x2), some (.inl (Z 41 ((Z 39 3) - 1))), some (.inl (Z 41 (x2 + 1)))] [] (zup Z39 42 x2 r40) _
          rw [← eZ42]
          refine z0 (op := 3) (a := 1) (b := 0) (by rfl) (by rfl) (?_ : TZ (d + 1) 61 94 [some (.inr 39), some (.inl x1), some (.inl x2), some (.inl (Z 41 ((Z 39 3) - 1))), some (.inl (Z 41 (x2 + 1)))] [.inl x1] Z42 (zri Q))
          obtain ⟨c43, v1, v2⟩ := v
          refine z_if0 (a := 1) (t := 112) (by rfl) (by rfl) c43 (fun h44 => ?_) (fun h44 => ?_)
          · have v := v1 h44; clear v1 v2
            show TZ (d + 1) 61 112 [some (.inr 39), some (.inl x1), some (.inl x2), some (.inl (Z 41 ((Z 39 3) - 1))), some (.inl (Z 41 (x2 + 1)))] [] Z42 (zri Q)
            refine z0 (op := 0) (a := 0) (b := 1) (by rfl) (by rfl) (?_ : TZ (d + 1) 61 113 [some (.inr 39), some (.inl x1), some (.inl x2), some (.inl (Z 41 ((Z 39 3) - 1))), some (.inl (Z 41 (x2 + 1)))] [.inl 1] Z42 (zri Q))
            refine z_goto (t := 117) (by rfl) (by rfl) (?_ : TZ (d + 1) 61 117 [some (.inr 39), some (.inl x1), some (.inl x2), some (.inl (Z 41 ((Z 39 3) - 1))), some (.inl (Z 41 (x2 + 1)))] [.inl 1] Z42 (zri Q))
            refine z0 (op := 7) (a := 1) (b := 0) (by rfl) (by rfl) (?_ : TZ (d + 1) 61 118 [some (.inr 39), some (.inl 1), some (.inl x2), some (.inl (Z 41 ((Z 39 3) - 1))), some (.inl (Z 41 (x2 + 1)))] [] Z42 (zri Q))
            refine z0 (op := 11) (a := 2) (b := 1) (by rfl) (by rfl) (?_ : TZ (d + 1) 61 121 [some (.inr 39), some (.inl 1), some (.inl (x2 + 1)), some (.inl (Z 41 ((Z 39 3) - 1))), some (.inl (Z 41 (x2 + 1)))] [] Z42 (zri Q))
            refine z_goto (t := 4) (by rfl) (by rfl) (?_ : TZ (d + 1) 61 4 [some (.inr 39), some (.inl 1), some (.inl (x2 + 1)), some (.inl (Z 41 ((Z 39 3) - 1))), some (.inl (Z 41 (x2 + 1)))] [] Z42 (zri Q))
            exact v
          · have v := v2 h44; clear v1 v2
            show TZ (d + 1) 61 97 [some (.inr 39), some (.inl x1), some (.inl x2), some (.inl (Z 41 ((Z 39 3) - 1))), some (.inl (Z 41 (x2 + 1)))] [] Z42 (zri Q)
            refine z0 (op := 5) (a := 0) (b := 0) (by rfl) (by rfl) (?_ : TZ (d + 1) 61 98 [some (.inr 39), some (.inl x1), some (.inl x2), some (.inl (Z 41 ((Z 39 3) - 1))), some (.inl (Z 41 (x2 + 1)))] [.inr 39] Z42 (zri Q))
            refine z_fr (by rfl) fr46_39 (?_ : TZ (d + 1) 61 101 [some (.inr 39), some (.inl x1), some (.inl x2), some (.inl (Z 41 ((Z 39 3) - 1))), some (.inl (Z 41 (x2 + 1)))] [.inr 42] Z42 (zri Q))
            refine z0 (op := 3) (a := 2) (b := 0) (by rfl) (by rfl) (?_ : TZ (d + 1) 61 102 [some (.inr 39), some (.inl x1), some (.inl x2), some (.inl (Z 41 ((Z 39 3) - 1))), some (.inl (Z 41 (x2 + 1)))] [.inl x2, .inr 42] Z42 (zri Q))
            obtain ⟨c45, v⟩ := v
            refine z_al (by rfl) ln_42 c45 (?_ : TZ (d + 1) 61 103 [some (.inr 39), some (.inl x1), some (.inl x2), some (.inl (Z 41 ((Z 39 3) - 1))), some (.inl (Z 41 (x2 + 1)))] [.inl (Z42 42 x2)] Z42 (zri Q))
            refine z0 (op := 5) (a := 0) (b := 0) (by rfl) (by rfl) (?_ : TZ (d + 1) 61 104 [some (.inr 39), some (.inl x1), some (.inl x2), some (.inl (Z 41 ((Z 39 3) - 1))), some (.inl (Z 41 (x2 + 1)))] [.inr 39, .inl (Z42 42 x2)] Z42 (zri Q))
            refine z_fr (by rfl) fr45_39 (?_ : TZ (d + 1) 61 107 [some (.inr 39), some (.inl x1), some (.inl x2), some (.inl (Z 41 ((Z 39 3) - 1))), some (.inl (Z 41 (x2 + 1)))] [.inr 41, .inl (Z42 42 x2)] Z42 (zri Q))
            refine z0 (op := 3) (a := 2) (b := 0) (by rfl) (by rfl) (?_ : TZ (d + 1) 61 108 [some (.inr 39), some (.inl x1), some (.inl x2), some (.inl (Z 41 ((Z 39 3) - 1))), some (.inl (Z 41 (x2 + 1)))] [.inl x2, .inr 41, .inl (Z42 42 x2)] Z42 (zri Q))
            obtain ⟨c46, v⟩ := v
            refine z_al (by rfl) ln_41 c46 (?_ : TZ (d + 1) 61 109 [some (.inr 39), some (.inl x1), some (.inl x2), some (.inl (Z 41 ((Z 39 3) - 1))), some (.inl (Z 41 (x2 + 1)))] [.inl (Z42 41 x2), .inl (Z42 42 x2)] Z42 (zri Q))
            obtain ⟨c47, c48, v1, v2⟩ := v
            refine z_if2 (a := 0) (t := 116) (by rfl) (by rfl) c47 c48 (fun h49 => ?_) (fun h49 => ?_)
            · have v := v1 h49; clear v1 v2
              show TZ (d + 1) 61 116 [some (.inr 39), some (.inl x1), some (.inl x2), some (.inl (Z 41 ((Z 39 3) - 1))), some (.inl (Z 41 (x2 + 1)))] [] Z42 (zri Q)
              refine z0 (op := 0) (a := 0) (b := 0) (by rfl) (by rfl) (?_ : TZ (d + 1) 61 117 [some (.inr 39), some (.inl x1), some (.inl x2), some (.inl (Z 41 ((Z 39 3) - 1))), some (.inl (Z 41 (x2 + 1)))] [.inl 0] Z42 (zri Q))
              refine z0 (op := 7) (a := 1) (b := 0) (by rfl) (by rfl) (?_ : TZ (d + 1) 61 118 [some (.inr 39), some (.inl 0), some (.inl x2), some (.inl (Z 41 ((Z 39 3) - 1))), some (.inl (Z 41 (x2 + 1)))] [] Z42 (zri Q))
              refine z0 (op := 11) (a := 2) (b := 1) (by rfl) (by rfl) (?_ : TZ (d + 1) 61 121 [some (.inr 39), some (.inl 0), some (.inl (x2 + 1)), some (.inl (Z 41 ((Z 39 3) - 1))), some (.inl (Z 41 (x2 + 1)))] [] Z42 (zri Q))
              refine z_goto (t := 4) (by rfl) (by rfl) (?_ : TZ (d + 1) 61 4 [some (.inr 39), some (.inl 0), some (.inl (x2 + 1)), some (.inl (Z 41 ((Z 39 3) - 1))), some (.inl (Z 41 (x2 + 1)))] [] Z42 (zri Q))
              exact v
            · have v := v2 h49; clear v1 v2
              show TZ (d + 1) 61 112 [some (.inr 39), some (.inl x1), some (.inl x2), some (.inl (Z 41 ((Z 39 3) - 1))), some (.inl (Z 41 (x2 + 1)))] [] Z42 (zri Q)
              refine z0 (op := 0) (a := 0) (b := 1) (by rfl) (by rfl) (?_ : TZ (d + 1) 61 113 [some (.inr 39), some (.inl x1), some (.inl x2), some (.inl (Z 41 ((Z 39 3) - 1))), some (.inl (Z 41 (x2 + 1)))] [.inl 1] Z42 (zri Q))
              refine z_goto (t := 117) (by rfl) (by rfl) (?_ : TZ (d + 1) 61 117 [some (.inr 39), some (.inl x1), some (.inl x2), some (.inl (Z 41 ((Z 39 3) - 1))), some (.inl (Z 41 (x2 + 1)))] [.inl 1] Z42 (zri Q))
              refine z0 (op := 7) (a := 1) (b := 0) (by rfl) (by rfl) (?_ : TZ (d + 1) 61 118 [some (.inr 39), some (.inl 1), some (.inl x2), some (.inl (Z 41 ((Z 39 3) - 1))), some (.inl (Z 41 (x2 + 1)))] [] Z42 (zri Q))
              refine z0 (op := 11) (a := 2) (b := 1) (by rfl) (by rfl) (?_ : TZ (d + 1) 61 121 [some (.inr 39), some (.inl 1), some (.inl (x2 + 1)), some (.inl (Z 41 ((Z 39 3) - 1))), some (.inl (Z 41 (x2 + 1)))] [] Z42 (zri Q))
              refine z_goto (t := 4) (by rfl) (by rfl) (?_ : TZ (d + 1) 61 4 [some (.inr 39), some (.inl 1), some (.inl (x2 + 1)), some (.inl (Z 41 ((Z 39 3) - 1))), some (.inl (Z 41 (x2 + 1)))] [] Z42 (zri Q))
              exact v
        · have v := v2 h37; clear v1 v2
          show TZ (d + 1) 61 71 [some (.inr 39), some (.inl x1), some (.inl x2), some (.inl (Z 41 ((Z 39 3) - 1))), some (.inl (Z 41 (x2 + 1)))] [.inl x2, .inr 42] Z (zri Q)
          refine z0 (op := 5) (a := 0) (b := 0) (by rfl) (by rfl) (?_ : TZ (d + 1) 61 72 [some (.inr 39), some (.inl x1), some (.inl x2), some (.inl (Z 41 ((Z 39 3) - 1))), some (.inl (Z 41 (x2 + 1)))] [.inr 39, .inl x2, .inr 42] Z (zri Q))
          refine z_fr (by rfl) fr45_39 (?_ : TZ (d + 1) 61 75 [some (.inr 39), some (.inl x1), some (.inl x2), some (.inl (Z 41 ((Z 39 3) - 1))), some (.inl (Z 41 (x2 + 1)))] [.inr 41, .inl x2, .inr 42] Z (zri Q))
          refine z0 (op := 3) (a := 2) (b := 0) (by rfl) (by rfl) (?_ : TZ (d + 1) 61 76 [some (.inr 39), some (.inl x1), some (.inl x2), some (.inl (Z 41 ((Z 39 3) - 1))), some (.inl (Z 41 (x2 + 1)))] [.inl x2, .inr 41, .inl x2, .inr 42] Z (zri Q))
          obtain ⟨c50, v⟩ := v
          refine z_al (by rfl) ln_41 c50 (?_ : TZ (d + 1) 61 77 [some (.inr 39), some (.inl x1), some (.inl x2), some (.inl (Z 41 ((Z 39 3) - 1))), some (.inl (Z 41 (x2 + 1)))] [.inl (Z 41 x2), .inl x2, .inr 42] Z (zri Q))
          refine z_goto (t := 92) (by rfl) (by rfl) (?_ : TZ (d + 1) 61 92 [some (.inr 39), some (.inl x1), some (.inl x2), some (.inl (Z 41 ((Z 39 3) - 1))), some (.inl (Z 41 (x2 + 1)))] [.inl (Z 41 x2), .inl x2, .inr 42] Z (zri Q))
          obtain ⟨c51, v⟩ := v
          obtain ⟨Z52, eZ52⟩ : ∃ zz, zz = zup Z 42 x2 (Z 41 x2) := ⟨_, rfl⟩
          have v := v Z52 eZ52
          refine z_as (by rfl) ln_42 c51 ?_
          show TZ (d + 1) 61 93 [some (.inr 39), some (.inl x1), some (.inl x2), some (.inl (Z 41 ((Z 39 3) - 1))), some (.inl (Z 41 (x2 + 1)))] [] (zup Z 42 x2 (Z 41 x2)) _
          rw [← eZ52]
          refine z0 (op := 3) (a := 1) (b := 0) (by rfl) (by rfl) (?_ : TZ (d + 1) 61 94 [some (.inr 39), some (.inl x1), some (.inl x2), some (.inl (Z 41 ((Z 39 3) - 1))), some (.inl (Z 41 (x2 + 1)))] [.inl x1] Z52 (zri Q))
          obtain ⟨c53, v1, v2⟩ := v
          refine z_if0 (a := 1) (t := 112) (by rfl) (by rfl) c53 (fun h54 => ?_) (fun h54 => ?_)
          · have v := v1 h54; clear v1 v2
            show TZ (d + 1) 61 112 [some (.inr 39), some (.inl x1), some (.inl x2), some (.inl (Z 41 ((Z 39 3) - 1))), some (.inl (Z 41 (x2 + 1)))] [] Z52 (zri Q)
            refine z0 (op := 0) (a := 0) (b := 1) (by rfl) (by rfl) (?_ : TZ (d + 1) 61 113 [some (.inr 39), some (.inl x1), some (.inl x2), some (.inl (Z 41 ((Z 39 3) - 1))), some (.inl (Z 41 (x2 + 1)))] [.inl 1] Z52 (zri Q))
            refine z_goto (t := 117) (by rfl) (by rfl) (?_ : TZ (d + 1) 61 117 [some (.inr 39), some (.inl x1), some (.inl x2), some (.inl (Z 41 ((Z 39 3) - 1))), some (.inl (Z 41 (x2 + 1)))] [.inl 1] Z52 (zri Q))
            refine z0 (op := 7) (a := 1) (b := 0) (by rfl) (by rfl) (?_ : TZ (d + 1) 61 118 [some (.inr 39), some (.inl 1), some (.inl x2), some (.inl (Z 41 ((Z 39 3) - 1))), some (.inl (Z 41 (x2 + 1)))] [] Z52 (zri Q))
            refine z0 (op := 11) (a := 2) (b := 1) (by rfl) (by rfl) (?_ : TZ (d + 1) 61 121 [some (.inr 39), some (.inl 1), some (.inl (x2 + 1)), some (.inl (Z 41 ((Z 39 3) - 1))), some (.inl (Z 41 (x2 + 1)))] [] Z52 (zri Q))
            refine z_goto (t := 4) (by rfl) (by rfl) (?_ : TZ (d + 1) 61 4 [some (.inr 39), some (.inl 1), some (.inl (x2 + 1)), some (.inl (Z 41 ((Z 39 3) - 1))), some (.inl (Z 41 (x2 + 1)))] [] Z52 (zri Q))
            exact v
          · have v := v2 h54; clear v1 v2
            show TZ (d + 1) 61 97 [some (.inr 39), some (.inl x1), some (.inl x2), some (.inl (Z 41 ((Z 39 3) - 1))), some (.inl (Z 41 (x2 + 1)))] [] Z52 (zri Q)
            refine z0 (op := 5) (a := 0) (b := 0) (by rfl) (by rfl) (?_ : TZ (d + 1) 61 98 [some (.inr 39), some (.inl x1), some (.inl x2), some (.inl (Z 41 ((Z 39 3) - 1))), some (.inl (Z 41 (x2 + 1)))] [.inr 39] Z52 (zri Q))
            refine z_fr (by rfl) fr46_39 (?_ : TZ (d + 1) 61 101 [some (.inr 39), some (.inl x1), some (.inl x2), some (.inl (Z 41 ((Z 39 3) - 1))), some (.inl (Z 41 (x2 + 1)))] [.inr 42] Z52 (zri Q))
            refine z0 (op := 3) (a := 2) (b := 0) (by rfl) (by rfl) (?_ : TZ (d + 1) 61 102 [some (.inr 39), some (.inl x1), some (.inl x2), some (.inl (Z 41 ((Z 39 3) - 1))), some (.inl (Z 41 (x2 + 1)))] [.inl x2, .inr 42] Z52 (zri Q))
            obtain ⟨c55, v⟩ := v
            refine z_al (by rfl) ln_42 c55 (?_ : TZ (d + 1) 61 103 [some (.inr 39), some (.inl x1), some (.inl x2), some (.inl (Z 41 ((Z 39 3) - 1))), some (.inl (Z 41 (x2 + 1)))] [.inl (Z52 42 x2)] Z52 (zri Q))
            refine z0 (op := 5) (a := 0) (b := 0) (by rfl) (by rfl) (?_ : TZ (d + 1) 61 104 [some (.inr 39), some (.inl x1), some (.inl x2), some (.inl (Z 41 ((Z 39 3) - 1))), some (.inl (Z 41 (x2 + 1)))] [.inr 39, .inl (Z52 42 x2)] Z52 (zri Q))
            refine z_fr (by rfl) fr45_39 (?_ : TZ (d + 1) 61 107 [some (.inr 39), some (.inl x1), some (.inl x2), some (.inl (Z 41 ((Z 39 3) - 1))), some (.inl (Z 41 (x2 + 1)))] [.inr 41, .inl (Z52 42 x2)] Z52 (zri Q))
            refine z0 (op := 3) (a := 2) (b := 0) (by rfl) (by rfl) (?_ : TZ (d + 1) 61 108 [some (.inr 39), some (.inl x1), some (.inl x2), some (.inl (Z 41 ((Z 39 3) - 1))), some (.inl (Z 41 (x2 + 1)))] [.inl x2, .inr 41, .inl (Z52 42 x2)] Z52 (zri Q))
            obtain ⟨c56, v⟩ := v
            refine z_al (by rfl) ln_41 c56 (?_ : TZ (d + 1) 61 109 [some (.inr 39), some (.inl x1), some (.inl x2), some (.inl (Z 41 ((Z 39 3) - 1))), some (.inl (Z 41 (x2 + 1)))] [.inl (Z52 41 x2), .inl (Z52 42 x2)] Z52 (zri Q))
            obtain ⟨c57, c58, v1, v2⟩ := v
            refine z_if2 (a := 0) (t := 116) (by rfl) (by rfl) c57 c58 (fun h59 => ?_) (fun h59 => ?_)
            · have v := v1 h59; clear v1 v2
              show TZ (d + 1) 61 116 [some (.inr 39), some (.inl x1), some (.inl x2), some (.inl (Z 41 ((Z 39 3) - 1))), some (.inl (Z 41 (x2 + 1)))] [] Z52 (zri Q)
              refine z0 (op := 0) (a := 0) (b := 0) (by rfl) (by rfl) (?_ : TZ (d + 1) 61 117 [some (.inr 39), some (.inl x1), some (.inl x2), some (.inl (Z 41 ((Z 39 3) - 1))), some (.inl (Z 41 (x2 + 1)))] [.inl 0] Z52 (zri Q))
              refine z0 (op := 7) (a := 1) (b := 0) (by rfl) (by rfl) (?_ : TZ (d + 1) 61 118 [some (.inr 39), some (.inl 0), some (.inl x2), some (.inl (Z 41 ((Z 39 3) - 1))), some (.inl (Z 41 (x2 + 1)))] [] Z52 (zri Q))
              refine z0 (op := 11) (a := 2) (b := 1) (by rfl) (by rfl) (?_ : TZ (d + 1) 61 121 [some (.inr 39), some (.inl 0), some (.inl (x2 + 1)), some (.inl (Z 41 ((Z 39 3) - 1))), some (.inl (Z 41 (x2 + 1)))] [] Z52 (zri Q))
              refine z_goto (t := 4) (by rfl) (by rfl) (?_ : TZ (d + 1) 61 4 [some (.inr 39), some (.inl 0), some (.inl (x2 + 1)), some (.inl (Z 41 ((Z 39 3) - 1))), some (.inl (Z 41 (x2 + 1)))] [] Z52 (zri Q))
              exact v
            · have v := v2 h59; clear v1 v2
              show TZ (d + 1) 61 112 [some (.inr 39), some (.inl x1), some (.inl x2), some (.inl (Z 41 ((Z 39 3) - 1))), some (.inl (Z 41 (x2 + 1)))] [] Z52 (zri Q)
              refine z0 (op := 0) (a := 0) (b := 1) (by rfl) (by rfl) (?_ : TZ (d + 1) 61 113 [some (.inr 39), some (.inl x1), some (.inl x2), some (.inl (Z 41 ((Z 39 3) - 1))), some (.inl (Z 41 (x2 + 1)))] [.inl 1] Z52 (zri Q))
              refine z_goto (t := 117) (by rfl) (by rfl) (?_ : TZ (d + 1) 61 117 [some (.inr 39), some (.inl x1), some (.inl x2), some (.inl (Z 41 ((Z 39 3) - 1))), some (.inl (Z 41 (x2 + 1)))] [.inl 1] Z52 (zri Q))
              refine z0 (op := 7) (a := 1) (b := 0) (by rfl) (by rfl) (?_ : TZ (d + 1) 61 118 [some (.inr 39), some (.inl 1), some (.inl x2), some (.inl (Z 41 ((Z 39 3) - 1))), some (.inl (Z 41 (x2 + 1)))] [] Z52 (zri Q))
              refine z0 (op := 11) (a := 2) (b := 1) (by rfl) (by rfl) (?_ : TZ (d + 1) 61 121 [some (.inr 39), some (.inl 1), some (.inl (x2 + 1)), some (.inl (Z 41 ((Z 39 3) - 1))), some (.inl (Z 41 (x2 + 1)))] [] Z52 (zri Q))
              refine z_goto (t := 4) (by rfl) (by rfl) (?_ : TZ (d + 1) 61 4 [some (.inr 39), some (.inl 1), some (.inl (x2 + 1)), some (.inl (Z 41 ((Z 39 3) - 1))), some (.inl (Z 41 (x2 + 1)))] [] Z52 (zri Q))
              exact v
    · have v := v2 h6; clear v1 v2
      show TZ (d + 1) 61 20 [some (.inr 39), some (.inl x1), some (.inl x2), o3, o4] [.inr 41] Z (zri Q)
      refine z0 (op := 3) (a := 2) (b := 0) (by rfl) (by rfl) (?_ : TZ (d + 1) 61 21 [some (.inr 39), some (.inl x1), some (.inl x2), o3, o4] [.inl x2, .inr 41] Z (zri Q))
      refine z0 (op := 0) (a := 0) (b := 1) (by rfl) (by rfl) (?_ : TZ (d + 1) 61 22 [some (.inr 39), some (.inl x1), some (.inl x2), o3, o4] [.inl 1, .inl x2, .inr 41] Z (zri Q))
      refine z0 (op := 12) (a := 1) (b := 0) (by rfl) (by rfl) (?_ : TZ (d + 1) 61 23 [some (.inr 39), some (.inl x1), some (.inl x2), o3, o4] [.inl (x2 - 1), .inr 41] Z (zri Q))
      refine z_goto (t := 32) (by rfl) (by rfl) (?_ : TZ (d + 1) 61 32 [some (.inr 39), some (.inl x1), some (.inl x2), o3, o4] [.inl (x2 - 1), .inr 41] Z (zri Q))
      obtain ⟨c60, v⟩ := v
      refine z_al (by rfl) ln_41 c60 (?_ : TZ (d + 1) 61 33 [some (.inr 39), some (.inl x1), some (.inl x2), o3, o4] [.inl (Z 41 (x2 - 1))] Z (zri Q))
      refine z0 (op := 7) (a := 3) (b := 0) (by rfl) (by rfl) (?_ : TZ (d + 1) 61 34 [some (.inr 39), some (.inl x1), some (.inl x2), some (.inl (Z 41 (x2 - 1))), o4] [] Z (zri Q))
      refine z0 (op := 5) (a := 0) (b := 0) (by rfl) (by rfl) (?_ : TZ (d + 1) 61 35 [some (.inr 39), some (.inl x1), some (.inl x2), some (.inl (Z 41 (x2 - 1))), o4] [.inr 39] Z (zri Q))
      refine z_fr (by rfl) fr45_39 (?_ : TZ (d + 1) 61 38 [some (.inr 39), some (.inl x1), some (.inl x2), some (.inl (Z 41 (x2 - 1))), o4] [.inr 41] Z (zri Q))
      refine z0 (op := 3) (a := 2) (b := 0) (by rfl) (by rfl) (?_ : TZ (d + 1) 61 39 [some (.inr 39), some (.inl x1), some (.inl x2), some (.inl (Z 41 (x2 - 1))), o4] [.inl x2, .inr 41] Z (zri Q))
      refine z0 (op := 0) (a := 0) (b := 1) (by rfl) (by rfl) (?_ : TZ (d + 1) 61 40 [some (.inr 39), some (.inl x1), some (.inl x2), some (.inl (Z 41 (x2 - 1))), o4] [.inl 1, .inl x2, .inr 41] Z (zri Q))
      refine z0 (op := 12) (a := 0) (b := 0) (by rfl) (by rfl) (?_ : TZ (d + 1) 61 41 [some (.inr 39), some (.inl x1), some (.inl x2), some (.inl (Z 41 (x2 - 1))), o4] [.inl (x2 + 1), .inr 41] Z (zri Q))
      refine z0 (op := 5) (a := 0) (b := 0) (by rfl) (by rfl) (?_ : TZ (d + 1) 61 42 [some (.inr 39), some (.inl x1), some (.inl x2), some (.inl (Z 41 (x2 - 1))), o4] [.inr 39, .inl (x2 + 1), .inr 41] Z (zri Q))
      refine z_fi (by rfl) fi47_39 (?_ : TZ (d + 1) 61 45 [some (.inr 39), some (.inl x1), some (.inl x2), some (.inl (Z 41 (x2 - 1))), o4] [.inl (Z 39 3), .inl (x2 + 1), .inr 41] Z (zri Q))
      obtain ⟨c61, c62, v1, v2⟩ := v
      refine z_if2 (a := 3) (t := 54) (by rfl) (by rfl) c61 c62 (fun h63 => ?_) (fun h63 => ?_)
      · have v := v1 h63; clear v1 v2
        show TZ (d + 1) 61 54 [some (.inr 39), some (.inl x1), some (.inl x2), some (.inl (Z 41 (x2 - 1))), o4] [.inr 41] Z (zri Q)
        refine z0 (op := 0) (a := 0) (b := 0) (by rfl) (by rfl) (?_ : TZ (d + 1) 61 55 [some (.inr 39), some (.inl x1), some (.inl x2), some (.inl (Z 41 (x2 - 1))), o4] [.inl 0, .inr 41] Z (zri Q))
        refine z_al (by rfl) ln_41 (by decide) (?_ : TZ (d + 1) 61 56 [some (.inr 39), some (.inl x1), some (.inl x2), some (.inl (Z 41 (x2 - 1))), o4] [.inl (Z 41 0)] Z (zri Q))
        refine z0 (op := 8) (a := 4) (b := 0) (by rfl) (by rfl) (?_ : TZ (d + 1) 61 58 [some (.inr 39), some (.inl x1), some (.inl x2), some (.inl (Z 41 (x2 - 1))), some (.inl (Z 41 0))] [] Z (zri Q))
        refine z0 (op := 5) (a := 0) (b := 0) (by rfl) (by rfl) (?_ : TZ (d + 1) 61 59 [some (.inr 39), some (.inl x1), some (.inl x2), some (.inl (Z 41 (x2 - 1))), some (.inl (Z 41 0))] [.inr 39] Z (zri Q))
        refine z_fr (by rfl) fr46_39 (?_ : TZ (d + 1) 61 62 [some (.inr 39), some (.inl x1), some (.inl x2), some (.inl (Z 41 (x2 - 1))), some (.inl (Z 41 0))] [.inr 42] Z (zri Q))
        refine z0 (op := 3) (a := 2) (b := 0) (by rfl) (by rfl) (?_ : TZ (d + 1) 61 63 [some (.inr 39), some (.inl x1), some (.inl x2), some (.inl (Z 41 (x2 - 1))), some (.inl (Z 41 0))] [.inl x2, .inr 42] Z (zri Q))
        refine z0 (op := 5) (a := 0) (b := 0) (by rfl) (by rfl) (?_ : TZ (d + 1) 61 64 [some (.inr 39), some (.inl x1), some (.inl x2), some (.inl (Z 41 (x2 - 1))), some (.inl (Z 41 0))] [.inr 39, .inl x2, .inr 42] Z (zri Q))
        refine z_fi (by rfl) fi47_39 (?_ : TZ (d + 1) 61 67 [some (.inr 39), some (.inl x1), some (.inl x2), some (.inl (Z 41 (x2 - 1))), some (.inl (Z 41 0))] [.inl (Z 39 3), .inl x2, .inr 42] Z (zri Q))
        refine z0 (op := 0) (a := 0) (b := 3) (by rfl) (by rfl) (?_ : TZ (d + 1) 61 68 [some (.inr 39), some (.inl x1), some (.inl x2), some (.inl (Z 41 (x2 - 1))), some (.inl (Z 41 0))] [.inl 3, .inl (Z 39 3), .inl x2, .inr 42] Z (zri Q))
        obtain ⟨c64, v1, v2⟩ := v
        refine z_if2 (a := 3) (t := 80) (by rfl) (by rfl) c64 (by decide) (fun h65 => ?_) (fun h65 => ?_)
        · have v := v1 h65; clear v1 v2
          show TZ (d + 1) 61 80 [some (.inr 39), some (.inl x1), some (.inl x2), some (.inl (Z 41 (x2 - 1))), some (.inl (Z 41 0))] [.inl x2, .inr 42] Z (zri Q)
          refine z0 (op := 3) (a := 3) (b := 0) (by rfl) (by rfl) (?_ : TZ (d + 1) 61 81 [some (.inr 39), some (.inl x1), some (.inl x2), some (.inl (Z 41 (x2 - 1))), some (.inl (Z 41 0))] [.inl (Z 41 (x2 - 1)), .inl x2, .inr 42] Z (zri Q))
          refine z0 (op := 5) (a := 0) (b := 0) (by rfl) (by rfl) (?_ : TZ (d + 1) 61 82 [some (.inr 39), some (.inl x1), some (.inl x2), some (.inl (Z 41 (x2 - 1))), some (.inl (Z 41 0))] [.inr 39, .inl (Z 41 (x2 - 1)), .inl x2, .inr 42] Z (zri Q))
          refine z_fr (by rfl) fr45_39 (?_ : TZ (d + 1) 61 85 [some (.inr 39), some (.inl x1), some (.inl x2), some (.inl (Z 41 (x2 - 1))), some (.inl (Z 41 0))] [.inr 41, .inl (Z 41 (x2 - 1)), .inl x2, .inr 42] Z (zri Q))
          refine z0 (op := 3) (a := 2) (b := 0) (by rfl) (by rfl) (?_ : TZ (d + 1) 61 86 [some (.inr 39), some (.inl x1), some (.inl x2), some (.inl (Z 41 (x2 - 1))), some (.inl (Z 41 0))] [.inl x2, .inr 41, .inl (Z 41 (x2 - 1)), .inl x2, .inr 42] Z (zri Q))
          obtain ⟨c66, v⟩ := v
          refine z_al (by rfl) ln_41 c66 (?_ : TZ (d + 1) 61 87 [some (.inr 39), some (.inl x1), some (.inl x2), some (.inl (Z 41 (x2 - 1))), some (.inl (Z 41 0))] [.inl (Z 41 x2), .inl (Z 41 (x2 - 1)), .inl x2, .inr 42] Z (zri Q))
          refine z0 (op := 4) (a := 4) (b := 0) (by rfl) (by rfl) (?_ : TZ (d + 1) 61 89 [some (.inr 39), some (.inl x1), some (.inl x2), some (.inl (Z 41 (x2 - 1))), some (.inl (Z 41 0))] [.inl (Z 41 0), .inl (Z 41 x2), .inl (Z 41 (x2 - 1)), .inl x2, .inr 42] Z (zri Q))
          refine z_si (by rfl) (by rfl) (TI.mono v fun r68 Z67 v => ?_)
          show TZ (d + 1) 61 92 [some (.inr 39), some (.inl x1), some (.inl x2), some (.inl (Z 41 (x2 - 1))), some (.inl (Z 41 0))] [.inl r68, .inl x2, .inr 42] Z67 (zri Q)
          obtain ⟨c69, v⟩ := v
          obtain ⟨Z70, eZ70⟩ : ∃ zz, zz = zup Z67 42 x2 r68 := ⟨_, rfl⟩
          have v := v Z70 eZ70
          refine z_as (by rfl) ln_42 c69 ?_
          show TZ (d + 1) 61 93 [some (.inr 39), some (.inl x1), some (.inl x2), some (.inl (Z 41 (x2 - 1))), some (.inl (Z 41 0))] [] (zup Z67 42 x2 r68) _
          rw [← eZ70]
          refine z0 (op := 3) (a := 1) (b := 0) (by rfl) (by rfl) (?_ : TZ (d + 1) 61 94 [some (.inr 39), some (.inl x1), some (.inl x2), some (.inl (Z 41 (x2 - 1))), some (.inl (Z 41 0))] [.inl x1] Z70 (zri Q))
          obtain ⟨c71, v1, v2⟩ := v
          refine z_if0 (a := 1) (t := 112) (by rfl) (by rfl) c71 (fun h72 => ?_) (fun h72 => ?_)
          · have v := v1 h72; clear v1 v2
            show TZ (d + 1) 61 112 [some (.inr 39), some (.inl x1), some (.inl x2), some (.inl (Z 41 (x2 - 1))), some (.inl (Z 41 0))] [] Z70 (zri Q)
            refine z0 (op := 0) (a := 0) (b := 1) (by rfl) (by rfl) (?_ : TZ (d + 1) 61 113 [some (.inr 39), some (.inl x1), some (.inl x2), some (.inl (Z 41 (x2 - 1))), some (.inl (Z 41 0))] [.inl 1] Z70 (zri Q))
            refine z_goto (t := 117) (by rfl) (by rfl) (?_ : TZ (d + 1) 61 117 [some (.inr 39), some (.inl x1), some (.inl x2), some (.inl (Z 41 (x2 - 1))), some (.inl (Z 41 0))] [.inl 1] Z70 (zri Q))
            refine z0 (op := 7) (a := 1) (b := 0) (by rfl) (by rfl) (?_ : TZ (d + 1) 61 118 [some (.inr 39), some (.inl 1), some (.inl x2), some (.inl (Z 41 (x2 - 1))), some (.inl (Z 41 0))] [] Z70 (zri Q))
            refine z0 (op := 11) (a := 2) (b := 1) (by rfl) (by rfl) (?_ : TZ (d + 1) 61 121 [some (.inr 39), some (.inl 1), some (.inl (x2 + 1)), some (.inl (Z 41 (x2 - 1))), some (.inl (Z 41 0))] [] Z70 (zri Q))
            refine z_goto (t := 4) (by rfl) (by rfl) (?_ : TZ (d + 1) 61 4 [some (.inr 39), some (.inl 1), some (.inl (x2 + 1)), some (.inl (Z 41 (x2 - 1))), some (.inl (Z 41 0))] [] Z70 (zri Q))
            exact v
          · have v := v2 h72; clear v1 v2
            show TZ (d + 1) 61 97 [some (.inr 39), some (.inl x1), some (.inl x2), some (.inl (Z 41 (x2 - 1))), some (.inl (Z 41 0))] [] Z70 (zri Q)
            refine z0 (op := 5) (a := 0) (b := 0) (by rfl) (by rfl) (?_ : TZ (d + 1) 61 98 [some (.inr 39), some (.inl x1), some (.inl x2), some (.inl (Z 41 (x2 - 1))), some (.inl (Z 41 0))] [.inr 39] Z70 (zri Q))
            refine z_fr (by rfl) fr46_39 (?_ : TZ (d + 1) 61 101 [some (.inr 39), some (.inl x1), some (.inl x2), some (.inl (Z 41 (x2 - 1))), some (.inl (Z 41 0))] [.inr 42] Z70 (zri Q))
            refine z0 (op := 3) (a := 2) (b := 0) (by rfl) (by rfl) (?_ : TZ (d + 1) 61 102 [some (.inr 39), some (.inl x1), some (.inl x2), some (.inl (Z 41 (x2 - 1))), some (.inl (Z 41 0))] [.inl x2, .inr 42] Z70 (zri Q))
            obtain ⟨c73, v⟩ := v
            refine z_al (by rfl) ln_42 c73 (?_ : TZ (d + 1) 61 103 [some (.inr 39), some (.inl x1), some (.inl x2), some (.inl (Z 41 (x2 - 1))), some (.inl (Z 41 0))] [.inl (Z70 42 x2)] Z70 (zri Q))
            refine z0 (op := 5) (a := 0) (b := 0) (by rfl) (by rfl) (?_ : TZ (d + 1) 61 104 [some (.inr 39), some (.inl x1), some (.inl x2), some (.inl (Z 41 (x2 - 1))), some (.inl (Z 41 0))] [.inr 39, .inl (Z70 42 x2)] Z70 (zri Q))
            refine z_fr (by rfl) fr45_39 (?_ : TZ (d + 1) 61 107 [some (.inr 39), some (.inl x1), some (.inl x2), some (.inl (Z 41 (x2 - 1))), some (.inl (Z 41 0))] [.inr 41, .inl (Z70 42 x2)] Z70 (zri Q))
            refine z0 (op := 3) (a := 2) (b := 0) (by rfl) (by rfl) (?_ : TZ (d + 1) 61 108 [some (.inr 39), some (.inl x1), some (.inl x2), some (.inl (Z 41 (x2 - 1))), some (.inl (Z 41 0))] [.inl x2, .inr 41, .inl (Z70 42 x2)] Z70 (zri Q))
            obtain ⟨c74, v⟩ := v
            refine z_al (by rfl) ln_41 c74 (?_ : TZ (d + 1) 61 109 [some (.inr 39), some (.inl x1), some (.inl x2), some (.inl (Z 41 (x2 - 1))), some (.inl (Z 41 0))] [.inl (Z70 41 x2), .inl (Z70 42 x2)] Z70 (zri Q))
            obtain ⟨c75, c76, v1, v2⟩ := v
            refine z_if2 (a := 0) (t := 116) (by rfl) (by rfl) c75 c76 (fun h77 => ?_) (fun h77 => ?_)
            · have v := v1 h77; clear v1 v2
              show TZ (d + 1) 61 116 [some (.inr 39), some (.inl x1), some (.inl x2), some (.inl (Z 41 (x2 - 1))), some (.inl (Z 41 0))] [] Z70 (zri Q)
              refine z0 (op := 0) (a := 0) (b := 0) (by rfl) (by rfl) (?_ : TZ (d + 1) 61 117 [some (.inr 39), some (.inl x1), some (.inl x2), some (.inl (Z 41 (x2 - 1))), some (.inl (Z 41 0))] [.inl 0] Z70 (zri Q))
              refine z0 (op := 7) (a := 1) (b := 0) (by rfl) (by rfl) (?_ : TZ (d + 1) 61 118 [some (.inr 39), some (.inl 0), some (.inl x2), some (.inl (Z 41 (x2 - 1))), some (.inl (Z 41 0))] [] Z70 (zri Q))
              refine z0 (op := 11) (a := 2) (b := 1) (by rfl) (by rfl) (?_ : TZ (d + 1) 61 121 [some (.inr 39), some (.inl 0), some (.inl (x2 + 1)), some (.inl (Z 41 (x2 - 1))), some (.inl (Z 41 0))] [] Z70 (zri Q))
              refine z_goto (t := 4) (by rfl) (by rfl) (?_ : TZ (d + 1) 61 4 [some (.inr 39), some (.inl 0), some (.inl (x2 + 1)), some (.inl (Z 41 (x2 - 1))), some (.inl (Z 41 0))] [] Z70 (zri Q))
              exact v
            · have v := v2 h77; clear v1 v2
              show TZ (d + 1) 61 112 [some (.inr 39), some (.inl x1), some (.inl x2), some (.inl (Z 41 (x2 - 1))), some (.inl (Z 41 0))] [] Z70 (zri Q)
              refine z0 (op := 0) (a := 0) (b := 1) (by rfl) (by rfl) (?_ : TZ (d + 1) 61 113 [some (.inr 39), some (.inl x1), some (.inl x2), some (.inl (Z 41 (x2 - 1))), some (.inl (Z 41 0))] [.inl 1] Z70 (zri Q))
              refine z_goto (t := 117) (by rfl) (by rfl) (?_ : TZ (d + 1) 61 117 [some (.inr 39), some (.inl x1), some (.inl x2), some (.inl (Z 41 (x2 - 1))), some (.inl (Z 41 0))] [.inl 1] Z70 (zri Q))
              refine z0 (op := 7) (a := 1) (b := 0) (by rfl) (by rfl) (?_ : TZ (d + 1) 61 118 [some (.inr 39), some (.inl 1), some (.inl x2), some (.inl (Z 41 (x2 - 1))), some (.inl (Z 41 0))] [] Z70 (zri Q))
              refine z0 (op := 11) (a := 2) (b := 1) (by rfl) (by rfl) (?_ : TZ (d + 1) 61 121 [some (.inr 39), some (.inl 1), some (.inl (x2 + 1)), some (.inl (Z 41 (x2 - 1))), some (.inl (Z 41 0))] [] Z70 (zri Q))
              refine z_goto (t := 4) (by rfl) (by rfl) (?_ : TZ (d + 1) 61 4 [some (.inr 39), some (.inl 1), some (.inl (x2 + 1)), some (.inl (Z 41 (x2 - 1))), some (.inl (Z 41 0))] [] Z70 (zri Q))
              exact v
        · have v := v2 h65; clear v1 v2
          show TZ (d + 1) 61 71 [some (.inr 39), some (.inl x1), some (.inl x2), some (.inl (Z 41 (x2 - 1))), some (.inl (Z 41 0))] [.inl x2, .inr 42] Z (zri Q)
          refine z0 (op := 5) (a := 0) (b := 0) (by rfl) (by rfl) (?_ : TZ (d + 1) 61 72 [some (.inr 39), some (.inl x1), some (.inl x2), some (.inl (Z 41 (x2 - 1))), some (.inl (Z 41 0))] [.inr 39, .inl x2, .inr 42] Z (zri Q))
          refine z_fr (by rfl) fr45_39 (?_ : TZ (d + 1) 61 75 [some (.inr 39), some (.inl x1), some (.inl x2), some (.inl (Z 41 (x2 - 1))), some (.inl (Z 41 0))] [.inr 41, .inl x2, .inr 42] Z (zri Q))
          refine z0 (op := 3) (a := 2) (b := 0) (by rfl) (by rfl) (?_ : TZ (d + 1) 61 76 [some (.inr 39), some (.inl x1), some (.inl x2), some (.inl (Z 41 (x2 - 1))), some (.inl (Z 41 0))] [.inl x2, .inr 41, .inl x2, .inr 42] Z (zri Q))
          obtain ⟨c78, v⟩ := v
          refine z_al (by rfl) ln_41 c78 (?_ : TZ (d + 1) 61 77 [some (.inr 39), some (.inl x1), some (.inl x2), some (.inl (Z 41 (x2 - 1))), some (.inl (Z 41 0))] [.inl (Z 41 x2), .inl x2, .inr 42] Z (zri Q))
          refine z_goto (t := 92) (by rfl) (by rfl) (?_ : TZ (d + 1) 61 92 [some (.inr 39), some (.inl x1), some (.inl x2), some (.inl (Z 41 (x2 - 1))), some (.inl (Z 41 0))] [.inl (Z 41 x2), .inl x2, .inr 42] Z (zri Q))
          obtain ⟨c79, v⟩ := v
          obtain ⟨Z80, eZ80⟩ : ∃ zz, zz = zup Z 42 x2 (Z 41 x2) := ⟨_, rfl⟩
          have v := v Z80 eZ80
          refine z_as (by rfl) ln_42 c79 ?_
          show TZ (d + 1) 61 93 [some (.inr 39), some (.inl x1), some (.inl x2), some (.inl (Z 41 (x2 - 1))), some (.inl (Z 41 0))] [] (zup Z 42 x2 (Z 41 x2)) _
          rw [← eZ80]
          refine z0 (op := 3) (a := 1) (b := 0) (by rfl) (by rfl) (?_ : TZ (d + 1) 61 94 [some (.inr 39), some (.inl x1), some (.inl x2), some (.inl (Z 41 (x2 - 1))), some (.inl (Z 41 0))] [.inl x1] Z80 (zri Q))
          obtain ⟨c81, v1, v2⟩ := v
          refine z_if0 (a := 1) (t := 112) (by rfl) (by rfl) c81 (fun h82 => ?_) (fun h82 => ?_)
          · have v := v1 h82; clear v1 v2
            show TZ (d + 1) 61 112 [some (.inr 39), some (.inl x1), some (.inl x2), some (.inl (Z 41 (x2 - 1))), some (.inl (Z 41 0))] [] Z80 (zri Q)
            refine z0 (op := 0) (a := 0) (b := 1) (by rfl) (by rfl) (?_ : TZ (d + 1) 61 113 [some (.inr 39), some (.inl x1), some (.inl x2), some (.inl (Z 41 (x2 - 1))), some (.inl (Z 41 0))] [.inl 1] Z80 (zri Q))
            refine z_goto (t := 117) (by rfl) (by rfl) (?_ : TZ (d + 1) 61 117 [some (.inr 39), some (.inl x1), some (.inl x2), some (.inl (Z 41 (x2 - 1))), some (.inl (Z 41 0))] [.inl 1] Z80 (zri Q))
            refine z0 (op := 7) (a := 1) (b := 0) (by rfl) (by rfl) (?_ : TZ (d + 1) 61 118 [some (.inr 39), some (.inl 1), some (.inl x2), some (.inl (Z 41 (x2 - 1))), some (.inl (Z 41 0))] [] Z80 (zri Q))
            refine z0 (op := 11) (a := 2) (b := 1) (by rfl) (by rfl) (?_ : TZ (d + 1) 61 121 [some (.inr 39), some (.inl 1), some (.inl (x2 + 1)), some (.inl (Z 41 (x2 - 1))), some (.inl (Z 41 0))] [] Z80 (zri Q))
            refine z_goto (t := 4) (by rfl) (by rfl) (?_ : TZ (d + 1) 61 4 [some (.inr 39), some (.inl 1), some (.inl (x2 + 1)), some (.inl (Z 41 (x2 - 1))), some (.inl (Z 41 0))] [] Z80 (zri Q))
            exact v
          · have v := v2 h82; clear v1 v2
            show TZ (d + 1) 61 97 [some (.inr 39), some (.inl x1), some (.inl x2), some (.inl (Z 41 (x2 - 1))), some (.inl (Z 41 0))] [] Z80 (zri Q)
            refine z0 (op := 5) (a := 0) (b := 0) (by rfl) (by rfl) (?_ : TZ (d + 1) 61 98 [some (.inr 39), some (.inl x1), some (.inl x2), some (.inl (Z 41 (x2 - 1))), some (.inl (Z 41 0))] [.inr 39] Z80 (zri Q))
            refine z_fr (by rfl) fr46_39 (?_ : TZ (d + 1) 61 101 [some (.inr 39), some (.inl x1), some (.inl x2), some (.inl (Z 41 (x2 - 1))), some (.inl (Z 41 0))] [.inr 42] Z80 (zri Q))
            refine z0 (op := 3) (a := 2) (b := 0) (by rfl) (by rfl) (?_ : TZ (d + 1) 61 102 [some (.inr 39), some (.inl x1), some (.inl x2), some (.inl (Z 41 (x2 - 1))), some (.inl (Z 41 0))] [.inl x2, .inr 42] Z80 (zri Q))
            obtain ⟨c83, v⟩ := v
            refine z_al (by rfl) ln_42 c83 (?_ : TZ (d + 1) 61 103 [some (.inr 39), some (.inl x1), some (.inl x2), some (.inl (Z 41 (x2 - 1))), some (.inl (Z 41 0))] [.inl (Z80 42 x2)] Z80 (zri Q))
            refine z0 (op := 5) (a := 0) (b := 0) (by rfl) (by rfl) (?_ : TZ (d + 1) 61 104 [some (.inr 39), some (.inl x1), some (.inl x2), some (.inl (Z 41 (x2 - 1))), some (.inl (Z 41 0))] [.inr 39, .inl (Z80 42 x2)] Z80 (zri Q))
            refine z_fr (by rfl) fr45_39 (?_ : TZ (d + 1) 61 107 [some (.inr 39), some (.inl x1), some (.inl x2), some (.inl (Z 41 (x2 - 1))), some (.inl (Z 41 0))] [.inr 41, .inl (Z80 42 x2)] Z80 (zri Q))
            refine z0 (op := 3) (a := 2) (b := 0) (by rfl) (by rfl) (?_ : TZ (d + 1) 61 108 [some (.inr 39), some (.inl x1), some (.inl x2), some (.inl (Z 41 (x2 - 1))), some (.inl (Z 41 0))] [.inl x2, .inr 41, .inl (Z80 42 x2)] Z80 (zri Q))
            obtain ⟨c84, v⟩ := v
            refine z_al (by rfl) ln_41 c84 (?_ : TZ (d + 1) 61 109 [some (.inr 39), some (.inl x1), some (.inl x2), some (.inl (Z 41 (x2 - 1))), some (.inl (Z 41 0))] [.inl (Z80 41 x2), .inl (Z80 42 x2)] Z80 (zri Q))
            obtain ⟨c85, c86, v1, v2⟩ := v
            refine z_if2 (a := 0) (t := 116) (by rfl) (by rfl) c85 c86 (fun h87 => ?_) (fun h87 => ?_)
            · have v := v1 h87; clear v1 v2
              show TZ (d + 1) 61 116 [some (.inr 39), some (.inl x1), some (.inl x2), some (.inl (Z 41 (x2 - 1))), some (.inl (Z 41 0))] [] Z80 (zri Q)
              refine z0 (op := 0) (a := 0) (b := 0) (by rfl) (by rfl) (?_ : TZ (d + 1) 61 117 [some (.inr 39), some (.inl x1), some (.inl x2), some (.inl (Z 41 (x2 - 1))), some (.inl (Z 41 0))] [.inl 0] Z80 (zri Q))
              refine z0 (op := 7) (a := 1) (b := 0) (by rfl) (by rfl) (?_ : TZ (d + 1) 61 118 [some (.inr 39), some (.inl 0), some (.inl x2), some (.inl (Z 41 (x2 - 1))), some (.inl (Z 41 0))] [] Z80 (zri Q))
              refine z0 (op := 11) (a := 2) (b := 1) (by rfl) (by rfl) (?_ : TZ (d + 1) 61 121 [some (.inr 39), some (.inl 0), some (.inl (x2 + 1)), some (.inl (Z 41 (x2 - 1))), some (.inl (Z 41 0))] [] Z80 (zri Q))
              refine z_goto (t := 4) (by rfl) (by rfl) (?_ : TZ (d + 1) 61 4 [some (.inr 39), some (.inl 0), some (.inl (x2 + 1)), some (.inl (Z 41 (x2 - 1))), some (.inl (Z 41 0))] [] Z80 (zri Q))
              exact v
            · have v := v2 h87; clear v1 v2
              show TZ (d + 1) 61 112 [some (.inr 39), some (.inl x1), some (.inl x2), some (.inl (Z 41 (x2 - 1))), some (.inl (Z 41 0))] [] Z80 (zri Q)
              refine z0 (op := 0) (a := 0) (b := 1) (by rfl) (by rfl) (?_ : TZ (d + 1) 61 113 [some (.inr 39), some (.inl x1), some (.inl x2), some (.inl (Z 41 (x2 - 1))), some (.inl (Z 41 0))] [.inl 1] Z80 (zri Q))
              refine z_goto (t := 117) (by rfl) (by rfl) (?_ : TZ (d + 1) 61 117 [some (.inr 39), some (.inl x1), some (.inl x2), some (.inl (Z 41 (x2 - 1))), some (.inl (Z 41 0))] [.inl 1] Z80 (zri Q))
              refine z0 (op := 7) (a := 1) (b := 0) (by rfl) (by rfl) (?_ : TZ (d + 1) 61 118 [some (.inr 39), some (.inl 1), some (.inl x2), some (.inl (Z 41 (x2 - 1))), some (.inl (Z 41 0))] [] Z80 (zri Q))
              refine z0 (op := 11) (a := 2) (b := 1) (by rfl) (by rfl) (?_ : TZ (d + 1) 61 121 [some (.inr 39), some (.inl 1), some (.inl (x2 + 1)), some (.inl (Z 41 (x2 - 1))), some (.inl (Z 41 0))] [] Z80 (zri Q))
              refine z_goto (t := 4) (by rfl) (by rfl) (?_ : TZ (d + 1) 61 4 [some (.inr 39), some (.inl 1), some (.inl (x2 + 1)), some (.inl (Z 41 (x2 - 1))), some (.inl (Z 41 0))] [] Z80 (zri Q))
              exact v
      · have v := v2 h63; clear v1 v2
        show TZ (d + 1) 61 48 [some (.inr 39), some (.inl x1), some (.inl x2), some (.inl (Z 41 (x2 - 1))), o4] [.inr 41] Z (zri Q)
        refine z0 (op := 3) (a := 2) (b := 0) (by rfl) (by rfl) (?_ : TZ (d + 1) 61 49 [some (.inr 39), some (.inl x1), some (.inl x2), some (.inl (Z 41 (x2 - 1))), o4] [.inl x2, .inr 41] Z (zri Q))
        refine z0 (op := 0) (a := 0) (b := 1) (by rfl) (by rfl) (?_ : TZ (d + 1) 61 50 [some (.inr 39), some (.inl x1), some (.inl x2), some (.inl (Z 41 (x2 - 1))), o4] [.inl 1, .inl x2, .inr 41] Z (zri Q))
        refine z0 (op := 12) (a := 0) (b := 0) (by rfl) (by rfl) (?_ : TZ (d + 1) 61 51 [some (.inr 39), some (.inl x1), some (.inl x2), some (.inl (Z 41 (x2 - 1))), o4] [.inl (x2 + 1), .inr 41] Z (zri Q))
        refine z_goto (t := 55) (by rfl) (by rfl) (?_ : TZ (d + 1) 61 55 [some (.inr 39), some (.inl x1), some (.inl x2), some (.inl (Z 41 (x2 - 1))), o4] [.inl (x2 + 1), .inr 41] Z (zri Q))
        obtain ⟨c88, v⟩ := v
        refine z_al (by rfl) ln_41 c88 (?_ : TZ (d + 1) 61 56 [some (.inr 39), some (.inl x1), some (.inl x2), some (.inl (Z 41 (x2 - 1))), o4] [.inl (Z 41 (x2 + 1))] Z (zri Q))
        refine z0 (op := 8) (a := 4) (b := 0) (by rfl) (by rfl) (?_ : TZ (d + 1) 61 58 [some (.inr 39), some (.inl x1), some (.inl x2), some (.inl (Z 41 (x2 - 1))), some (.inl (Z 41 (x2 + 1)))] [] Z (zri Q))
        refine z0 (op := 5) (a := 0) (b := 0) (by rfl) (by rfl) (?_ : TZ (d + 1) 61 59 [some (.inr 39), some (.inl x1), some (.inl x2), some (.inl (Z 41 (x2 - 1))), some (.inl (Z 41 (x2 + 1)))] [.inr 39] Z (zri Q))
        refine z_fr (by rfl) fr46_39 (?_ : TZ (d + 1) 61 62 [some (.inr 39), some (.inl x1), some (.inl x2), some (.inl (Z 41 (x2 - 1))), some (.inl (Z 41 (x2 + 1)))] [.inr 42] Z (zri Q))
        refine z0 (op := 3) (a := 2) (b := 0) (by rfl) (by rfl) (?_ : TZ (d + 1) 61 63 [some (.inr 39), some (.inl x1), some (.inl x2), some (.inl (Z 41 (x2 - 1))), some (.inl (Z 41 (x2 + 1)))] [.inl x2, .inr 42] Z (zri Q))
        refine z0 (op := 5) (a := 0) (b := 0) (by rfl) (by rfl) (?_ : TZ (d + 1) 61 64 [some (.inr 39), some (.inl x1), some (.inl x2), some (.inl (Z 41 (x2 - 1))), some (.inl (Z 41 (x2 + 1)))] [.inr 39, .inl x2, .inr 42] Z (zri Q))
        refine z_fi (by rfl) fi47_39 (?_ : TZ (d + 1) 61 67 [some (.inr 39), some (.inl x1), some (.inl x2), some (.inl (Z 41 (x2 - 1))), some (.inl (Z 41 (x2 + 1)))] [.inl (Z 39 3), .inl x2, .inr 42] Z (zri Q))
        refine z0 (op := 0) (a := 0) (b := 3) (by rfl) (by rfl) (?_ : TZ (d + 1) 61 68 [some (.inr 39), some (.inl x1), some (.inl x2), some (.inl (Z 41 (x2 - 1))), some (.inl (Z 41 (x2 + 1)))] [.inl 3, .inl (Z 39 3), .inl x2, .inr 42] Z (zri Q))
        obtain ⟨c89, v1, v2⟩ := v
        refine z_if2 (a := 3) (t := 80) (by rfl) (by rfl) c89 (by decide) (fun h90 => ?_) (fun h90 => ?_)
        · have v := v1 h90; clear v1 v2
          show TZ (d + 1) 61 80 [some (.inr 39), some (.inl x1), some (.inl x2), some (.inl (Z 41 (x2 - 1))), some (.inl (Z 41 (x2 + 1)))] [.inl x2, .inr 42] Z (zri Q)
          refine z0 (op := 3) (a := 3) (b := 0) (by rfl) (by rfl) (?_ : TZ (d + 1) 61 81 [some (.inr 39), some (.inl x1), some (.inl x2), some (.inl (Z 41 (x2 - 1))), some (.inl (Z 41 (x2 + 1)))] [.inl (Z 41 (x2 - 1)), .inl x2, .inr 42] Z (zri Q))
          refine z0 (op := 5) (a := 0) (b := 0) (by rfl) (by rfl) (?_ : TZ (d + 1) 61 82 [some (.inr 39), some (.inl x1), some (.inl x2), some (.inl (Z 41 (x2 - 1))), some (.inl (Z 41 (x2 + 1)))] [.inr 39, .inl (Z 41 (x2 - 1)), .inl x2, .inr 42] Z (zri Q))
          refine z_fr (by rfl) fr45_39 (?_ : TZ (d + 1) 61 85 [some (.inr 39), some (.inl x1), some (.inl x2), some (.inl (Z 41 (x2 - 1))), some (.inl (Z 41 (x2 + 1)))] [.inr 41, .inl (Z 41 (x2 - 1)), .inl x2, .inr 42] Z (zri Q))
          refine z0 (op := 3) (a := 2) (b := 0) (by rfl) (by rfl) (?_ : TZ (d + 1) 61 86 [some (.inr 39), some (.inl x1), some (.inl x2), some (.inl (Z 41 (x2 - 1))), some (.inl (Z 41 (x2 + 1)))] [.inl x2, .inr 41, .inl (Z 41 (x2 - 1)), .inl x2, .inr 42] Z (zri Q))
          obtain ⟨c91, v⟩ := v
          refine z_al (by rfl) ln_41 c91 (?_ : TZ (d + 1) 61 87 [some (.inr 39), some (.inl x1), some (.inl x2), some (.inl (Z 41 (x2 - 1))), some (.inl (Z 41 (x2 + 1)))] [.inl (Z 41 x2), .inl (Z 41 (x2 - 1)), .inl x2, .inr 42] Z (zri Q))
          refine z0 (op := 4) (a := 4) (b := 0) (by rfl) (by rfl) (?_ : TZ (d + 1) 61 89 [some (.inr 39), some (.inl x1), some (.inl x2), some (.inl (Z 41 (x2 - 1))), some (.inl (Z 41 (x2 + 1)))] [.inl (Z 41 (x2 + 1)), .inl (Z 41 x2), .inl (Z 41 (x2 - 1)), .inl x2, .inr 42] Z (zri Q))
          refine z_si (by rfl) (by rfl) (TI.mono v fun r93 Z92 v => ?_)
          show TZ (d + 1) 61 92 [some (.inr 39), some (.inl x1), some (.inl x2), some (.inl (Z 41 (x2 - 1))), some (.inl (Z 41 (x2 + 1)))] [.inl r93, .inl x2, .inr 42] Z92 (zri Q)
          obtain ⟨c94, v⟩ := v
          obtain ⟨Z95, eZ95⟩ : ∃ zz, zz = zup Z92 42 x2 r93 := ⟨_, rfl⟩
          have v := v Z95 eZ95
          refine z_as (by rfl) ln_42 c94 ?_
          show TZ (d + 1) 61 93 [some (.inr 39), some (.inl x1), some (.inl x2), some (.inl (Z 41 (x2 - 1))), some (.inl (Z 41 (x2 + 1)))] [] (zup Z92 42 x2 r93) _
          rw [← eZ95]
          refine z0 (op := 3) (a := 1) (b := 0) (by rfl) (by rfl) (?_ : TZ (d + 1) 61 94 [some (.inr 39), some (.inl x1), some (.inl x2), some (.inl (Z 41 (x2 - 1))), some (.inl (Z 41 (x2 + 1)))] [.inl x1] Z95 (zri Q))
          obtain ⟨c96, v1, v2⟩ := v
          refine z_if0 (a := 1) (t := 112) (by rfl) (by rfl) c96 (fun h97 => ?_) (fun h97 => ?_)
          · have v := v1 h97; clear v1 v2
            show TZ (d + 1) 61 112 [some (.inr 39), some (.inl x1), some (.inl x2), some (.inl (Z 41 (x2 - 1))), some (.inl (Z 41 (x2 + 1)))] [] Z95 (zri Q)
            refine z0 (op := 0) (a := 0) (b := 1) (by rfl) (by rfl) (?_ : TZ (d + 1) 61 113 [some (.inr 39), some (.inl x1), some (.inl x2), some (.inl (Z 41 (x2 - 1))), some (.inl (Z 41 (x2 + 1)))] [.inl 1] Z95 (zri Q))
            refine z_goto (t := 117) (by rfl) (by rfl) (?_ : TZ (d + 1) 61 117 [some (.inr 39), some (.inl x1), some (.inl x2), some (.inl (Z 41 (x2 - 1))), some (.inl (Z 41 (x2 + 1)))] [.inl 1] Z95 (zri Q))
            refine z0 (op := 7) (a := 1) (b := 0) (by rfl) (by rfl) (?_ : TZ (d + 1) 61 118 [some (.inr 39), some (.inl 1), some (.inl x2), some (.inl (Z 41 (x2 - 1))), some (.inl (Z 41 (x2 + 1)))] [] Z95 (zri Q))
            refine z0 (op := 11) (a := 2) (b := 1) (by rfl) (by rfl) (?_ : TZ (d + 1) 61 121 [some (.inr 39), some (.inl 1), some (.inl (x2 + 1)), some (.inl (Z 41 (x2 - 1))), some (.inl (Z 41 (x2 + 1)))] [] Z95 (zri Q))
            refine z_goto (t := 4) (by rfl) (by rfl) (?_ : TZ (d + 1) 61 4 [some (.inr 39), some (.inl 1), some (.inl (x2 + 1)), some (.inl (Z 41 (x2 - 1))), some (.inl (Z 41 (x2 + 1)))] [] Z95 (zri Q))
            exact v
          · have v := v2 h97; clear v1 v2
            show TZ (d + 1) 61 97 [some (.inr 39), some (.inl x1), some (.inl x2), some (.inl (Z 41 (x2 - 1))), some (.inl (Z 41 (x2 + 1)))] [] Z95 (zri Q)
            refine z0 (op := 5) (a := 0) (b := 0) (by rfl) (by rfl) (?_ : TZ (d + 1) 61 98 [some (.inr 39), some (.inl x1), some (.inl x2), some (.inl (Z 41 (x2 - 1))), some (.inl (Z 41 (x2 + 1)))] [.inr 39] Z95 (zri Q))
            refine z_fr (by rfl) fr46_39 (?_ : TZ (d + 1) 61 101 [some (.inr 39), some (.inl x1), some (.inl x2), some (.inl (Z 41 (x2 - 1))), some (.inl (Z 41 (x2 + 1)))] [.inr 42] Z95 (zri Q))
            refine z0 (op := 3) (a := 2) (b := 0) (by rfl) (by rfl) (?_ : TZ (d + 1) 61 102 [some (.inr 39), some (.inl x1), some (.inl x2), some (.inl (Z 41 (x2 - 1))), some (.inl (Z 41 (x2 + 1)))] [.inl x2, .inr 42] Z95 (zri Q))
            obtain ⟨c98, v⟩ := v
            refine z_al (by rfl) ln_42 c98 (?_ : TZ (d + 1) 61 103 [some (.inr 39), some (.inl x1), some (.inl x2), some (.inl (Z 41 (x2 - 1))), some (.inl (Z 41 (x2 + 1)))] [.inl (Z95 42 x2)] Z95 (zri Q))
            refine z0 (op := 5) (a := 0) (b := 0) (by rfl) (by rfl) (?_ : TZ (d + 1) 61 104 [some (.inr 39), some (.inl x1), some (.inl x2), some (.inl (Z 41 (x2 - 1))), some (.inl (Z 41 (x2 + 1)))] [.inr 39, .inl (Z95 42 x2)] Z95 (zri Q))
            refine z_fr (by rfl) fr45_39 (?_ : TZ (d + 1) 61 107 [some (.inr 39), some (.inl x1), some (.inl x2), some (.inl (Z 41 (x2 - 1))), some (.inl (Z 41 (x2 + 1)))] [.inr 41, .inl (Z95 42 x2)] Z95 (zri Q))
            refine z0 (op := 3) (a := 2) (b := 0) (by rfl) (by rfl) (?_ : TZ (d + 1) 61 108 [some (.inr 39), some (.inl x1), some (.inl x2), some (.inl (Z 41 (x2 - 1))), some (.inl (Z 41 (x2 + 1)))] [.inl x2, .inr 41, .inl (Z95 42 x2)] Z95 (zri Q))
            obtain ⟨c99, v⟩ := v
            refine z_al (by rfl) ln_41 c99 (?_ : TZ (d + 1) 61 109 [some (.inr 39), some (.inl x1), some (.inl x2), some (.inl (Z 41 (x2 - 1))), some (.inl (Z 41 (x2 + 1)))] [.inl (Z95 41 x2), .inl (Z95 42 x2)] Z95 (zri Q))
            obtain ⟨c100, c101, v1, v2⟩ := v
            refine z_if2 (a := 0) (t := 116) (by rfl) (by rfl) c100 c101 (fun h102 => ?_) (fun h102 => ?_)
            · have v := v1 h102; clear v1 v2
              show TZ (d + 1) 61 116 [some (.inr 39), some (.inl x1), some (.inl x2), some (.inl (Z 41 (x2 - 1))), some (.inl (Z 41 (x2 + 1)))] [] Z95 (zri Q)
              refine z0 (op := 0) (a := 0) (b := 0) (by rfl) (by rfl) (?_ : TZ (d + 1) 61 117 [some (.inr 39), some (.inl x1), some (.inl x2), some (.inl (Z 41 (x2 - 1))), some (.inl (Z 41 (x2 + 1)))] [.inl 0] Z95 (zri Q))
              refine z0 (op := 7) (a := 1) (b := 0) (by rfl) (by rfl) (?_ : TZ (d + 1) 61 118 [some (.inr 39), some (.inl 0), some (.inl x2), some (.inl (Z 41 (x2 - 1))), some (.inl (Z 41 (x2 + 1)))] [] Z95 (zri Q))
              refine z0 (op := 11) (a := 2) (b := 1) (by rfl) (by rfl) (?_ : TZ (d + 1) 61 121 [some (.inr 39), some (.inl 0), some (.inl (x2 + 1)), some (.inl (Z 41 (x2 - 1))), some (.inl (Z 41 (x2 + 1)))] [] Z95 (zri Q))
              refine z_goto (t := 4) (by rfl) (by rfl) (?_ : TZ (d + 1) 61 4 [some (.inr 39), some (.inl 0), some (.inl (x2 + 1)), some (.inl (Z 41 (x2 - 1))), some (.inl (Z 41 (x2 + 1)))] [] Z95 (zri Q))
              exact v
            · have v := v2 h102; clear v1 v2
              show TZ (d + 1) 61 112 [some (.inr 39), some (.inl x1), some (.inl x2), some (.inl (Z 41 (x2 - 1))), some (.inl (Z 41 (x2 + 1)))] [] Z95 (zri Q)
              refine z0 (op := 0) (a := 0) (b := 1) (by rfl) (by rfl) (?_ : TZ (d + 1) 61 113 [some (.inr 39), some (.inl x1), some (.inl x2), some (.inl (Z 41 (x2 - 1))), some (.inl (Z 41 (x2 + 1)))] [.inl 1] Z95 (zri Q))
              refine z_goto (t := 117) (by rfl) (by rfl) (?_ : TZ (d + 1) 61 117 [some (.inr 39), some (.inl x1), some (.inl x2), some (.inl (Z 41 (x2 - 1))), some (.inl (Z 41 (x2 + 1)))] [.inl 1] Z95 (zri Q))
              refine z0 (op := 7) (a := 1) (b := 0) (by rfl) (by rfl) (?_ : TZ (d + 1) 61 118 [some (.inr 39), some (.inl 1), some (.inl x2), some (.inl (Z 41 (x2 - 1))), some (.inl (Z 41 (x2 + 1)))] [] Z95 (zri Q))
              refine z0 (op := 11) (a := 2) (b := 1) (by rfl) (by rfl) (?_ : TZ (d + 1) 61 121 [some (.inr 39), some (.inl 1), some (.inl (x2 + 1)), some (.inl (Z 41 (x2 - 1))), some (.inl (Z 41 (x2 + 1)))] [] Z95 (zri Q))
              refine z_goto (t := 4) (by rfl) (by rfl) (?_ : TZ (d + 1) 61 4 [some (.inr 39), some (.inl 1), some (.inl (x2 + 1)), some (.inl (Z 41 (x2 - 1))), some (.inl (Z 41 (x2 + 1)))] [] Z95 (zri Q))
              exact v
        · have v := v2 h90; clear v1 v2
          show TZ (d + 1) 61 71 [some (.inr 39), some (.inl x1), some (.inl x2), some (.inl (Z 41 (x2 - 1))), some (.inl (Z 41 (x2 + 1)))] [.inl x2, .inr 42] Z (zri Q)
          refine z0 (op := 5) (a := 0) (b := 0) (by rfl) (by rfl) (?_ : TZ (d + 1) 61 72 [some (.inr 39), some (.inl x1), some (.inl x2), some (.inl (Z 41 (x2 - 1))), some (.inl (Z 41 (x2 + 1)))] [.inr 39, .inl x2, .inr 42] Z (zri Q))
          refine z_fr (by rfl) fr45_39 (?_ : TZ (d + 1) 61 75 [some (.inr 39), some (.inl x1), some (.inl x2), some (.inl (Z 41 (x2 - 1))), some (.inl (Z 41 (x2 + 1)))] [.inr 41, .inl x2, .inr 42] Z (zri Q))
          refine z0 (op := 3) (a := 2) (b := 0) (by rfl) (by rfl) (?_ : TZ (d + 1) 61 76 [some (.inr 39), some (.inl x1), some (.inl x2), some (.inl (Z 41 (x2 - 1))), some (.inl (Z 41 (x2 + 1)))] [.inl x2, .inr 41, .inl x2, .inr 42] Z (zri Q))
          obtain ⟨c103, v⟩ := v
          refine z_al (by rfl) ln_41 c103 (?_ : TZ (d + 1) 61 77 [some (.inr 39), some (.inl x1), some (.inl x2), some (.inl (Z 41 (x2 - 1))), some (.inl (Z 41 (x2 + 1)))] [.inl (Z 41 x2), .inl x2, .inr 42] Z (zri Q))
          refine z_goto (t := 92) (by rfl) (by rfl) (?_ : TZ (d + 1) 61 92 [some (.inr 39), some (.inl x1), some (.inl x2), some (.inl (Z 41 (x2 - 1))), some (.inl (Z 41 (x2 + 1)))] [.inl (Z 41 x2), .inl x2, .inr 42] Z (zri Q))
          obtain ⟨c104, v⟩ := v
          obtain ⟨Z105, eZ105⟩ : ∃ zz, zz = zup Z 42 x2 (Z 41 x2) := ⟨_, rfl⟩
          have v := v Z105 eZ105
          refine z_as (by rfl) ln_42 c104 ?_
          show TZ (d + 1) 61 93 [some (.inr 39), some (.inl x1), some (.inl x2), some (.inl (Z 41 (x2 - 1))), some (.inl (Z 41 (x2 + 1)))] [] (zup Z 42 x2 (Z 41 x2)) _
          rw [← eZ105]
          refine z0 (op := 3) (a := 1) (b := 0) (by rfl) (by rfl) (?_ : TZ (d + 1) 61 94 [some (.inr 39), some (.inl x1), some (.inl x2), some (.inl (Z 41 (x2 - 1))), some (.inl (Z 41 (x2 + 1)))] [.inl x1] Z105 (zri Q))
          obtain ⟨c106, v1, v2⟩ := v
          refine z_if0 (a := 1) (t := 112) (by rfl) (by rfl) c106 (fun h107 => ?_) (fun h107 => ?_)
          · have v := v1 h107; clear v1 v2
            show TZ (d + 1) 61 112 [some (.inr 39), some (.inl x1), some (.inl x2), some (.inl (Z 41 (x2 - 1))), some (.inl (Z 41 (x2 + 1)))] [] Z105 (zri Q)
            refine z0 (op := 0) (a := 0) (b := 1) (by rfl) (by rfl) (?_ : TZ (d + 1) 61 113 [some (.inr 39), some (.inl x1), some (.inl x2), some (.inl (Z 41 (x2 - 1))), some (.inl (Z 41 (x2 + 1)))] [.inl 1] Z105 (zri Q))
            refine z_goto (t := 117) (by rfl) (by rfl) (?_ : TZ (d + 1) 61 117 [some (.inr 39), some (.inl x1), some (.inl x2), some (.inl (Z 41 (x2 - 1))), some (.inl (Z 41 (x2 + 1)))] [.inl 1] Z105 (zri Q))
            refine z0 (op := 7) (a := 1) (b := 0) (by rfl) (by rfl) (?_ : TZ (d + 1) 61 118 [some (.inr 39), some (.inl 1), some (.inl x2), some (.inl (Z 41 (x2 - 1))), some (.inl (Z 41 (x2 + 1)))] [] Z105 (zri Q))
            refine z0 (op := 11) (a := 2) (b := 1) (by rfl) (by rfl) (?_ : TZ (d + 1) 61 121 [some (.inr 39), some (.inl 1), some (.inl (x2 + 1)), some (.inl (Z 41 (x2 - 1))), some (.inl (Z 41 (x2 + 1)))] [] Z105 (zri Q))
            refine z_goto (t := 4) (by rfl) (by rfl) (?_ : TZ (d + 1) 61 4 [some (.inr 39), some (.inl 1), some (.inl (x2 + 1)), some (.inl (Z 41 (x2 - 1))), some (.inl (Z 41 (x2 + 1)))] [] Z105 (zri Q))
            exact v
          · have v := v2 h107; clear v1 v2
            show TZ (d + 1) 61 97 [some (.inr 39), some (.inl x1), some (.inl x2), some (.inl (Z 41 (x2 - 1))), some (.inl (Z 41 (x2 + 1)))] [] Z105 (zri Q)
            refine z0 (op := 5) (a := 0) (b := 0) (by rfl) (by rfl) (?_ : TZ (d + 1) 61 98 [some (.inr 39), some (.inl x1), some (.inl x2), some (.inl (Z 41 (x2 - 1))), some (.inl (Z 41 (x2 + 1)))] [.inr 39] Z105 (zri Q))
            refine z_fr (by rfl) fr46_39 (?_ : TZ (d + 1) 61 101 [some (.inr 39), some (.inl x1), some (.inl x2), some (.inl (Z 41 (x2 - 1))), some (.inl (Z 41 (x2 + 1)))] [.inr 42] Z105 (zri Q))
            refine z0 (op := 3) (a := 2) (b := 0) (by rfl) (by rfl) (?_ : TZ (d + 1) 61 102 [some (.inr 39), some (.inl x1), some (.inl x2), some (.inl (Z 41 (x2 - 1))), some (.inl (Z 41 (x2 + 1)))] [.inl x2, .inr 42] Z105 (zri Q))
            obtain ⟨c108, v⟩ := v
            refine z_al (by rfl) ln_42 c108 (?_ : TZ (d + 1) 61 103 [some (.inr 39), some (.inl x1), some (.inl x2), some (.inl (Z 41 (x2 - 1))), some (.inl (Z 41 (x2 + 1)))] [.inl (Z105 42 x2)] Z105 (zri Q))
            refine z0 (op := 5) (a := 0) (b := 0) (by rfl) (by rfl) (?_ : TZ (d + 1) 61 104 [some (.inr 39), some (.inl x1), some (.inl x2), some (.inl (Z 41 (x2 - 1))), some (.inl (Z 41 (x2 + 1)))] [.inr 39, .inl (Z105 42 x2)] Z105 (zri Q))
            refine z_fr (by rfl) fr45_39 (?_ : TZ (d + 1) 61 107 [some (.inr 39), some (.inl x1), some (.inl x2), some (.inl (Z 41 (x2 - 1))), some (.inl (Z 41 (x2 + 1)))] [.inr 41, .inl (Z105 42 x2)] Z105 (zri Q))
            refine z0 (op := 3) (a := 2) (b := 0) (by rfl) (by rfl) (?_ : TZ (d + 1) 61 108 [some (.inr 39), some (.inl x1), some (.inl x2), some (.inl (Z 41 (x2 - 1))), some (.inl (Z 41 (x2 + 1)))] [.inl x2, .inr 41, .inl (Z105 42 x2)] Z105 (zri Q))
            obtain ⟨c109, v⟩ := v
            refine z_al (by rfl) ln_41 c109 (?_ : TZ (d + 1) 61 109 [some (.inr 39), some (.inl x1), some (.inl x2), some (.inl (Z 41 (x2 - 1))), some (.inl (Z 41 (x2 + 1)))] [.inl (Z105 41 x2), .inl (Z105 42 x2)] Z105 (zri Q))
            obtain ⟨c110, c111, v1, v2⟩ := v
            refine z_if2 (a := 0) (t := 116) (by rfl) (by rfl) c110 c111 (fun h112 => ?_) (fun h112 => ?_)
            · have v := v1 h112; clear v1 v2
              show TZ (d + 1) 61 116 [some (.inr 39), some (.inl x1), some (.inl x2), some (.inl (Z 41 (x2 - 1))), some (.inl (Z 41 (x2 + 1)))] [] Z105 (zri Q)
              refine z0 (op := 0) (a := 0) (b := 0) (by rfl) (by rfl) (?_ : TZ (d + 1) 61 117 [some (.inr 39), some (.inl x1), some (.inl x2), some (.inl (Z 41 (x2 - 1))), some (.inl (Z 41 (x2 + 1)))] [.inl 0] Z105 (zri Q))
              refine z0 (op := 7) (a := 1) (b := 0) (by rfl) (by rfl) (?_ : TZ (d + 1) 61 118 [some (.inr 39), some (.inl 0), some (.inl x2), some (.inl (Z 41 (x2 - 1))), some (.inl (Z 41 (x2 + 1)))] [] Z105 (zri Q))
              refine z0 (op := 11) (a := 2) (b := 1) (by rfl) (by rfl) (?_ : TZ (d + 1) 61 121 [some (.inr 39), some (.inl 0), some (.inl (x2 + 1)), some (.inl (Z 41 (x2 - 1))), some (.inl (Z 41 (x2 + 1)))] [] Z105 (zri Q))
              refine z_goto (t := 4) (by rfl) (by rfl) (?_ : TZ (d + 1) 61 4 [some (.inr 39), some (.inl 0), some (.inl (x2 + 1)), some (.inl (Z 41 (x2 - 1))), some (.inl (Z 41 (x2 + 1)))] [] Z105 (zri Q))
              exact v
            · have v := v2 h112; clear v1 v2
              show TZ (d + 1) 61 112 [some (.inr 39), some (.inl x1), some (.inl x2), some (.inl (Z 41 (x2 - 1))), some (.inl (Z 41 (x2 + 1)))] [] Z105 (zri Q)
              refine z0 (op := 0) (a := 0) (b := 1) (by rfl) (by rfl) (?_ : TZ (d + 1) 61 113 [some (.inr 39), some (.inl x1), some (.inl x2), some (.inl (Z 41 (x2 - 1))), some (.inl (Z 41 (x2 + 1)))] [.inl 1] Z105 (zri Q))
              refine z_goto (t := 117) (by rfl) (by rfl) (?_ : TZ (d + 1) 61 117 [some (.inr 39), some (.inl x1), some (.inl x2), some (.inl (Z 41 (x2 - 1))), some (.inl (Z 41 (x2 + 1)))] [.inl 1] Z105 (zri Q))
              refine z0 (op := 7) (a := 1) (b := 0) (by rfl) (by rfl) (?_ : TZ (d + 1) 61 118 [some (.inr 39), some (.inl 1), some (.inl x2), some (.inl (Z 41 (x2 - 1))), some (.inl (Z 41 (x2 + 1)))] [] Z105 (zri Q))
              refine z0 (op := 11) (a := 2) (b := 1) (by rfl) (by rfl) (?_ : TZ (d + 1) 61 121 [some (.inr 39), some (.inl 1), some (.inl (x2 + 1)), some (.inl (Z 41 (x2 - 1))), some (.inl (Z 41 (x2 + 1)))] [] Z105 (zri Q))
              refine z_goto (t := 4) (by rfl) (by rfl) (?_ : TZ (d + 1) 61 4 [some (.inr 39), some (.inl 1), some (.inl (x2 + 1)), some (.inl (Z 41 (x2 - 1))), some (.inl (Z 41 (x2 + 1)))] [] Z105 (zri Q))
              exact v
theorem w62_0 {d : Nat} {x0 x1 x2 : Int} {Z : zM} {Q : Int → zM → Prop}
    (v : zR x0 ∧
      zR x1 ∧
      zR x0 ∧
      zR x1 ∧
      zR (max x0 x1) ∧
      zR x2 ∧
      zR (min x0 x1) ∧
      zR (min (max x0 x1) x2) ∧ Q (max (min x0 x1) (min (max x0 x1) x2)) Z) :
    TZ (d + 1) 62 0 [some (.inl x0), some (.inl x1), some (.inl x2)] [] Z (zri Q) := by
  refine z0 (op := 3) (a := 0) (b := 0) (by rfl) (by rfl) (?_ : TZ (d + 1) 62 1 [some (.inl x0), some (.inl x1), some (.inl x2)] [.inl x0] Z (zri Q))
  refine z0 (op := 3) (a := 1) (b := 0) (by rfl) (by rfl) (?_ : TZ (d + 1) 62 2 [some (.inl x0), some (.inl x1), some (.inl x2)] [.inl x1, .inl x0] Z (zri Q))
  obtain ⟨c1, c2, v⟩ := v
  refine z_min (by rfl) (by rfl) (Nat.le_of_ble_eq_true rfl) c1 c2 (?_ : TZ (d + 1) 62 5 [some (.inl x0), some (.inl x1), some (.inl x2)] [.inl (min x0 x1)] Z (zri Q))
  refine z0 (op := 3) (a := 0) (b := 0) (by rfl) (by rfl) (?_ : TZ (d + 1) 62 6 [some (.inl x0), some (.inl x1), some (.inl x2)] [.inl x0, .inl (min x0 x1)] Z (zri Q))
  refine z0 (op := 3) (a := 1) (b := 0) (by rfl) (by rfl) (?_ : TZ (d + 1) 62 7 [some (.inl x0), some (.inl x1), some (.inl x2)] [.inl x1, .inl x0, .inl (min x0 x1)] Z (zri Q))
  obtain ⟨c3, c4, v⟩ := v
  refine z_max (by rfl) (by rfl) (Nat.le_of_ble_eq_true rfl) c3 c4 (?_ : TZ (d + 1) 62 10 [some (.inl x0), some (.inl x1), some (.inl x2)] [.inl (max x0 x1), .inl (min x0 x1)] Z (zri Q))
  refine z0 (op := 3) (a := 2) (b := 0) (by rfl) (by rfl) (?_ : TZ (d + 1) 62 11 [some (.inl x0), some (.inl x1), some (.inl x2)] [.inl x2, .inl (max x0 x1), .inl (min x0 x1)] Z (zri Q))
  obtain ⟨c5, c6, v⟩ := v
  refine z_min (by rfl) (by rfl) (Nat.le_of_ble_eq_true rfl) c5 c6 (?_ : TZ (d + 1) 62 14 [some (.inl x0), some (.inl x1), some (.inl x2)] [.inl (min (max x0 x1) x2), .inl (min x0 x1)] Z (zri Q))
  obtain ⟨c7, c8, v⟩ := v
  refine z_max (by rfl) (by rfl) (Nat.le_of_ble_eq_true rfl) c7 c8 (?_ : TZ (d + 1) 62 17 [some (.inl x0), some (.inl x1), some (.inl x2)] [.inl (max (min x0 x1) (min (max x0 x1) x2))] Z (zri Q))
  exact z_reti (by rfl) (by rfl) v
theorem w63_0 {d : Nat} {Z : zM} {Q : Int → zM → Prop}
    (v : TZ d 63 4 [some (.inr 39), some (.inl 0), some (.inl 0)] [] Z (zri Q)) :
    TZ d 63 0 [some (.inr 39), none, none] [] Z (zri Q) := by
  refine z0 (op := 0) (a := 0) (b := 0) (by rfl) (by rfl) (?_ : TZ d 63 1 [some (.inr 39), none, none] [.inl 0] Z (zri Q))
  refine z0 (op := 7) (a := 1) (b := 0) (by rfl) (by rfl) (?_ : TZ d 63 2 [some (.inr 39), some (.inl 0), none] [] Z (zri Q))
  refine z0 (op := 0) (a := 0) (b := 0) (by rfl) (by rfl) (?_ : TZ d 63 3 [some (.inr 39), some (.inl 0), none] [.inl 0] Z (zri Q))
  refine z0 (op := 7) (a := 2) (b := 0) (by rfl) (by rfl) (?_ : TZ d 63 4 [some (.inr 39), some (.inl 0), some (.inl 0)] [] Z (zri Q))
  exact v
theorem w63_4 {d : Nat} {x1 x2 : Int} {Z : zM} {Q : Int → zM → Prop}
    (v : zR x2 ∧
      zR (Z 39 3) ∧
      ((Z 39 3) ≤ x2 → TI d 0 [.inl x1] Z (fun r5 Z4 =>
          Q r5 Z4)) ∧
      (¬ (Z 39 3) ≤ x2 → ((0 ≤ x2 ∧ x2 < 12) ∧ TZ (d + 1) 63 4 [some (.inr 39), some (.inl (zbit 4 x1 (zbit 6 1 (Z 41 x2)))), some (.inl (x2 + 1))] [] Z (zri Q)))) :
    TZ (d + 1) 63 4 [some (.inr 39), some (.inl x1), some (.inl x2)] [] Z (zri Q) := by
  refine z0 (op := 3) (a := 2) (b := 0) (by rfl) (by rfl) (?_ : TZ (d + 1) 63 5 [some (.inr 39), some (.inl x1), some (.inl x2)] [.inl x2] Z (zri Q))
  refine z0 (op := 5) (a := 0) (b := 0) (by rfl) (by rfl) (?_ : TZ (d + 1) 63 6 [some (.inr 39), some (.inl x1), some (.inl x2)] [.inr 39, .inl x2] Z (zri Q))
  refine z_fi (by rfl) fi47_39 (?_ : TZ (d + 1) 63 9 [some (.inr 39), some (.inl x1), some (.inl x2)] [.inl (Z 39 3), .inl x2] Z (zri Q))
  obtain ⟨c1, c2, v1, v2⟩ := v
  refine z_if2 (a := 3) (t := 29) (by rfl) (by rfl) c1 c2 (fun h3 => ?_) (fun h3 => ?_)
  · have v := v1 h3; clear v1 v2
    show TZ (d + 1) 63 29 [some (.inr 39), some (.inl x1), some (.inl x2)] [] Z (zri Q)
    refine z0 (op := 3) (a := 1) (b := 0) (by rfl) (by rfl) (?_ : TZ (d + 1) 63 30 [some (.inr 39), some (.inl x1), some (.inl x2)] [.inl x1] Z (zri Q))
    refine z_si (by rfl) (by rfl) (TI.mono v fun r5 Z4 v => ?_)
    show TZ (d + 1) 63 33 [some (.inr 39), some (.inl x1), some (.inl x2)] [.inl r5] Z4 (zri Q)
    exact z_reti (by rfl) (by rfl) v
  · have v := v2 h3; clear v1 v2
    show TZ (d + 1) 63 12 [some (.inr 39), some (.inl x1), some (.inl x2)] [] Z (zri Q)
    refine z0 (op := 3) (a := 1) (b := 0) (by rfl) (by rfl) (?_ : TZ (d + 1) 63 13 [some (.inr 39), some (.inl x1), some (.inl x2)] [.inl x1] Z (zri Q))
    refine z0 (op := 0) (a := 0) (b := 1) (by rfl) (by rfl) (?_ : TZ (d + 1) 63 14 [some (.inr 39), some (.inl x1), some (.inl x2)] [.inl 1, .inl x1] Z (zri Q))
    refine z0 (op := 5) (a := 0) (b := 0) (by rfl) (by rfl) (?_ : TZ (d + 1) 63 15 [some (.inr 39), some (.inl x1), some (.inl x2)] [.inr 39, .inl 1, .inl x1] Z (zri Q))
    refine z_fr (by rfl) fr45_39 (?_ : TZ (d + 1) 63 18 [some (.inr 39), some (.inl x1), some (.inl x2)] [.inr 41, .inl 1, .inl x1] Z (zri Q))
    refine z0 (op := 3) (a := 2) (b := 0) (by rfl) (by rfl) (?_ : TZ (d + 1) 63 19 [some (.inr 39), some (.inl x1), some (.inl x2)] [.inl x2, .inr 41, .inl 1, .inl x1] Z (zri Q))
    obtain ⟨c6, v⟩ := v
    refine z_al (by rfl) ln_41 c6 (?_ : TZ (d + 1) 63 20 [some (.inr 39), some (.inl x1), some (.inl x2)] [.inl (Z 41 x2), .inl 1, .inl x1] Z (zri Q))
    refine z0 (op := 12) (a := 6) (b := 0) (by rfl) (by rfl) (?_ : TZ (d + 1) 63 21 [some (.inr 39), some (.inl x1), some (.inl x2)] [.inl (zbit 6 1 (Z 41 x2)), .inl x1] Z (zri Q))
    refine z0 (op := 12) (a := 4) (b := 0) (by rfl) (by rfl) (?_ : TZ (d + 1) 63 22 [some (.inr 39), some (.inl x1), some (.inl x2)] [.inl (zbit 4 x1 (zbit 6 1 (Z 41 x2)))] Z (zri Q))
    refine z0 (op := 7) (a := 1) (b := 0) (by rfl) (by rfl) (?_ : TZ (d + 1) 63 23 [some (.inr 39), some (.inl (zbit 4 x1 (zbit 6 1 (Z 41 x2)))), some (.inl x2)] [] Z (zri Q))
    refine z0 (op := 11) (a := 2) (b := 1) (by rfl) (by rfl) (?_ : TZ (d + 1) 63 26 [some (.inr 39), some (.inl (zbit 4 x1 (zbit 6 1 (Z 41 x2)))), some (.inl (x2 + 1))] [] Z (zri Q))
    refine z_goto (t := 4) (by rfl) (by rfl) (?_ : TZ (d + 1) 63 4 [some (.inr 39), some (.inl (zbit 4 x1 (zbit 6 1 (Z 41 x2)))), some (.inl (x2 + 1))] [] Z (zri Q))
    exact v
