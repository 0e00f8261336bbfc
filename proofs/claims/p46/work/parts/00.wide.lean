theorem wide_ok : True := by
  have _h := @Jvm.Stand.multianewarray2F
  trivial
