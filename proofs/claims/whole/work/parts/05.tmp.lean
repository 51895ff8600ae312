theorem foo_bad : (1:Nat) = 2 := rfl
theorem chk (g : GG) : True := by
  have := @Z_callV g
  trivial
