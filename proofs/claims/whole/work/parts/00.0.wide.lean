/-! A name of the whole library ahead of all, so that a new machine reads the parts over it from the first on. -/
theorem zw_wide : True := by
  have h1 := @FP.Core.fdiv_out
  have h2 := @FP.Core.i2f_ne_zero
  have h3 := @FP.Core.isNaN_bits32
  have h4 := @FP.f2d_nan
  trivial
