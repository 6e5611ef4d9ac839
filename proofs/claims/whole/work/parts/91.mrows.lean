/-! the reference's rows, one after another -/
theorem mj_2 (w : Wd) : j6_init_20 75 w = ck (tg (wN w 20 18) 75 = 6) (j6_init_28 75 (sR (wN w 20 18) 75 3 (nx w))) := by
  exact Eq.refl (ck (tg (wN w 20 18) 75 = 6) (j6_init_28 75 (sR (wN w 20 18) 75 3 (nx w))))
