/-! the reference's rows, one after another -/
theorem lw_eq {A : Type} (w : Wd) (f : Wd → Option A) : lw w f = f w := rfl
theorem mi_3 {w0 w : Wd} (h : PreM 3 w0 w) : j6_init_28 75 w = j6_init_53 75 (stp 3 w) := by
  have hx : nx w = 79 := h.2.1
  have ht : tg (sI (sI (sI (sI (wN w 20 4) 79 ((0 : Int32)).toNatClampNeg (0 : Int32)) 79 ((1 : Int32)).toNatClampNeg (200 : Int32)) 79 ((2 : Int32)).toNatClampNeg (0 : Int32)) 79 ((3 : Int32)).toNatClampNeg (5 : Int32)) 75 = 6 := tg75 (n := 4) [0, 200, 0, 5] h
  have hs : stp 3 w = sR (sI (sI (sI (sI (wN w 20 4) 79 ((0 : Int32)).toNatClampNeg (0 : Int32)) 79 ((1 : Int32)).toNatClampNeg (200 : Int32)) 79 ((2 : Int32)).toNatClampNeg (0 : Int32)) 79 ((3 : Int32)).toNatClampNeg (5 : Int32)) 75 4 79 := rfl
  rw [hs]
  unfold j6_init_28
  rw [lw_eq, lw_eq, lw_eq, lw_eq, lw_eq, hx, ck_pos ht, lw_eq]
theorem mi_9 {w0 w : Wd} (h : PreM 9 w0 w) : j6_init_94 75 w = j6_init_117 75 (stp 9 w) := by
  have hx : nx w = 85 := h.2.1
  have ht : tg (sI (sI (sI (sI (wN w 20 4) 85 ((0 : Int32)).toNatClampNeg (-1 : Int32)) 85 ((1 : Int32)).toNatClampNeg (-1 : Int32)) 85 ((2 : Int32)).toNatClampNeg (-1 : Int32)) 85 ((3 : Int32)).toNatClampNeg (-1 : Int32)) 75 = 6 := tg75 (n := 4) [-1, -1, -1, -1] h
  have hs : stp 9 w = sR (sI (sI (sI (sI (wN w 20 4) 85 ((0 : Int32)).toNatClampNeg (-1 : Int32)) 85 ((1 : Int32)).toNatClampNeg (-1 : Int32)) 85 ((2 : Int32)).toNatClampNeg (-1 : Int32)) 85 ((3 : Int32)).toNatClampNeg (-1 : Int32)) 75 14 85 := rfl
  rw [hs]
  unfold j6_init_94
  rw [lw_eq, lw_eq, lw_eq, lw_eq, lw_eq, hx, ck_pos ht, lw_eq]
