/-! the reference holds the first state -/
theorem pre_18 {w0 w : Wd} (h : PreM 0 w0 w) : ∃ w', f6_init 75 w = j6_init_1065 75 w' ∧ PreM 18 w0 w' := by
  have p1 := pre_stp (by decide) h
  have p2 := pre_stp (by decide) p1
  have p3 := pre_stp (by decide) p2
  have p4 := pre_stp (by decide) p3
  have p5 := pre_stp (by decide) p4
  have p6 := pre_stp (by decide) p5
  have p7 := pre_stp (by decide) p6
  have p8 := pre_stp (by decide) p7
  have p9 := pre_stp (by decide) p8
  have p10 := pre_stp (by decide) p9
  have p11 := pre_stp (by decide) p10
  have p12 := pre_stp (by decide) p11
  have p13 := pre_stp (by decide) p12
  have p14 := pre_stp (by decide) p13
  have p15 := pre_stp (by decide) p14
  have p16 := pre_stp (by decide) p15
  have p17 := pre_stp (by decide) p16
  have p18 := pre_stp (by decide) p17
  exact ⟨_, by rw [mi_0 h, mi_1 p1, mi_2 p2, mi_3 p3, mi_4 p4, mi_5 p5, mi_6 p6, mi_7 p7, mi_8 p8, mi_9 p9, mi_10 p10, mi_11 p11, mi_12 p12, mi_13 p13, mi_14 p14, mi_15 p15, mi_16 p16, mi_17 p17], p18⟩
theorem pre_lay {w0 w : Wd} (h : PreM 18 w0 w) : LayM w ∧ W89 w ∧ (∀ k, k < 4 → wi w 79 k = h0S k) ∧ (∀ k, k < 4 → wi w 85 k = -1 ∧ wi w 86 k = 0) ∧ ∀ k, wi w 88 k = fT.getD k 0 := by
  obtain ⟨h1, h2, h3, h4, h5, h6⟩ := h
  refine ⟨⟨h1, fun x hx => ?_⟩, fun k hk => h5 13 (by decide) k, fun k hk => ?_, fun k hk => ⟨?_, ?_⟩, fun k => h5 12 (by decide) k⟩
  · obtain ⟨j, hj, e⟩ := mG_all x hx
    obtain ⟨a, b⟩ := h3 j hj
    have m := (mG_f j hj).1
    rw [← e, m]
    exact ⟨a, b⟩
  · rw [h5 3 (by decide) k]
    rcases (by omega : k = 0 ∨ k = 1 ∨ k = 2 ∨ k = 3) with rfl | rfl | rfl | rfl <;> rfl
  · rw [h5 9 (by decide) k]
    rcases (by omega : k = 0 ∨ k = 1 ∨ k = 2 ∨ k = 3) with rfl | rfl | rfl | rfl <;> rfl
  · rw [h5 10 (by decide) k]
    rfl
