/-! the class holds the first state -/
theorem LoC.x {w w' : Wd} (h : LoC w) (hO : OldX w w' 42) : LoC w' := by
  obtain ⟨⟨a1, a2, a3, a4, a5⟩, ⟨b1, b2, b3, b4, b5, b6, b7, b8, b9⟩, c1, ⟨d1, d2⟩, e1, ⟨f1, f2, f3, f4, f5, f6, f7, f8⟩, g1, g2, g3⟩ := h
  have s : ∀ a, a < 42 → sh w' a = sh w a := fun a ha => (hO a ha).1
  have i : ∀ a, a < 42 → ∀ k, wi w' a k = wi w a k := fun a ha => (hO a ha).2.1
  have r : ∀ a, a < 42 → ∀ k, ¬ (a = 32 ∧ (k = 3 ∨ k = 4 ∨ k = 5 ∨ k = 7)) → wr w' a k = wr w a k := fun a ha => (hO a ha).2.2
  have r1 : wr w' 38 1 = wr w 38 1 := r 38 (by decide) 1 (by decide)
  have r4 : wr w' 38 4 = wr w 38 4 := r 38 (by decide) 4 (by decide)
  refine ⟨⟨by rw [s 32 (by decide)]; exact a1, by rw [r 32 (by decide) 0 (by decide)]; exact a2, by rw [r 32 (by decide) 1 (by decide)]; exact a3, by rw [i 32 (by decide)]; exact a4, by rw [i 32 (by decide)]; exact a5⟩, ⟨by rw [s 33 (by decide)]; exact b1, by rw [r 33 (by decide) 0 (by decide)]; exact b2, by rw [r 33 (by decide) 2 (by decide)]; exact b3, by rw [r 33 (by decide) 3 (by decide)]; exact b4, by rw [r 33 (by decide) 6 (by decide)]; exact b5, by rw [s 34 (by decide)]; exact b6, by rw [s 35 (by decide)]; exact b7, by rw [s 36 (by decide)]; exact b8, by rw [s 37 (by decide)]; exact b9⟩, by rw [i 33 (by decide)]; exact c1, ⟨by rw [s 41 (by decide)]; exact d1, by rw [r 41 (by decide) 0 (by decide)]; exact d2⟩, e1, ⟨by rw [s 38 (by decide)]; exact f1, ?_, ?_, by rw [i 38 (by decide)]; exact f4, by rw [i 38 (by decide)]; exact f5, ?_, by rw [r1, r4]; exact f7, f8⟩, by rw [r1]; exact g1, by rw [r4]; exact g2, by rw [i 38 (by decide)]; exact g3⟩
  · rw [r1, g1, s 39 (by decide), ← g1]; exact f2
  · intro j c hc
    rw [r1, g1, i 39 (by decide), ← g1]
    exact f3 j c hc
  · have f6' := f6
    rw [g2] at f6'
    rw [r4, g2, s 40 (by decide)]
    exact f6'
theorem UpC.old {w w' : Wd} (h : UpC w) (hO : OldW w w' 75) : UpC w' := by
  obtain ⟨h1, h2, h3, ⟨a1, a2, a3, a4⟩, h5, h6⟩ := h
  have o32 := (hO 32 (by decide)).2.2
  have o66 := hO 66 (by decide)
  exact ⟨h1.oldX hO.x (by decide) (by decide), h2.oldX hO.x (by decide) (by decide), h3.oldX hO.x (by decide) (by decide), ⟨by rw [o32]; exact a1, by rw [o32]; exact a2, by rw [o32]; exact a3, by rw [o32]; exact a4⟩, by rw [o66.1]; exact h5, fun s hs => ⟨by rw [o66.2.2]; exact (h6 s hs).1, (h6 s hs).2.old hO (by omega)⟩⟩
theorem HI.hs {w : Wd} {a : Nat} (h : HI w a 38 6) : HutS w a := ⟨h.1, h.2.1, h.2.2.1, h.2.2.2.2.2.2⟩
theorem rc0 {w : Wd} (hL : LoC w) (hU : UpC w) (hx : nx w = 94) : RC S0 w := by
  obtain ⟨⟨a1, a2, a3, a4, a5⟩, hb, c1, ⟨d1, d2⟩, e1, f, g1, g2, g3⟩ := hL
  obtain ⟨h1, h2, h3, ⟨r1, r2, r3, r4⟩, h5, h6⟩ := hU
  have e0 : pgs S0.2.1 0 = pgT (mT (tkV fT)) := rfl
  refine ⟨⟨⟨a1, a2, a3, r1, r2, r3, r4⟩, hb, ⟨d1, h5⟩, ⟨h1.hs, h2.hs, h3.hs⟩, fun s hs => ?_⟩, ⟨⟨h1.1, h1.2.1, h1.2.2.1, h1.2.2.2.2.2.2, h1.2.2.2.2.1, h1.2.2.2.2.2.1, Nat.zero_le _, fun b hb => absurd hb (Nat.not_lt_zero b), ?_, e1.1⟩, h1.2.2.2.1, Nat.zero_lt_one⟩, ⟨a4, hx, fun t ht => ?_⟩, ⟨c1, fun j b hb => ?_⟩, ⟨a5, fun c hc => ?_⟩, fun s hs => ?_⟩
  · obtain ⟨z1, z2, z3, z4, z5, z6⟩ := h6 s hs
    exact ⟨z1, z2, by rw [z3]; omega, by rw [show 68 + 2 * s = 67 + 2 * s + 1 by omega]; exact z4⟩
  · rw [h1.2.2.2.1]
    exact f
  · have t0 : t = 0 := by have : t < 1 := ht; omega
    subst t0
    exact ⟨d2, g3, f, g1, g2⟩
  · have z : ([] : List Int32)[j]? = some b := hb
    simp at z
  · have z : (none : Option CO) = some c := hc
    cases z
  · obtain ⟨z1, z2, z3, z4, z5, z6⟩ := h6 s hs
    refine ⟨z5, z6, fun k x hk => ?_⟩
    have z : ([] : List Int32)[k]? = some x := hk
    simp at z
theorem cls_i : ∃ w', f5_init 32 (wN w00 5 0) = some ((), w') ∧ nx w' = 75 ∧ okPG (pgT (mT (tkV fT))) ∧ ∀ w2, OldW w' w2 75 → nx w2 = 94 → RC S0 w2 := by
  obtain ⟨w1, a1, a2, a3⟩ := first_i
  obtain ⟨w2, b1, b2, b3, b4⟩ := rest_i a3.1.1 a2
  refine ⟨w2, by rw [a1, b1], b3, a3.2.2.2.2.1, fun w3 hO hx => ?_⟩
  exact rc0 ((a3.x b2).x (hO.x.le (by decide))) (b4.old hO) hx
