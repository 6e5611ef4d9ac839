/-! the law says 1 -/
theorem SI0 (hok : okPG (pgT (mT (tkV fT)))) : SI S0 := by
  have nilb : ∀ b ∈ ([] : List Int32), rng b 0 255 := fun b hb => absurd hb List.not_mem_nil
  refine ⟨⟨Nat.zero_le _, Nat.zero_lt_one, ⟨⟨by decide, by decide⟩, ⟨by decide, by decide⟩, fun b hb => absurd hb (Nat.not_lt_zero b)⟩, ⟨by decide, by decide⟩, ⟨by decide, by decide⟩⟩, ⟨Nat.le_refl 1, by decide, fun t ht => ?_⟩, ⟨Nat.zero_le _, nilb⟩, fun c hc => ?_, fun s hs => ⟨(show rng (-1) (-1) 2 from ⟨by decide, by decide⟩), Nat.zero_le _, fun _ => rfl⟩⟩
  · have t0 : t = 0 := by have : t < 1 := ht; omega
    subst t0
    exact hok
  · have z : (none : Option CO) = some c := hc
    cases z
theorem law_ok : ∀ (L : Nat) (xs : Nat → Int32), L ≤ 3584 → ∃ w1, fL_law L xs w00 = some (1, w1) := by
  intro L xs hL
  obtain ⟨w1, a1, a2, hok, a3⟩ := cls_i
  have P0 : PreM 0 w1 (wN w1 6 0) := ⟨by rw [sh_wN, a2, if_pos rfl], by rw [nx_wN, a2], fun j hj => absurd hj (Nat.not_lt_zero j), fun k => by rw [wi_wN, a2, if_pos rfl], fun j hj => absurd hj (Nat.not_lt_zero j), oldN (by omega)⟩
  obtain ⟨w2, b1, b2⟩ := pre_18 P0
  obtain ⟨w3, c1, c2, c3, c4, c5⟩ := ref_i b2 hok
  have G : GD S0 w3 := ⟨SI0 hok, a3 w3 c4 c5, c2, c3⟩
  obtain ⟨w4, d1⟩ := law_go (xs := xs) hL 513 0 S0 w3 (by decide) (by omega) G
  refine ⟨w4, ?_⟩
  have n0 : nx w00 = 32 := rfl
  unfold fL_law
  rw [lw_eq, n0, a1, Option.bind_some, a2, lw_eq, b1, c1, Option.bind_some]
  exact d1
