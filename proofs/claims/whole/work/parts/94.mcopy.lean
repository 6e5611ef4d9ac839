/-! the first text goes to the reference's tape -/
theorem copy_i {w0 w : Wd} (h : PreM 18 w0 w) : ∃ w', j6_init_1065 75 w = j6_init_1097 75 w' ∧ Fr (fun q => q = 75 ∨ q = 80) w w' ∧ (∀ q, wr w' q = wr w q) ∧ (∀ k, k ≠ 6 → wi w' 75 k = 0) ∧ wi w' 75 6 = nI fT.length ∧ ∀ j b, fT[j]? = some b → wi w' 80 j = b := by
  obtain ⟨hL, hW, hd, he, hf⟩ := pre_lay h
  have z75 := h.2.2.2.1
  unfold j6_init_1065
  refine loopE (R := fun o => ∃ w', o = j6_init_1097 75 w' ∧ Fr (fun q => q = 75 ∨ q = 80) w w' ∧ (∀ q, wr w' q = wr w q) ∧ (∀ k, k ≠ 6 → wi w' 75 k = 0) ∧ wi w' 75 6 = nI fT.length ∧ ∀ j b, fT[j]? = some b → wi w' 80 j = b) (I := fun i v w2 => v = (75, nI i) ∧ Fr (fun q => q = 75 ∨ q = 80) w w2 ∧ (∀ q, wr w2 q = wr w q) ∧ (∀ k, wi w2 75 k = 0) ∧ ∀ j, j < i → wi w2 80 j = fT.getD j 0) 53 ?_ ?_ FU _ w (by decide) ⟨rfl, Fr.rf, fun _ => rfl, z75, fun j hj => absurd hj (Nat.not_lt_zero j)⟩
  · intro i v w2 hi hI
    obtain ⟨rfl, i1, i2, i3, i4⟩ := hI
    have L2 := hL.same i1.1 i2
    have f2 : wi w2 88 i = fT.getD i 0 := by rw [(i1.2.2 88 (by decide)).1]; exact hf i
    refine ⟨(75, nI (i + 1)), sI w2 80 i (fT.getD i 0), ⟨rfl, i1.tr (Fr.sI (Or.inr rfl)), i2, fun k => by rw [wi_sI_ne (by decide)]; exact i3 k, fun j hj => ?_⟩, fun k => ?_⟩
    · rw [wi_sI]
      by_cases e : j = i
      · rw [if_pos ⟨rfl, e⟩, e]
      · rw [if_neg (fun z => e z.2)]
        exact i4 j (by omega)
    · unfold b6_init_1067
      rw [if_neg (show ¬ (53 : Int32) ≤ nI i from nI_ge (b := 53) hi (by omega)), ck_pos L2.t, L2.r17, L2.l17, ck_pos (And.intro L2.t17 (vin (show i < 53 from hi) (by decide))), L2.r5, L2.l5, ck_pos (And.intro L2.t5 (vin (show i < 160 by omega) (by decide))), lw_eq, nI_clamp (by omega), f2, i3_1]
  · intro v w2 hI k
    obtain ⟨rfl, i1, i2, i3, i4⟩ := hI
    have L2 := hL.same i1.1 i2
    refine ⟨sI w2 75 6 53, ?_, i1.tr (Fr.sI (Or.inl rfl)), i2, fun j hj => by rw [wi_sI, if_neg (fun z => hj z.2)]; exact i3 j, by rw [wi_at, fT_len]; rfl, fun j b hb => ?_⟩
    · unfold b6_init_1067
      rw [if_pos (show (53 : Int32) ≤ nI 53 from Int32.le_refl _), ck_pos L2.t, lw_eq]
    · have hj := (List.getElem?_eq_some_iff.mp hb).1
      rw [fT_len] at hj
      rw [wi_sI_ne (by decide), i4 j hj]
      have := getD_at (l := fT) (k := j) (by rw [fT_len]; exact hj)
      rw [hb] at this
      exact (Option.some.inj this).symm
