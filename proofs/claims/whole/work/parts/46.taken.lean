/-! taken -/
theorem rem6 : ∀ i, i < 12 → nI i - nI i / 6 * 6 = nI (i % 6) := by decide
theorem isOf_eq (a b : Int32) (w w' : Wd) : ∃ z, f5_isOf a b w = some (z, w) ∧ f6_isUnder a b w' = some (z, w') := by
  unfold f5_isOf f6_isUnder j5_isOf_19 j6_isUnder_19
  by_cases h1 : b = 0
  · rw [if_pos h1, if_pos h1]; exact ⟨_, rfl, rfl⟩
  rw [if_neg h1, if_neg h1]
  by_cases h2 : a = b
  · rw [if_pos h2, if_pos h2]; exact ⟨_, rfl, rfl⟩
  rw [if_neg h2, if_neg h2]
  by_cases h3 : a = 3
  · subst h3
    by_cases h4 : b = 1
    · subst h4; exact ⟨_, rfl, rfl⟩
    · rw [if_pos rfl, if_neg h4, if_neg h4]
      by_cases h5 : b = 2
      · subst h5; exact ⟨_, rfl, rfl⟩
      · rw [if_neg h5, if_neg (show ¬ (3 : Int32) = 4 by decide), if_neg h5]; exact ⟨_, rfl, rfl⟩
  · rw [if_neg h3]
    by_cases h4 : b = 1
    · subst h4
      rw [if_pos rfl, if_neg h3]
      by_cases h5 : a = 4
      · subst h5; exact ⟨_, rfl, rfl⟩
      · rw [if_neg h5]; exact ⟨_, rfl, rfl⟩
    · rw [if_neg h4]
      by_cases h5 : a = 4
      · rw [if_pos h5, if_pos h5]
        by_cases h6 : b = 2
        · rw [if_pos h6, if_pos h6]; exact ⟨_, rfl, rfl⟩
        · rw [if_neg h6, if_neg h6]; exact ⟨_, rfl, rfl⟩
      · rw [if_neg h5, if_neg h5]
        split <;> exact ⟨_, rfl, rfl⟩
def isUn (a b : Int32) : Int32 := if b = 0 then 1 else if a = b then 1 else if b = 1 ∧ a = 3 then 1 else if b = 2 ∧ a = 4 then 1 else 0
theorem isUnder_r (a b : Int32) : ∃ z, ∀ w, f5_isOf a b w = some (z, w) ∧ f6_isUnder a b w = some (z, w) := by
  obtain ⟨z, h1, h2⟩ := isOf_eq a b w00 w00
  have c5 : ∀ w, ∃ z, f5_isOf a b w = some (z, w) ∧ f6_isUnder a b w = some (z, w) := fun w => isOf_eq a b w w
  have k : ∀ w, ((f5_isOf a b w).map (·.1)) = (f5_isOf a b w00).map (·.1) := by
    intro w
    unfold f5_isOf j5_isOf_19
    repeat' split
    all_goals rfl
  refine ⟨z, fun w => ?_⟩
  obtain ⟨z', h3, h4⟩ := c5 w
  have e := k w
  rw [h3, h1] at e
  have e' : z' = z := Option.some.inj e
  subst e'
  exact ⟨h3, h4⟩
theorem twelve (x : Int32) (h : 0 ≤ x ∧ x ≤ 11) : ∃ k, k < 12 ∧ x = nI k := by
  refine inum h.1 ?_ (by decide)
  have := h.2
  rw [ile, show (11 : Int32).toInt = 11 from rfl] at this
  rw [ilt, show (nI 12).toInt = 12 from rfl]
  omega
theorem taken_pair (x y : Int32) : Pair (f5_taken 32 x y) (f6_taken 75 x y) := pair_of fun S hS => by
  have hm6 := hS.1.1
  have same : ∀ {a : Int32}, (∀ w, RC S w → f5_taken 32 x y w = some (a, w)) → (∀ w, RM S w → f6_taken 75 x y w = some (a, w)) → ∃ r, CC (f5_taken 32 x y) S r ∧ CM (f6_taken 75 x y) S r ∧ SI r.2 := fun {a} h1 h2 => ⟨(a, S), fun w h => ⟨w, h1 w h, h, OffM.rf⟩, fun w h => ⟨w, h2 w h, h, OffC.rf⟩, hS⟩
  rcases within2 y 0 6 with ⟨hy, ey⟩ | ⟨hy, ey⟩
  · rcases within2 x 0 11 with ⟨hx, ex⟩ | ⟨hx, ex⟩
    · obtain ⟨i, hi, rfl⟩ := twelve x hx
      have er := rem6 i hi
      by_cases hb : i % 6 < S.1.2.1
      · have hlt : nI (i % 6) < nI S.1.2.1 := by rw [ilt, nI_int (by omega), nI_int (by omega)]; omega
        by_cases h6 : i < 6
        · have hl6 : nI i < 6 := by rw [ilt, nI_int (by omega)]; show (i : Int) < 6; omega
          have ei : i % 6 = i := Nat.mod_eq_of_lt h6
          by_cases y6 : y = 6
          · refine same (a := -13) (fun w h => ?_) fun w h => ?_
            · unfold f5_taken
              rw [(ey w).2, Option.bind_some, if_neg (show ¬ (1 : Int32) = 0 by decide)]
              dsimp only
              rw [(ex w).2, Option.bind_some, if_neg (show ¬ (1 : Int32) = 0 by decide)]
              dsimp only
              rw [ck_pos h.t, h.r3, ck_pos h.t42, er, has_1 h.hc hb, Option.bind_some, if_neg (show ¬ (1 : Int32) = 0 by decide), if_pos hl6, if_pos y6]
            · unfold f6_taken
              rw [(ey w).1, Option.bind_some, if_neg (show ¬ (1 : Int32) = 0 by decide)]
              dsimp only
              rw [(ex w).1, Option.bind_some, if_neg (show ¬ (1 : Int32) = 0 by decide)]
              dsimp only
              rw [ck_pos h.1.1.t, er, h.1.2.1, if_pos hlt, if_pos hl6, if_pos (by rw [y6]; exact Int32.le_refl _)]
          · obtain ⟨z, hz⟩ := isUnder_r (S.1.1.2 i 0) y
            have ny : ¬ 6 ≤ y := by
              have := hy.2
              rw [ile] at this
              rw [ile]
              rw [ieq] at y6
              omega
            refine same (a := if z = 0 then -13 else nI i) (fun w h => ?_) fun w h => ?_
            · obtain ⟨e1, e2, e3, e4, e5, e6, e7⟩ := h.bat (k := i) (by omega)
              unfold f5_taken
              rw [(ey w).2, Option.bind_some, if_neg (show ¬ (1 : Int32) = 0 by decide)]
              dsimp only
              rw [(ex w).2, Option.bind_some, if_neg (show ¬ (1 : Int32) = 0 by decide)]
              dsimp only
              rw [ck_pos h.t, h.r3, ck_pos h.t42, er, has_1 h.hc hb, Option.bind_some, if_neg (show ¬ (1 : Int32) = 0 by decide), if_pos hl6, if_neg y6]
              dsimp only
              rw [h.r3, ck_pos h.t42, e1, e3, ei, ck_pos (And.intro e2 e6), e7, e4, ck_pos e5, h.hc.row (by omega) (by decide : 0 < 5), (hz w).1, Option.bind_some]
              dsimp only
              split <;> rfl
            · have hib : i < S.1.2.1 := by omega
              obtain ⟨cb, c0, c1, c2, vb, v0, v1, v2⟩ := idx6 (b := i) h6
              unfold f6_taken
              rw [(ey w).1, Option.bind_some, if_neg (show ¬ (1 : Int32) = 0 by decide)]
              dsimp only
              rw [(ex w).1, Option.bind_some, if_neg (show ¬ (1 : Int32) = 0 by decide)]
              dsimp only
              rw [ck_pos h.1.1.t, er, h.1.2.1, if_pos hlt, if_pos hl6, if_neg ny, h.1.1.r1, h.1.1.l1, ck_pos (And.intro h.1.1.t1 vb), cb, (h.1.2.2.2.2.1 i hib).1, (hz w).2, Option.bind_some]
              dsimp only
              split <;> rfl
        · have hl6 : ¬ nI i < 6 := by rw [ilt, nI_int (by omega)]; show ¬ (i : Int) < 6; omega
          refine same (a := if y = 6 then S.1.1.2 (i % 6) 3 else -13) (fun w h => ?_) fun w h => ?_
          · obtain ⟨e1, e2, e3, e4, e5, e6, e7⟩ := h.bat hb
            unfold f5_taken
            rw [(ey w).2, Option.bind_some, if_neg (show ¬ (1 : Int32) = 0 by decide)]
            dsimp only
            rw [(ex w).2, Option.bind_some, if_neg (show ¬ (1 : Int32) = 0 by decide)]
            dsimp only
            rw [ck_pos h.t, h.r3, ck_pos h.t42, er, has_1 h.hc hb, Option.bind_some, if_neg (show ¬ (1 : Int32) = 0 by decide), if_neg hl6]
            dsimp only
            rw [h.r3, ck_pos h.t42, e1, e3, ck_pos (And.intro e2 e6), e7, e4, ck_pos e5, h.hc.row hb (by decide : 3 < 5)]
            split <;> rfl
          · obtain ⟨cb, c0, c1, c2, vb, v0, v1, v2⟩ := idx6 (b := i % 6) (by omega)
            have e6 : nI i - 6 = nI (i % 6) := (by decide : ∀ i, i < 12 → ¬ i < 6 → nI i - 6 = nI (i % 6)) i hi h6
            unfold f6_taken
            rw [(ey w).1, Option.bind_some, if_neg (show ¬ (1 : Int32) = 0 by decide)]
            dsimp only
            rw [(ex w).1, Option.bind_some, if_neg (show ¬ (1 : Int32) = 0 by decide)]
            dsimp only
            rw [ck_pos h.1.1.t, er, h.1.2.1, if_pos hlt, if_neg hl6, h.1.1.r3, h.1.1.l3, e6, i3, i3_1, ck_pos (And.intro h.1.1.t3 v1), c1, (h.1.2.2.2.2.1 _ hb).2.2.2.1]
            split <;> rfl
      · have hlt : ¬ nI (i % 6) < nI S.1.2.1 := by rw [ilt, nI_int (by omega), nI_int (by omega)]; omega
        refine same (a := -11) (fun w h => ?_) fun w h => ?_
        · unfold f5_taken
          rw [(ey w).2, Option.bind_some, if_neg (show ¬ (1 : Int32) = 0 by decide)]
          dsimp only
          rw [(ex w).2, Option.bind_some, if_neg (show ¬ (1 : Int32) = 0 by decide)]
          dsimp only
          rw [ck_pos h.t, h.r3, ck_pos h.t42, er, has_0 h.hc (Or.inr (by rw [ilt] at hlt; rw [ile]; omega)), Option.bind_some, if_pos rfl]
        · unfold f6_taken
          rw [(ey w).1, Option.bind_some, if_neg (show ¬ (1 : Int32) = 0 by decide)]
          dsimp only
          rw [(ex w).1, Option.bind_some, if_neg (show ¬ (1 : Int32) = 0 by decide)]
          dsimp only
          rw [ck_pos h.1.1.t, er, h.1.2.1, if_neg hlt]
    · refine same (a := -12) (fun w h => ?_) fun w h => ?_
      · unfold f5_taken
        rw [(ey w).2, Option.bind_some, if_neg (show ¬ (1 : Int32) = 0 by decide)]
        dsimp only
        rw [(ex w).2, Option.bind_some, if_pos rfl]
      · unfold f6_taken
        rw [(ey w).1, Option.bind_some, if_neg (show ¬ (1 : Int32) = 0 by decide)]
        dsimp only
        rw [(ex w).1, Option.bind_some, if_pos rfl]
  · refine same (a := -2) (fun w h => ?_) fun w h => ?_
    · unfold f5_taken
      rw [(ey w).2, Option.bind_some, if_pos rfl]
    · unfold f6_taken
      rw [(ey w).1, Option.bind_some, if_pos rfl]
