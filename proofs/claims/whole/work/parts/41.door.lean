/-! door, force -/
theorem row_k {w : Wd} {many t k : Nat} {s : HS} {F B G : List Int32} (h : ModC w many t s F B G) (hk : k < many) : 3 * nI k = nI (3 * k) ∧ (nI (3 * k)).toNatClampNeg = 3 * k ∧ (tg w 78 = 20 ∧ vp_in (nI (3 * k)) 18) ∧ wi w 78 (3 * k) = s.2 k 2 := by
  have hm := h.2.2.1
  obtain ⟨cb, c0, c1, c2, vb, v0, v1, v2⟩ := idx6 (b := k) (by omega)
  exact ⟨i3 k, c0, ⟨h.1.t3, v0⟩, (h.2.2.2.2.1 k hk).2.2.1⟩
def doorS (S : SS) (k : Nat) (v : Int32) : SS := setHS (setBS S k 2 v) 2 (loseM (S.1.1.1 2))
theorem door_pair (b v : Int32) : Pair (f5_door 32 b v) (f6_door 75 b v) := pair_of fun S hS => by
  rcases bcase b hS.1.1 with ⟨k, hk, rfl⟩ | hb
  · rcases within2 v 0 3 with ⟨h3, h4⟩ | ⟨h3, h4⟩
    · have hc : ∀ {w}, RC S w → f5_door 32 (nI k) v w = if S.1.1.2 k 2 = v then some (-3, w) else if S.1.1.2 k 2 = 3 then j5_door_67 32 (S.1.1.2 k 2) (sI w (42 + 2 + k) 2 v) else if v = 3 then j5_door_67 32 (S.1.1.2 k 2) (sI w (42 + 2 + k) 2 v) else some (S.1.1.2 k 2, sI w (42 + 2 + k) 2 v) := by
        intro w h
        obtain ⟨e1, e2, e3, e4, e5, e6, e7⟩ := h.bat hk
        unfold f5_door lw
        rw [ck_pos h.t, h.r3, ck_pos h.t42, has_1 h.hc hk, Option.bind_some, if_neg (show ¬ (1 : Int32) = 0 by decide)]
        dsimp only
        rw [(h4 w).2, Option.bind_some, if_neg (show ¬ (1 : Int32) = 0 by decide)]
        dsimp only
        rw [h.r3, ck_pos h.t42, e1, e3, ck_pos (And.intro e2 e6), e7, e4, ck_pos e5, h.hc.row hk (by decide : 2 < 5)]
      have hr : ∀ {w}, RM S w → f6_door 75 (nI k) v w = if S.1.1.2 k 2 = v then some (-3, w) else if S.1.1.2 k 2 = 3 then j6_door_50 75 (nI k) v (S.1.1.2 k 2) w else if v = 3 then j6_door_50 75 (nI k) v (S.1.1.2 k 2) w else j6_door_54 75 (nI k) v (S.1.1.2 k 2) w := by
        intro w h
        obtain ⟨e1, e2, e3, e4⟩ := row_k h.1 hk
        unfold f6_door
        rw [ck_pos h.1.1.t, one_1 h.1 hk, Option.bind_some, if_neg (show ¬ (1 : Int32) = 0 by decide)]
        dsimp only
        rw [(h4 w).1, Option.bind_some, if_neg (show ¬ (1 : Int32) = 0 by decide)]
        dsimp only
        rw [h.1.1.r3, h.1.1.l3, e1, ck_pos e3, e2, e4]
      have h54 : ∀ {S w}, RM S w → k < S.1.2.1 → ∀ z, j6_door_54 75 (nI k) v z w = some (z, sI w 78 (3 * k) v) := by
        intro S w h hk z
        obtain ⟨e1, e2, e3, e4⟩ := row_k h.1 hk
        unfold j6_door_54
        rw [ck_pos h.1.1.t, h.1.1.r3, h.1.1.l3, e1, ck_pos e3, e2]
        rfl
      by_cases hw : S.1.1.2 k 2 = v
      · exact ⟨(-3, S), fun w h => ⟨w, by rw [hc h, if_pos hw], h, OffM.rf⟩, fun w h => ⟨w, by rw [hr h, if_pos hw], h, OffC.rf⟩, hS⟩
      · have s2 : SI (setBS S k 2 v) := hS.setB (Or.inl ⟨rfl, v0 h3 rfl⟩)
        by_cases h33 : S.1.1.2 k 2 = 3 ∨ v = 3
        · refine ⟨(S.1.1.2 k 2, doorS S k v), fun w h => ?_, fun w h => ?_, s2.setH (by decide) (lose_rng hS.rg.2.1).1⟩
          · have h' := h.setB (j := 2) (v := v) hk
            have e : j5_door_67 32 (S.1.1.2 k 2) (sI w (42 + 2 + k) 2 v) = some (S.1.1.2 k 2, sI (sI w (42 + 2 + k) 2 v) 42 2 (loseM (S.1.1.1 2))) := by
              unfold j5_door_67
              rw [ck_pos h'.t, h'.r3, ck_pos h'.t42, lose_cls h'.hc]
              rfl
            refine ⟨_, ?_, h'.setH (k := 2) (by decide), (offH (by omega) (by have := hS.1.1; omega)).tr (offH (by decide) (by decide))⟩
            rw [hc h, if_neg hw, e]
            rcases h33 with z | z
            · rw [if_pos z]
            · split
              · rfl
              · rfl
          · have h' := h.setH (k := 2) (v := loseM (S.1.1.1 2)) (by decide)
            have e : j6_door_50 75 (nI k) v (S.1.1.2 k 2) w = some (S.1.1.2 k 2, sI (sI w 79 2 (loseM (S.1.1.1 2))) 78 (3 * k) v) := by
              unfold j6_door_50
              rw [ck_pos h.1.1.t, less_ref h.1 hS.rg, Option.bind_some]
              exact h54 h' hk _
            refine ⟨_, ?_, h'.setB (j := 0) hk (by decide), (off78 (Or.inr (Or.inl rfl))).tr (off78 (Or.inl rfl))⟩
            rw [hr h, if_neg hw, e]
            rcases h33 with z | z
            · rw [if_pos z]; rfl
            · rw [if_pos z]
              split <;> rfl
        · have n1 : ¬ S.1.1.2 k 2 = 3 := fun z => h33 (Or.inl z)
          have n2 : ¬ v = 3 := fun z => h33 (Or.inr z)
          refine ⟨(S.1.1.2 k 2, setBS S k 2 v), fun w h => ⟨_, ?_, h.setB hk, offH (by omega) (by have := hS.1.1; omega)⟩, fun w h => ⟨_, ?_, h.setB (j := 0) hk (by decide), off78 (Or.inl rfl)⟩, s2⟩
          · rw [hc h, if_neg hw, if_neg n1, if_neg n2]
          · rw [hr h, if_neg hw, if_neg n1, if_neg n2, h54 h hk]
            rfl
    · refine ⟨(-7, S), fun w h => ⟨w, ?_, h, OffM.rf⟩, fun w h => ⟨w, ?_, h, OffC.rf⟩, hS⟩
      · unfold f5_door
        rw [ck_pos h.t, h.r3, ck_pos h.t42, has_1 h.hc hk, Option.bind_some, if_neg (show ¬ (1 : Int32) = 0 by decide)]
        dsimp only
        rw [(h4 w).2, Option.bind_some, if_pos rfl]
      · unfold f6_door
        rw [ck_pos h.1.1.t, one_1 h.1 hk, Option.bind_some, if_neg (show ¬ (1 : Int32) = 0 by decide)]
        dsimp only
        rw [(h4 w).1, Option.bind_some, if_pos rfl]
  · refine ⟨(-5, S), fun w h => ⟨w, ?_, h, OffM.rf⟩, fun w h => ⟨w, ?_, h, OffC.rf⟩, hS⟩
    · unfold f5_door
      rw [ck_pos h.t, h.r3, ck_pos h.t42, has_0 h.hc hb]
      rfl
    · unfold f6_door
      rw [ck_pos h.1.1.t, one_0 h.1 hb]
      rfl
