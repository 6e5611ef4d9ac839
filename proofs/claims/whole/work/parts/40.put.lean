/-! put, door, force -/
theorem toldA_k (S : SS) (k : Nat) {pt : Nat} (h : pt < 3) : toldA S k (nI pt) = S.1.1.2 k (pt + 2) := by
  rcases (by omega : pt = 0 ∨ pt = 1 ∨ pt = 2) with rfl | rfl | rfl <;> rfl
def mostP (pt : Nat) : Int32 := if pt = 0 then 3 else 999
theorem v0 {x hi : Int32} {n : Int} (h : 0 ≤ x ∧ x ≤ hi) (e : hi.toInt = n) : rng x 0 n := by
  rw [ile, ile, e] at h
  exact h
theorem put_c1 {S : SS} {w : Wd} {k pt : Nat} {v : Int32} (h : RC S w) (hk : k < S.1.2.1) (hp : pt < 3) : f5_put 32 (nI k) (nI pt) v w = j5_put_36 32 (nI k) (nI pt) v (mostP pt) w := by
  unfold f5_put
  rw [ck_pos h.t, h.r3, ck_pos h.t42, has_1 h.hc hk, Option.bind_some, if_neg (show ¬ (1 : Int32) = 0 by decide)]
  rcases (by omega : pt = 0 ∨ pt = 1 ∨ pt = 2) with rfl | rfl | rfl <;> rfl
theorem put_r1 {S : SS} {w : Wd} {k pt : Nat} {v : Int32} (h : RM S w) (hk : k < S.1.2.1) (hp : pt < 3) (h2 : f6_in (nI pt) 0 2 w = some (1, w)) : f6_put 75 (nI k) (nI pt) v w = j6_put_33 75 (nI k) (nI pt) v (mostP pt) 0 v w := by
  unfold f6_put
  rw [ck_pos h.1.1.t, one_1 h.1 hk, Option.bind_some, if_neg (show ¬ (1 : Int32) = 0 by decide)]
  dsimp only
  rw [h2, Option.bind_some, if_neg (show ¬ (1 : Int32) = 0 by decide)]
  rcases (by omega : pt = 0 ∨ pt = 1 ∨ pt = 2) with rfl | rfl | rfl <;> rfl
theorem put_pair (b x v : Int32) : Pair (f5_put 32 b x v) (f6_put 75 b x v) := pair_of fun S hS => by
  rcases bcase b hS.1.1 with ⟨k, hk, rfl⟩ | hb
  · rcases within2 x 0 2 with ⟨h1, h2⟩ | ⟨h1, h2⟩
    · obtain ⟨pt, hpt, rfl⟩ := three x h1
      rcases within2 v 0 (mostP pt) with ⟨h3, h4⟩ | ⟨h3, h4⟩
      · have hv : pt + 2 = 2 ∧ rng v 0 3 ∨ (pt + 2 = 3 ∨ pt + 2 = 4) ∧ rng v 0 999 := by
          by_cases e : pt = 0
          · subst e; exact Or.inl ⟨rfl, v0 h3 rfl⟩
          · refine Or.inr ⟨by omega, v0 h3 ?_⟩
            unfold mostP
            rw [if_neg e]
            rfl
        refine ⟨(S.1.1.2 k (pt + 2), setBS S k (pt + 2) v), fun w h => ⟨sI w (42 + 2 + k) (pt + 2) v, ?_, h.setB hk, offH (by omega) (by have := hS.1.1; omega)⟩, fun w h => ⟨sI w 78 (3 * k + pt) v, ?_, h.setB hk hpt, off78 (Or.inl rfl)⟩, hS.setB hv⟩
        · obtain ⟨e1, e2, e3, e4, e5, e6, e7⟩ := h.bat hk
          obtain ⟨w', t1, _, _, t2⟩ := told_c (nI pt) h hk
          have t3 := t2 (by rcases (by omega : pt = 0 ∨ pt = 1 ∨ pt = 2) with rfl | rfl | rfl <;> decide)
          subst t3
          rw [put_c1 h hk hpt]
          unfold j5_put_36
          rw [(h2 w').2, Option.bind_some, if_neg (show ¬ (1 : Int32) = 0 by decide)]
          dsimp only
          rw [(h4 w').2, Option.bind_some, if_neg (show ¬ (1 : Int32) = 0 by decide)]
          dsimp only
          rw [ck_pos h.t, h.r3, ck_pos h.t42, e1, e3, ck_pos (And.intro e2 e6), t1, Option.bind_some, e7, e4, toldA_k S k hpt]
          dsimp only
          rw [ck_pos e5, ck_pos e5, ck_pos e5]
          rcases (by omega : pt = 0 ∨ pt = 1 ∨ pt = 2) with rfl | rfl | rfl <;> rfl
        · have hm := h.1.2.2.1
          obtain ⟨cb, c0, c1, c2, vb, v0, v1, v2⟩ := idx6 (b := k) (by omega)
          obtain ⟨a5a, a5b, a5c, a5d, a5e⟩ := h.1.2.2.2.2.1 k hk
          rw [put_r1 h hk hpt (h2 w).1]
          unfold j6_put_33
          have ee : 3 * nI k + nI pt = nI (3 * k + pt) := by rw [i3, nI_add]
          have ev : vp_in (nI (3 * k + pt)) 18 := vin (by omega) (by decide)
          have ec : (nI (3 * k + pt)).toNatClampNeg = 3 * k + pt := nI_clamp (by omega)
          have ew : wi w 78 (3 * k + pt) = S.1.1.2 k (pt + 2) := by rcases (by omega : pt = 0 ∨ pt = 1 ∨ pt = 2) with rfl | rfl | rfl <;> assumption
          rw [(h4 w).1, Option.bind_some, if_neg (show ¬ (1 : Int32) = 0 by decide)]
          dsimp only
          rw [ck_pos h.1.1.t, h.1.1.r3, h.1.1.l3, ee, ck_pos (And.intro h.1.1.t3 ev), ck_pos ev, ec, ew]
          rfl
      · refine ⟨(-7, S), fun w h => ⟨w, ?_, h, OffM.rf⟩, fun w h => ⟨w, ?_, h, OffC.rf⟩, hS⟩
        · rw [put_c1 h hk hpt]
          unfold j5_put_36
          rw [(h2 w).2, Option.bind_some, if_neg (show ¬ (1 : Int32) = 0 by decide)]
          dsimp only
          rw [(h4 w).2, Option.bind_some, if_pos rfl]
        · rw [put_r1 h hk hpt (h2 w).1]
          unfold j6_put_33
          rw [(h4 w).1, Option.bind_some, if_pos rfl]
    · refine ⟨(-7, S), fun w h => ⟨w, ?_, h, OffM.rf⟩, fun w h => ⟨w, ?_, h, OffC.rf⟩, hS⟩
      · unfold f5_put
        rw [ck_pos h.t, h.r3, ck_pos h.t42, has_1 h.hc hk, Option.bind_some, if_neg (show ¬ (1 : Int32) = 0 by decide)]
        have e0 : ∀ s, j5_put_36 32 (nI k) x v s w = some (-7, w) := by
          intro s
          unfold j5_put_36
          rw [(h2 w).2, Option.bind_some, if_pos rfl]
        dsimp only
        rw [e0, e0]
        split
        · rfl
        · split <;> rfl
      · unfold f6_put
        rw [ck_pos h.1.1.t, one_1 h.1 hk, Option.bind_some, if_neg (show ¬ (1 : Int32) = 0 by decide)]
        dsimp only
        rw [(h2 w).1, Option.bind_some, if_pos rfl]
  · refine ⟨(-5, S), fun w h => ⟨w, ?_, h, OffM.rf⟩, fun w h => ⟨w, ?_, h, OffC.rf⟩, hS⟩
    · unfold f5_put
      rw [ck_pos h.t, h.r3, ck_pos h.t42, has_0 h.hc hb]
      rfl
    · unfold f6_put
      rw [ck_pos h.1.1.t, one_0 h.1 hb]
      rfl
