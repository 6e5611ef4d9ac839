/-! a thought's beginning and end in the reference; leaves -/
theorem RM.keeps {S : SS} {w : Wd} (h : RM S w) : ∃ w', f6_keeps 75 w = some ((), w') ∧ RM S w' ∧ KM w' S.1.2.1 S.1.1 ∧ Fr KP w w' := by
  obtain ⟨w', a1, a2, a3, a4⟩ := keeps_ref h.1
  have hF : Fr KP w w' := a2.mono fun q z => Or.inr z
  exact ⟨w', a1, RM.fr (S := S) (c' := S.1) h a3 hF fun _ z => z, a4, hF⟩
theorem KM.tp {w w' : Wd} {many : Nat} {s : HS} (h : KM w many s) (hF : Fr TP w w') : KM w' many s := h.fr hF (by unfold TP; decide)
theorem RM.lays {S : SS} {c : CO} {w : Wd} (h : RM (c, S.2) w) (hK : KM w S.1.2.1 S.1.1) (h2 : c.2 = S.1.2) (hk : ∀ b, c.1.2 b 0 = S.1.1.2 b 0 ∧ c.1.2 b 1 = S.1.1.2 b 1) : ∃ w', f6_lays 75 w = some ((), w') ∧ RM S w' ∧ Fr KP w w' := by
  obtain ⟨c1, c2⟩ := c
  dsimp only at h2 hk
  subst h2
  obtain ⟨w', a1, a2, a3⟩ := lays_ref h.1 hK fun b _ => hk b
  have hF : Fr KP w w' := a2.mono fun q z => Or.inl (by unfold TP; omega)
  exact ⟨w', a1, RM.fr (S := ((c1, S.1.2), S.2)) (c' := S.1) h a3 hF fun _ z => z, hF⟩
theorem RM.laysGo {S : SS} {w : Wd} {n : Nat} (h : RM (goC S.2.1 S.1 n, S.2) w) (hK : KM w S.1.2.1 S.1.1) : ∃ w', f6_lays 75 w = some ((), w') ∧ RM S w' ∧ Fr KP w w' := h.lays hK (goC_2 _ _ _) (goC_kind _ _ _)
theorem least (p : Nat → Prop) : ∀ n, (∃ m, m < n ∧ p m ∧ ∀ j, j < m → ¬ p j) ∨ ∀ j, j < n → ¬ p j
  | 0 => Or.inr fun j hj => absurd hj (Nat.not_lt_zero j)
  | n + 1 => by
    rcases least p n with ⟨m, h1, h2, h3⟩ | h
    · exact Or.inl ⟨m, by omega, h2, h3⟩
    · rcases Classical.em (p n) with hp | hp
      · exact Or.inl ⟨n, by omega, hp, h⟩
      · refine Or.inr fun j hj => ?_
        rcases (by omega : j < n ∨ j = n) with z | z
        · exact h j z
        · rw [z]; exact hp
/-- OUT behind m minutes -/
def outAt (T : List PG) (c : CO) (b m : Nat) : Prop := (goC T c m).1.2 b 2 = 3
/-- the answer of the search from a thought -/
def tillA (T : List PG) (c : CO) (b : Nat) (x : Int32) : Prop := (∃ m, m < 41 ∧ outAt T c b m ∧ (∀ j, j < m → ¬ outAt T c b j) ∧ x = nI m) ∨ (∀ j, j < 41 → ¬ outAt T c b j) ∧ x = 41
theorem till_ex (T : List PG) (c : CO) (b : Nat) : ∃ x, tillA T c b x := by
  rcases least (outAt T c b) 41 with ⟨m, h1, h2, h3⟩ | h
  · exact ⟨nI m, Or.inl ⟨m, h1, h2, h3, rfl⟩⟩
  · exact ⟨41, Or.inr ⟨h, rfl⟩⟩
theorem TC.bat {S : SS} {c : CO} {w : Wd} {k : Nat} (h : TC S c w) (hk : k < c.2.1) : wr w 50 6 = 50 + 1 ∧ tg w (50 + 1) = 22 ∧ ln w (50 + 1) = 6 ∧ wr w (50 + 1) k = 50 + 2 + k ∧ tg w (50 + 2 + k) = 0 ∧ vp_in (nI k) 6 ∧ (nI k).toNatClampNeg = k ∧ wr w 32 4 = 50 ∧ tg w 50 = 1 := by
  have hm := h.2.1.2.2.2.2.2.2.1
  exact ⟨h.2.1.2.1, tg_eq h.2.1.2.2.1, ln_eq h.2.1.2.2.1, (h.2.1.2.2.2.1 k (by omega)).1, h.2.1.tgB hk, vin (by omega) (by decide), nI_clamp (by omega), h.1.1.1.2.2.2.2.1, h.2.1.tgA⟩
theorem TC.till {S : SS} {c : CO} {w : Wd} {b : Nat} {x : Int32} (h : TC S c w) (hb : b < c.2.1) (hx : tillA S.2.1 c b x) : ∃ w' c', f5_minutesTillOut 32 (nI b) w = some (x, w') ∧ TC S c' w' ∧ Fr JC w w' := by
  have stop : ∀ {i w1}, i < 41 → TC S (goC S.2.1 c i) w1 → ∀ k, b5_minutesTillOut_2 k (32, nI b, nI i) w1 = if (goC S.2.1 c i).1.2 b 2 = 3 then some (nI i, w1) else (f1_passMinute 50 w1).bind fun z7 => k (32, nI b, nI i + 1) z7.2 := by
    intro i w1 hi h1 k
    have hb' : b < (goC S.2.1 c i).2.1 := by rw [goC_2]; exact hb
    obtain ⟨e1, e2, e3, e4, e5, e6, e7, e8, e9⟩ := h1.bat hb'
    unfold b5_minutesTillOut_2
    dsimp only
    rw [if_neg (show ¬ (40 : Int32) < nI i by rw [ilt, nI_int (by omega), show (40 : Int32).toInt = 40 from rfl]; omega), ck_pos h1.1.t, e8, ck_pos e9, e1, e3, ck_pos (And.intro e2 e6), e7, e4, ck_pos e5, h1.2.1.row hb' (by decide : 2 < 5)]
  have go : ∀ m, m ≤ 41 → (∀ j, j < m → ¬ outAt S.2.1 c b j) → (∀ w1 k, TC S (goC S.2.1 c m) w1 → b5_minutesTillOut_2 k (32, nI b, nI m) w1 = some (x, w1)) → ∃ w' c', f5_minutesTillOut 32 (nI b) w = some (x, w') ∧ TC S c' w' ∧ Fr JC w w' := by
    intro m hm hj he
    unfold f5_minutesTillOut
    refine loopE (R := fun o => ∃ w' c', o = some (x, w') ∧ TC S c' w' ∧ Fr JC w w') (I := fun i v w1 => v = (32, nI b, nI i) ∧ TC S (goC S.2.1 c i) w1 ∧ Fr JC w w1) m ?_ ?_ FU _ w (by show m < 1000; omega) ⟨rfl, h, Fr.rf⟩
    · intro i v w1 hi hI
      obtain ⟨rfl, i1, i2⟩ := hI
      obtain ⟨w2, b1, b2, b3⟩ := i1.min
      refine ⟨(32, nI b, nI (i + 1)), w2, ⟨rfl, b2, i2.tr b3⟩, fun k => ?_⟩
      rw [stop (by omega) i1, if_neg (show ¬ (goC S.2.1 c i).1.2 b 2 = 3 from hj i hi), b1, Option.bind_some, i3_1]
    · intro v w1 hI k
      obtain ⟨rfl, i1, i2⟩ := hI
      exact ⟨w1, _, he w1 k i1, i1, i2⟩
  rcases hx with ⟨m, h1, h2, h3, h4⟩ | ⟨h1, h2⟩
  · refine go m (by omega) h3 fun w1 k hT => ?_
    rw [stop h1 hT, if_pos (show (goC S.2.1 c m).1.2 b 2 = 3 from h2), h4]
  · refine go 41 (by omega) h1 fun w1 k hT => ?_
    unfold b5_minutesTillOut_2
    dsimp only
    rw [if_pos (show (40 : Int32) < nI 41 by decide), h2]
theorem leavesOf_ref {S : SS} {c : CO} {w : Wd} {b : Nat} {x : Int32} (h : RM (c, S.2) w) (hr : Rg c.2.1 c.1) (hK : KM w S.1.2.1 S.1.1) (hb : b < c.2.1) (h2 : c.2 = S.1.2) (hk : ∀ b, c.1.2 b 0 = S.1.1.2 b 0 ∧ c.1.2 b 1 = S.1.1.2 b 1) (hx : tillA S.2.1 c b x) :
    ∃ w', loopF b6_leavesOf_8 FU (75, nI b, (-1 : Int32), (0 : Int32)) w = some (if x = 41 then -1 else x, w') ∧ RM S w' ∧ Fr KP w w' := by
  have fin : ∀ {i w1} (z : Int32), RM (goC S.2.1 c i, S.2) w1 → Fr TP w w1 → ∃ w', j6_leavesOf_44 75 z w1 = some (z, w') ∧ RM S w' ∧ Fr KP w w' := by
    intro i w1 z h1 hF
    obtain ⟨w', a1, a2, a3⟩ := h1.lays (hK.tp hF) ((goC_2 _ _ _).trans h2) fun b => ⟨(goC_kind _ _ _ b).1.trans (hk b).1, (goC_kind _ _ _ b).2.trans (hk b).2⟩
    refine ⟨w', ?_, a2, (hF.mono fun _ => Or.inl).tr a3⟩
    unfold j6_leavesOf_44
    rw [ck_pos h1.1.1.t, a1]
    rfl
  have stp : ∀ {i w1}, i < 41 → RM (goC S.2.1 c i, S.2) w1 → Fr TP w w1 → ∃ w2, RM (goC S.2.1 c (i + 1), S.2) w2 ∧ Fr TP w w2 ∧ ∀ k, b6_leavesOf_8 k (75, nI b, (-1 : Int32), nI i) w1 = k (75, nI b, (if (goC S.2.1 c i).1.2 b 2 = 3 then nI i else -1), nI (i + 1)) w2 := by
    intro i w1 hi h1 hF
    have hb' : b < (goC S.2.1 c i).2.1 := by rw [goC_2]; exact hb
    obtain ⟨w2, b1, b2, b3⟩ := RM.min (S := S) h1 (goC_rg hr i)
    refine ⟨w2, b2, hF.tr b3, fun k => ?_⟩
    have e : ∀ z, j6_leavesOf_32 k 75 (nI b) (nI i) z w1 = k (75, nI b, z, nI (i + 1)) w2 := by
      intro z
      unfold j6_leavesOf_32
      rw [ck_pos h1.1.1.t, b1, Option.bind_some, i3_1]
    unfold b6_leavesOf_8
    dsimp only
    rw [if_neg (show ¬ (40 : Int32) < nI i by rw [ilt, nI_int (by omega), show (40 : Int32).toInt = 40 from rfl]; omega), if_pos rfl, ck_pos h1.1.1.t, isIn_ref h1.1 (goC_rg hr i) hb', Option.bind_some]
    dsimp only
    rw [e, e]
    by_cases h3 : (goC S.2.1 c i).1.2 b 2 = 3
    · rw [if_pos h3, if_pos h3, if_pos rfl]
    · rw [if_neg h3, if_neg h3, if_neg (by decide)]
  rcases hx with ⟨m, h1, h3, h4, h5⟩ | ⟨h1, h5⟩
  · refine loopE (R := fun o => ∃ w', o = some (if x = 41 then -1 else x, w') ∧ RM S w' ∧ Fr KP w w') (I := fun i v w1 => v = (75, nI b, (if i ≤ m then (-1 : Int32) else nI m), nI i) ∧ RM (goC S.2.1 c i, S.2) w1 ∧ Fr TP w w1) (m + 1) ?_ ?_ FU _ w (by show m + 1 < 1000; omega) ⟨by rw [if_pos (Nat.zero_le m)]; rfl, h, Fr.rf⟩
    · intro i v w1 hi hI
      obtain ⟨rfl, i1, i2⟩ := hI
      obtain ⟨w2, b1, b2, b3⟩ := stp (by omega) i1 i2
      refine ⟨(75, nI b, (if i + 1 ≤ m then (-1 : Int32) else nI m), nI (i + 1)), w2, ⟨rfl, b1, b2⟩, fun k => ?_⟩
      rw [if_pos (by omega), b3]
      by_cases e : i = m
      · subst e
        rw [if_pos (show (goC S.2.1 c i).1.2 b 2 = 3 from h3), if_neg (by omega)]
      · rw [if_neg (show ¬ (goC S.2.1 c i).1.2 b 2 = 3 from h4 i (by omega)), if_pos (by omega)]
    · intro v w1 hI k
      obtain ⟨rfl, i1, i2⟩ := hI
      rw [if_neg (by omega)]
      obtain ⟨w', a1, a2, a3⟩ := fin (nI m) i1 i2
      refine ⟨w', ?_, a2, a3⟩
      have n41 : ¬ nI m = 41 := by rw [ieq, nI_int (by omega), show (41 : Int32).toInt = 41 from rfl]; omega
      have n1 : ¬ nI m = -1 := by rw [ieq, nI_int (by omega), show (-1 : Int32).toInt = -1 from rfl]; omega
      unfold b6_leavesOf_8
      dsimp only
      rw [a1, h5, if_neg n41, if_neg n1]
      split <;> rfl
  · refine loopE (R := fun o => ∃ w', o = some (if x = 41 then -1 else x, w') ∧ RM S w' ∧ Fr KP w w') (I := fun i v w1 => v = (75, nI b, (-1 : Int32), nI i) ∧ RM (goC S.2.1 c i, S.2) w1 ∧ Fr TP w w1) 41 ?_ ?_ FU _ w (by decide) ⟨rfl, h, Fr.rf⟩
    · intro i v w1 hi hI
      obtain ⟨rfl, i1, i2⟩ := hI
      obtain ⟨w2, b1, b2, b3⟩ := stp (by omega) i1 i2
      refine ⟨(75, nI b, (-1 : Int32), nI (i + 1)), w2, ⟨rfl, b1, b2⟩, fun k => ?_⟩
      rw [b3, if_neg (show ¬ (goC S.2.1 c i).1.2 b 2 = 3 from h1 i hi)]
    · intro v w1 hI k
      obtain ⟨rfl, i1, i2⟩ := hI
      obtain ⟨w', a1, a2, a3⟩ := fin (-1) i1 i2
      refine ⟨w', ?_, a2, a3⟩
      unfold b6_leavesOf_8
      dsimp only
      rw [if_pos (show (40 : Int32) < nI 41 by decide), a1, h5, if_pos rfl]
theorem leaves_pair (b : Int32) : Pair (f5_leaves 32 b) (f6_leaves 75 b) := pair_of fun S hS => by
  rcases bcase b hS.1.1 with ⟨k, hk, rfl⟩ | hb
  · obtain ⟨x, hx⟩ := till_ex S.2.1 S.1 k
    refine ⟨(if x = 41 then -1 else x, S), fun w h => ?_, fun w h => ?_, hS⟩
    · obtain ⟨w1, a1, a2, a3⟩ := h.think
      obtain ⟨w2, c', b1, b2, b3⟩ := a2.till hk hx
      refine ⟨w2, ?_, b2.1, jcM (a3.tr b3)⟩
      unfold f5_leaves
      rw [ck_pos h.t, h.r3, ck_pos h.t42, has_1 h.hc hk, Option.bind_some, if_neg (show ¬ (1 : Int32) = 0 by decide)]
      dsimp only
      rw [a1, Option.bind_some]
      dsimp only
      rw [b1, Option.bind_some]
      dsimp only
      split <;> rfl
    · obtain ⟨w1, a1, a2, a3, a4⟩ := h.keeps
      obtain ⟨w2, b1, b2, b3⟩ := leavesOf_ref (c := S.1) a2 hS.rg a3 hk rfl (fun _ => ⟨rfl, rfl⟩) hx
      refine ⟨w2, ?_, b2, kpC (a4.tr b3)⟩
      unfold f6_leaves f6_leavesOf
      rw [ck_pos h.1.1.t, one_1 h.1 hk, Option.bind_some, if_neg (show ¬ (1 : Int32) = 0 by decide)]
      dsimp only
      rw [ck_pos h.1.1.t, a1, Option.bind_some]
      dsimp only
      rw [b1]
      rfl
  · refine ⟨(-5, S), fun w h => ⟨w, ?_, h, OffM.rf⟩, fun w h => ⟨w, ?_, h, OffC.rf⟩, hS⟩
    · unfold f5_leaves
      rw [ck_pos h.t, h.r3, ck_pos h.t42, has_0 h.hc hb]
      rfl
    · unfold f6_leaves
      rw [ck_pos h.1.1.t, one_0 h.1 hb]
      rfl
