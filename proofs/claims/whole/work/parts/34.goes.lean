/-! minutes in thought, joy of all, who is in -/
def joyF (ba : Nat → Nat → Int32) : Nat → Int32
  | 0 => 0
  | m + 1 => joyF ba m + ba m 4
def bitF (ba : Nat → Nat → Int32) : Nat → Int32
  | 0 => 0
  | m + 1 => if ba m 2 = 3 then bitF ba m else bitF ba m ||| bitI m
def joyM (c : CO) : Int32 := joyF c.1.2 c.2.1
def bitM (c : CO) : Int32 := bitF c.1.2 c.2.1
theorem joy_cls {w : Wd} {a many : Nat} {s : HS} {F B G : List Int32} (h : HutC w a many s F B G) : f1_joyOfAll a w = some (joyF s.2 many, w) := by
  have h' := id h
  obtain ⟨a1, a2, a3, a4, a5, a6, a7, a8, a9, a10⟩ := h'
  unfold f1_joyOfAll
  refine loopE (R := fun o => o = some (joyF s.2 many, w)) (I := fun i v w1 => w1 = w ∧ v = (a, joyF s.2 i, nI i)) many ?_ ?_ FU _ w (by show many < 1000; omega) ⟨rfl, rfl⟩
  · intro i v w1 hi hI
    obtain ⟨rfl, rfl⟩ := hI
    refine ⟨(a, joyF s.2 (i + 1), nI (i + 1)), w1, ⟨rfl, rfl⟩, fun k => ?_⟩
    unfold b1_joyOfAll_4
    dsimp only
    rw [ck_pos h.tgA, a6, if_neg (nI_ge hi (by omega)), a2, ln_eq a3, ck_pos (And.intro (tg_eq a3) (vin (by omega) (by omega))), nI_clamp (by omega), (a4 i (by omega)).1, ck_pos (h.tgB hi), h.row hi (by decide), i3_1]
    rfl
  · intro v w1 hI k
    obtain ⟨rfl, rfl⟩ := hI
    unfold b1_joyOfAll_4
    dsimp only
    rw [ck_pos h.tgA, a6, if_pos (Int32.le_refl _)]
theorem bits_cls {w : Wd} {a many : Nat} {s : HS} {F B G : List Int32} (h : HutC w a many s F B G) : f1_bitsIn a w = some (bitF s.2 many, w) := by
  have h' := id h
  obtain ⟨a1, a2, a3, a4, a5, a6, a7, a8, a9, a10⟩ := h'
  unfold f1_bitsIn
  refine loopE (R := fun o => o = some (bitF s.2 many, w)) (I := fun i v w1 => w1 = w ∧ v = (a, bitF s.2 i, nI i)) many ?_ ?_ FU _ w (by show many < 1000; omega) ⟨rfl, rfl⟩
  · intro i v w1 hi hI
    obtain ⟨rfl, rfl⟩ := hI
    refine ⟨(a, bitF s.2 (i + 1), nI (i + 1)), w1, ⟨rfl, rfl⟩, fun k => ?_⟩
    unfold b1_bitsIn_4 j1_bitsIn_31
    dsimp only
    rw [ck_pos h.tgA, a6, if_neg (nI_ge hi (by omega)), a2, ln_eq a3, ck_pos (And.intro (tg_eq a3) (vin (by omega) (by omega))), nI_clamp (by omega), (a4 i (by omega)).1, ck_pos (h.tgB hi), h.row hi (by decide), i3_1]
    show _ = k (a, (if s.2 i 2 = 3 then bitF s.2 i else bitF s.2 i ||| bitI i), nI (i + 1)) w1
    split <;> rfl
  · intro v w1 hI k
    obtain ⟨rfl, rfl⟩ := hI
    unfold b1_bitsIn_4
    dsimp only
    rw [ck_pos h.tgA, a6, if_pos (Int32.le_refl _)]
theorem joy_ref {w : Wd} {many t : Nat} {s : HS} {F B G : List Int32} (h : ModC w many t s F B G) : f6_joyAll 75 w = some (joyF s.2 many, w) := by
  have h' := id h
  obtain ⟨a1, a2, a3, a4, a5, a6, a7, a8, a9⟩ := h'
  unfold f6_joyAll
  refine loopE (R := fun o => o = some (joyF s.2 many, w)) (I := fun i v w1 => w1 = w ∧ v = (75, joyF s.2 i, nI i)) many ?_ ?_ FU _ w (by show many < 1000; omega) ⟨rfl, rfl⟩
  · intro i v w1 hi hI
    obtain ⟨rfl, rfl⟩ := hI
    obtain ⟨cb, c0, c1, c2, vb, v0, v1, v2⟩ := idx6 (b := i) (by omega)
    refine ⟨(75, joyF s.2 (i + 1), nI (i + 1)), w1, ⟨rfl, rfl⟩, fun k => ?_⟩
    unfold b6_joyAll_4
    dsimp only
    rw [ck_pos a1.t, a2, if_neg (nI_ge hi (by omega)), i3, i3_2, a1.r3, a1.l3, ck_pos (And.intro a1.t3 v2), c2, (a5 i hi).2.2.2.2, i3_1]
    rfl
  · intro v w1 hI k
    obtain ⟨rfl, rfl⟩ := hI
    unfold b6_joyAll_4
    dsimp only
    rw [ck_pos a1.t, a2, if_pos (Int32.le_refl _)]
theorem or0 (x : Int32) : x ||| 0 = x := by
  apply Int32.toBitVec_inj.mp
  simp
theorem bits_ref {w : Wd} {many t : Nat} {s : HS} {F B G : List Int32} (h : ModC w many t s F B G) (hr : Rg many s) : f6_inSet 75 w = some (bitF s.2 many, w) := by
  have h' := id h
  obtain ⟨a1, a2, a3, a4, a5, a6, a7, a8, a9⟩ := h'
  unfold f6_inSet
  refine loopE (R := fun o => o = some (bitF s.2 many, w)) (I := fun i v w1 => w1 = w ∧ v = (75, bitF s.2 i, nI i)) many ?_ ?_ FU _ w (by show many < 1000; omega) ⟨rfl, rfl⟩
  · intro i v w1 hi hI
    obtain ⟨rfl, rfl⟩ := hI
    refine ⟨(75, bitF s.2 (i + 1), nI (i + 1)), w1, ⟨rfl, rfl⟩, fun k => ?_⟩
    unfold b6_inSet_4 j6_inSet_28
    dsimp only
    rw [ck_pos a1.t, a2, if_neg (nI_ge hi (by omega)), isIn_ref h hr hi, Option.bind_some, i3_1]
    show _ = k (75, (if s.2 i 2 = 3 then bitF s.2 i else bitF s.2 i ||| bitI i), nI (i + 1)) w1
    by_cases h3 : s.2 i 2 = 3
    · rw [if_pos h3, if_pos h3, if_pos rfl, or0]
    · rw [if_neg h3, if_neg h3, if_neg (show ¬ (1 : Int32) = 0 by decide)]
      rfl
  · intro v w1 hI k
    obtain ⟨rfl, rfl⟩ := hI
    unfold b6_inSet_4
    dsimp only
    rw [ck_pos a1.t, a2, if_pos (Int32.le_refl _)]
/-- a minute, and many -/
def minC (T : List PG) (c : CO) : CO := (minM (sySS T c.2.2) c.2.1 c.1, c.2)
def gonC (T : List PG) (c : CO) : Int32 := goneM (sySS T c.2.2) c.2.1 c.1
def goC (T : List PG) (c : CO) : Nat → CO
  | 0 => c
  | n + 1 => minC T (goC T c n)
theorem goC_2 (T : List PG) (c : CO) : ∀ n, (goC T c n).2 = c.2
  | 0 => rfl
  | n + 1 => goC_2 T c n
theorem minC_rg {T : List PG} {c : CO} (h : Rg c.2.1 c.1) : Rg (minC T c).2.1 (minC T c).1 := min_rng h
theorem goC_rg {T : List PG} {c : CO} (h : Rg c.2.1 c.1) : ∀ n, Rg (goC T c n).2.1 (goC T c n).1
  | 0 => h
  | n + 1 => minC_rg (goC_rg h n)
theorem TC.min {S : SS} {c : CO} {w : Wd} (h : TC S c w) : ∃ w', f1_passMinute 50 w = some (gonC S.2.1 c, w') ∧ TC S (minC S.2.1 c) w' ∧ Fr JC w w' := by
  obtain ⟨w', b1, b2, b3, b4⟩ := minute_cls h.2.1
  have t' := h.1.2.2.1.2.2 c.2.2 h.2.2.2
  have hs : stk w 50 = txL c.2.2 + 2 := by unfold stk; rw [h.2.2.1, t'.2.2.2.2]
  have hF : Fr JC w w' := b2.mono fun q z => by
    rcases z with z | z
    · rw [z, hs]; exact (txNC _).2.2
    · exact Or.inl z
  have h5 : wr w' 50 5 = wr w 50 5 := congrFun (congrFun (kp_min 50 w _ b1) 50) 5
  exact ⟨w', b1, h.upd hF ⟨b3, by rw [h5]; exact h.2.2.1, h.2.2.2⟩, hF⟩
theorem RM.min {S : SS} {c : CO} {w : Wd} (h : RM (c, S.2) w) (hr : Rg c.2.1 c.1) : ∃ w', f6_minuteOf 75 w = some (gonC S.2.1 c, w') ∧ RM (minC S.2.1 c, S.2) w' ∧ Fr TP w w' := by
  obtain ⟨w', b1, b2, b3⟩ := min_ref h.1 hr
  have hF : Fr TP w w' := b2.mono fun q z => by unfold MP at z; unfold TP; omega
  exact ⟨w', b1, RM.fr (S := (c, S.2)) h b3 hF (fun _ => Or.inl), hF⟩
theorem RM.goes {S : SS} {c : CO} {w : Wd} {n : Nat} (h : RM (c, S.2) w) (hr : Rg c.2.1 c.1) (hn : n < 1000) : ∃ w', f6_goes 75 (nI n) w = some ((), w') ∧ RM (goC S.2.1 c n, S.2) w' ∧ Fr TP w w' := by
  unfold f6_goes
  refine loopE (R := fun o => ∃ w', o = some ((), w') ∧ RM (goC S.2.1 c n, S.2) w' ∧ Fr TP w w') (I := fun i v w1 => v = (75, nI n, nI i) ∧ RM (goC S.2.1 c i, S.2) w1 ∧ Fr TP w w1) n ?_ ?_ FU _ w hn ⟨rfl, h, Fr.rf⟩
  · intro i v w1 hi hI
    obtain ⟨rfl, i1, i2⟩ := hI
    obtain ⟨w2, b1, b2, b3⟩ := RM.min (S := S) i1 (goC_rg hr i)
    refine ⟨(75, nI n, nI (i + 1)), w2, ⟨rfl, b2, i2.tr b3⟩, fun k => ?_⟩
    unfold b6_goes_2
    dsimp only
    rw [if_neg (nI_ge hi (by omega)), ck_pos i1.1.1.t, b1, Option.bind_some, i3_1]
  · intro v w1 hI k
    obtain ⟨rfl, i1, i2⟩ := hI
    refine ⟨w1, ?_, i1, i2⟩
    unfold b6_goes_2
    dsimp only
    rw [if_pos (Int32.le_refl _)]
theorem TC.behind {S : SS} {c : CO} {w : Wd} {n : Nat} (h : TC S c w) (hn : n < 1000) : ∃ w', f5_joyBehind 32 (nI n) w = some (joyM (goC S.2.1 c n), w') ∧ TC S (goC S.2.1 c n) w' ∧ Fr JC w w' := by
  unfold f5_joyBehind
  refine loopE (R := fun o => ∃ w', o = some (joyM (goC S.2.1 c n), w') ∧ TC S (goC S.2.1 c n) w' ∧ Fr JC w w') (I := fun i v w1 => v = (32, nI n, nI i) ∧ TC S (goC S.2.1 c i) w1 ∧ Fr JC w w1) n ?_ ?_ FU _ w hn ⟨rfl, h, Fr.rf⟩
  · intro i v w1 hi hI
    obtain ⟨rfl, i1, i2⟩ := hI
    obtain ⟨w2, b1, b2, b3⟩ := i1.min
    refine ⟨(32, nI n, nI (i + 1)), w2, ⟨rfl, b2, i2.tr b3⟩, fun k => ?_⟩
    unfold b5_joyBehind_2
    dsimp only
    rw [if_neg (nI_ge hi (by omega)), ck_pos (tg_eq i1.1.1.1.1), i1.1.1.1.2.2.2.2.1, ck_pos i1.2.1.tgA, b1, Option.bind_some, i3_1]
  · intro v w1 hI k
    obtain ⟨rfl, i1, i2⟩ := hI
    refine ⟨w1, ?_, i1, i2⟩
    unfold b5_joyBehind_2
    dsimp only
    rw [if_pos (Int32.le_refl _), ck_pos (tg_eq i1.1.1.1.1), i1.1.1.1.2.2.2.2.1, ck_pos i1.2.1.tgA, joy_cls i1.2.1, Option.bind_some]
    rfl
