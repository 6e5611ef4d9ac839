/-! bits; together -/
def bbI (f : Nat → Bool) : Nat → Int32
  | 0 => 0
  | m + 1 => if f m = true then bbI f m ||| bitI m else bbI f m
def bbN (f : Nat → Bool) : Nat → Nat
  | 0 => 0
  | m + 1 => if f m = true then bbN f m + 2 ^ m else bbN f m
theorem bbN_lt (f : Nat → Bool) : ∀ m, bbN f m < 2 ^ m
  | 0 => (by decide : 0 < 1)
  | m + 1 => by
    have := bbN_lt f m
    unfold bbN
    rw [Nat.pow_succ]
    split <;> omega
theorem or_bit : ∀ m, m < 6 → ∀ a, a < 2 ^ m → nI a ||| bitI m = nI (a + 2 ^ m) := by decide
theorem bb_eq (f : Nat → Bool) : ∀ m, m ≤ 6 → bbI f m = nI (bbN f m)
  | 0, _ => rfl
  | m + 1, h => by
    have h1 := bb_eq f m (by omega)
    unfold bbI bbN
    split
    · rw [h1, or_bit m (by omega) _ (bbN_lt f m)]
    · exact h1
theorem bbN_inj {f g : Nat → Bool} : ∀ m, bbN f m = bbN g m → ∀ x, x < m → f x = g x
  | 0, _ => fun x hx => absurd hx (Nat.not_lt_zero x)
  | m + 1, h => by
    have h1 := bbN_lt f m
    have h2 := bbN_lt g m
    unfold bbN at h
    have key : f m = g m ∧ bbN f m = bbN g m := by
      generalize 2 ^ m = p at h h1 h2
      cases hf : f m <;> cases hg : g m <;> simp only [hf, hg, if_true] at h <;> first | (simp at h; omega) | (simp at h ⊢; omega) | (exfalso; simp at h; omega)
    intro x hx
    rcases (by omega : x < m ∨ x = m) with e | e
    · exact bbN_inj m key.2 x e
    · rw [e]; exact key.1
theorem nI_inj {a b : Nat} (ha : a < 2 ^ 31) (hb : b < 2 ^ 31) (h : nI a = nI b) : a = b := by
  rw [ieq, nI_int ha, nI_int hb] at h
  omega
theorem bbI_inj {f g : Nat → Bool} {m : Nat} (hm : m ≤ 6) (h : bbI f m = bbI g m) : ∀ x, x < m → f x = g x := by
  rw [bb_eq f m hm, bb_eq g m hm] at h
  have hp : 2 ^ m ≤ 2 ^ 6 := Nat.pow_le_pow_right (by decide) hm
  have h1 := bbN_lt f m
  have h2 := bbN_lt g m
  exact bbN_inj m (nI_inj (by omega) (by omega) h)
theorem bbI_congr {f g : Nat → Bool} : ∀ m, (∀ x, x < m → f x = g x) → bbI f m = bbI g m
  | 0, _ => rfl
  | m + 1, h => by
    unfold bbI
    rw [h m (by omega), bbI_congr m fun x hx => h x (by omega)]
theorem bbI_none {m : Nat} : bbI (fun _ => false) m = 0 := by
  induction m with
  | zero => rfl
  | succ m ih => unfold bbI; rw [if_neg (by decide)]; exact ih
theorem bitF_bb (ba : Nat → Nat → Int32) : ∀ m, bitF ba m = bbI (fun x => decide (¬ ba x 2 = 3)) m
  | 0 => rfl
  | m + 1 => by
    unfold bitF bbI
    rw [bitF_bb ba m]
    by_cases h : ba m 2 = 3
    · rw [if_pos h, if_neg (by simp [h])]
    · rw [if_neg h, if_pos (by simp [h])]
def gonAt (sy : Int32 → (Int32 → Int32) → Int32) (many : Nat) (s : HS) (x : Nat) : Bool := (stepM sy many (minF sy many s x).1 x).2
theorem minF_bb (sy : Int32 → (Int32 → Int32) → Int32) (many : Nat) (s : HS) : ∀ b, (minF sy many s b).2 = bbI (gonAt sy many s) b
  | 0 => rfl
  | b + 1 => by
    rw [minF_succ]
    unfold bbI
    rw [← minF_bb sy many s b]
    rfl
theorem step_bench (sy : Int32 → (Int32 → Int32) → Int32) (many : Nat) (s : HS) (b x : Nat) : (stepM sy many s b).1.2 x 2 = if x = b ∧ (stepM sy many s b).2 = true then 3 else s.2 x 2 := by
  have up : ∀ r : Nat → Int32, upR s.2 b r x 2 = if x = b then r 2 else s.2 x 2 := fun r => by
    unfold upR
    split <;> rfl
  unfold stepM
  split
  · show upR s.2 b _ x 2 = if x = b ∧ false = true then 3 else s.2 x 2
    rw [up, if_neg (fun z : x = b ∧ false = true => absurd z.2 (by decide))]
    split
    · rename_i e; subst e; rfl
    · rfl
  · unfold outM
    dsimp only
    split
    · show upR s.2 b _ x 2 = if x = b ∧ true = true then 3 else s.2 x 2
      rw [up]
      by_cases e : x = b
      · rw [if_pos e, if_pos ⟨e, rfl⟩]; rfl
      · rw [if_neg e, if_neg (fun z => e z.1)]
    · show upR s.2 b _ x 2 = if x = b ∧ false = true then 3 else s.2 x 2
      rw [up, if_neg (fun z : x = b ∧ false = true => absurd z.2 (by decide))]
      split
      · rename_i e; subst e; rfl
      · rfl
theorem minF_bench (sy : Int32 → (Int32 → Int32) → Int32) (many : Nat) (s : HS) : ∀ b x, (minF sy many s b).1.2 x 2 = if x < b ∧ gonAt sy many s x = true then 3 else s.2 x 2
  | 0, x => by rw [if_neg (fun z => absurd z.1 (Nat.not_lt_zero x))]; rfl
  | b + 1, x => by
    rw [minF_succ]
    show (stepM sy many (minF sy many s b).1 b).1.2 x 2 = _
    rw [step_bench, minF_bench sy many s b x]
    by_cases e : x = b
    · subst e
      show (if x = x ∧ gonAt sy many s x = true then (3 : Int32) else _) = _
      by_cases g : gonAt sy many s x = true
      · rw [if_pos ⟨rfl, g⟩, if_pos ⟨by omega, g⟩]
      · rw [if_neg (fun z => g z.2), if_neg (fun z => g z.2), if_neg (fun z => g z.2)]
    · rw [if_neg (fun z => e z.1)]
      by_cases g : gonAt sy many s x = true
      · by_cases l : x < b
        · rw [if_pos ⟨l, g⟩, if_pos ⟨by omega, g⟩]
        · rw [if_neg (fun z => l z.1), if_neg (fun z => by omega)]
      · rw [if_neg (fun z => g z.2), if_neg (fun z => g z.2)]
theorem gon_in {sy : Int32 → (Int32 → Int32) → Int32} {many : Nat} {s : HS} {x : Nat} (h : gonAt sy many s x = true) : ¬ s.2 x 2 = 3 := by
  intro e
  have h2 := minF_bench sy many s x x
  rw [if_neg (fun z => absurd z.1 (by omega)), e] at h2
  unfold gonAt stepM at h
  rw [if_pos h2] at h
  cases h
theorem gone_iff {T : List PG} {c : CO} (hm : c.2.1 ≤ 6) : gonC T c = 0 ↔ bitM (minC T c) = bitM c := by
  have e1 : gonC T c = bbI (gonAt (sySS T c.2.2) c.2.1 c.1) c.2.1 := minF_bb _ _ _ _
  have e2 : bitM (minC T c) = bbI (fun x => decide (¬ (minC T c).1.2 x 2 = 3)) c.2.1 := bitF_bb _ _
  have e3 : bitM c = bbI (fun x => decide (¬ c.1.2 x 2 = 3)) c.2.1 := bitF_bb _ _
  have e4 : ∀ x, (minC T c).1.2 x 2 = if x < c.2.1 ∧ gonAt (sySS T c.2.2) c.2.1 c.1 x = true then 3 else c.1.2 x 2 := fun x => minF_bench _ _ _ _ x
  rw [e1, e2, e3]
  constructor
  · intro h
    have h0 : ∀ x, x < c.2.1 → gonAt (sySS T c.2.2) c.2.1 c.1 x = false := bbI_inj hm (h.trans bbI_none.symm)
    refine bbI_congr _ fun x hx => ?_
    rw [e4, if_neg (fun z => by rw [h0 x hx] at z; exact absurd z.2 (by decide))]
  · intro h
    have h0 := bbI_inj hm h
    rw [← bbI_none (m := c.2.1)]
    refine bbI_congr _ fun x hx => ?_
    cases g : gonAt (sySS T c.2.2) c.2.1 c.1 x with
    | false => rfl
    | true =>
      have h1 := h0 x hx
      rw [e4, if_pos ⟨hx, g⟩] at h1
      have := gon_in g
      simp [this] at h1
/-- for how many minutes -/
def togA (T : List PG) (c : CO) (m : Nat) : Prop := m ≤ 40 ∧ (∀ j, j < m → gonC T (goC T c j) = 0) ∧ (m < 40 → ¬ gonC T (goC T c m) = 0)
theorem tog_ex (T : List PG) (c : CO) : ∃ m, togA T c m := by
  rcases least (fun j => ¬ gonC T (goC T c j) = 0) 40 with ⟨m, h1, h2, h3⟩ | h
  · exact ⟨m, by omega, fun j hj => Classical.not_not.mp (h3 j hj), fun _ => h2⟩
  · exact ⟨40, by omega, fun j hj => Classical.not_not.mp (h j hj), fun z => absurd z (by decide)⟩
theorem tog_bits {T : List PG} {c : CO} {m : Nat} (h : togA T c m) (hm : c.2.1 ≤ 6) : ∀ i, i ≤ m → bitM (goC T c i) = bitM c
  | 0, _ => rfl
  | i + 1, hi => by
    have h1 := h.2.1 i (by omega)
    rw [gone_iff (by rw [goC_2]; exact hm)] at h1
    exact h1.trans (tog_bits h hm i (by omega))
theorem together_c {S : SS} {w : Wd} {m : Nat} (h : RC S w) (hA : togA S.2.1 S.1 m) : ∃ w', f5_together 32 w = some (nI m, w') ∧ RC S w' ∧ OffM w w' := by
  obtain ⟨w1, a1, a2, a3⟩ := h.think
  have key : ∃ w', loopF b5_together_6 FU (32, (0 : Int32)) w1 = some (nI m, w') ∧ RC S w' ∧ Fr JC w1 w' := by
    refine loopE (R := fun o => ∃ w', o = some (nI m, w') ∧ RC S w' ∧ Fr JC w1 w') (I := fun i v w2 => v = (32, nI i) ∧ TC S (goC S.2.1 S.1 i) w2 ∧ Fr JC w1 w2) m ?_ ?_ FU _ w1 (by have := hA.1; show m < 1000; omega) ⟨rfl, a2, Fr.rf⟩
    · intro i v w2 hi hI
      obtain ⟨rfl, i1, i2⟩ := hI
      obtain ⟨w3, b1, b2, b3⟩ := i1.min
      refine ⟨(32, nI (i + 1)), w3, ⟨rfl, b2, i2.tr b3⟩, fun k => ?_⟩
      unfold b5_together_6
      dsimp only
      rw [if_neg (show ¬ (40 : Int32) ≤ nI i from nI_ge (b := 40) (by have := hA.1; omega) (by omega)), ck_pos i1.1.t, i1.1.1.1.2.2.2.2.1, ck_pos i1.2.1.tgA, b1, Option.bind_some, if_pos (show gonC S.2.1 (goC S.2.1 S.1 i) = 0 from hA.2.1 i hi), i3_1]
    · intro v w2 hI k
      obtain ⟨rfl, i1, i2⟩ := hI
      unfold b5_together_6
      dsimp only
      by_cases h40 : m < 40
      · obtain ⟨w3, b1, b2, b3⟩ := i1.min
        refine ⟨w3, ?_, b2.1, i2.tr b3⟩
        rw [if_neg (show ¬ (40 : Int32) ≤ nI m from nI_ge (b := 40) h40 (by omega)), ck_pos i1.1.t, i1.1.1.1.2.2.2.2.1, ck_pos i1.2.1.tgA, b1, Option.bind_some, if_neg (show ¬ gonC S.2.1 (goC S.2.1 S.1 m) = 0 from hA.2.2 h40)]
      · have e : m = 40 := by have := hA.1; omega
        subst e
        exact ⟨w2, if_pos (by decide), i1.1, i2⟩
  obtain ⟨w', k1, k2, k3⟩ := key
  refine ⟨w', ?_, k2, jcM (a3.tr k3)⟩
  unfold f5_together
  rw [ck_pos h.t, a1]
  exact k1
theorem together_r {S : SS} {w : Wd} {m : Nat} (h : RM S w) (hr : Rg S.1.2.1 S.1.1) (hA : togA S.2.1 S.1 m) : ∃ w', f6_together 75 w = some (nI m, w') ∧ RM S w' ∧ OffC w w' := by
  obtain ⟨w1, a1, a2, a3, a4⟩ := h.keeps
  have hm6 := h.1.2.2.1
  have fin : ∀ {i w2}, RM (goC S.2.1 S.1 i, S.2) w2 → Fr TP w1 w2 → ∃ w', j6_together_57 75 (nI m) w2 = some (nI m, w') ∧ RM S w' ∧ OffC w w' := by
    intro i w2 h1 hF
    obtain ⟨w', c1, c2, c3⟩ := h1.laysGo (a3.tp hF)
    refine ⟨w', ?_, c2, kpC ((a4.tr (hF.mono fun _ => Or.inl)).tr c3)⟩
    unfold j6_together_57
    rw [ck_pos h1.1.1.t, c1]
    rfl
  have key : ∃ w', loopF b6_together_13 FU (75, bitM S.1, (0 : Int32), (1 : Int32)) w1 = some (nI m, w') ∧ RM S w' ∧ OffC w w' := by
    have stp : ∀ {i w2}, i < 40 → RM (goC S.2.1 S.1 i, S.2) w2 → Fr TP w1 w2 → ∃ w3, RM (goC S.2.1 S.1 (i + 1), S.2) w3 ∧ Fr TP w1 w3 ∧ ∀ k, b6_together_13 k (75, bitM S.1, nI i, (1 : Int32)) w2 = if bitM (goC S.2.1 S.1 (i + 1)) = bitM S.1 then k (75, bitM S.1, nI (i + 1), (1 : Int32)) w3 else k (75, bitM S.1, nI i, (0 : Int32)) w3 := by
      intro i w2 hi h1 hF
      obtain ⟨w3, b1, b2, b3⟩ := RM.min (S := S) h1 (goC_rg hr i)
      refine ⟨w3, b2, hF.tr b3, fun k => ?_⟩
      have hb : f6_inSet 75 w3 = some (bitM (goC S.2.1 S.1 (i + 1)), w3) := bits_ref b2.1 (goC_rg hr (i + 1))
      unfold b6_together_13
      dsimp only
      rw [if_neg (show ¬ (1 : Int32) = 0 by decide), if_neg (show ¬ (40 : Int32) ≤ nI i from nI_ge (b := 40) hi (by omega)), ck_pos h1.1.1.t, b1, Option.bind_some]
      dsimp only
      rw [hb, Option.bind_some]
      dsimp only
      split
      · unfold j6_together_41 j6_together_52
        rw [if_neg (show ¬ (1 : Int32) = 0 by decide), i3_1]
      · unfold j6_together_41 j6_together_52
        rw [if_pos rfl, Int32.add_zero]
    by_cases h40 : m < 40
    · refine loopE (R := fun o => ∃ w', o = some (nI m, w') ∧ RM S w' ∧ OffC w w') (I := fun i v w2 => v = (75, bitM S.1, (if i ≤ m then nI i else nI m), (if i ≤ m then (1 : Int32) else 0)) ∧ RM (goC S.2.1 S.1 i, S.2) w2 ∧ Fr TP w1 w2) (m + 1) ?_ ?_ FU _ w1 (by show m + 1 < 1000; omega) ⟨by rw [if_pos (Nat.zero_le m), if_pos (Nat.zero_le m)]; rfl, a2, Fr.rf⟩
      · intro i v w2 hi hI
        obtain ⟨rfl, i1, i2⟩ := hI
        obtain ⟨w3, b1, b2, b3⟩ := stp (by omega) i1 i2
        refine ⟨_, w3, ⟨rfl, b1, b2⟩, fun k => ?_⟩
        rw [if_pos (show i ≤ m by omega), if_pos (show i ≤ m by omega), b3]
        by_cases e : i = m
        · subst e
          have hn : ¬ bitM (goC S.2.1 S.1 (i + 1)) = bitM S.1 := fun z => by
            refine hA.2.2 h40 ((gone_iff (by rw [goC_2]; exact hm6)).mpr ?_)
            rw [tog_bits hA hm6 i (by omega)]
            exact z
          rw [if_neg hn, if_neg (by omega), if_neg (by omega)]
        · rw [if_pos (tog_bits hA hm6 (i + 1) (by omega)), if_pos (by omega), if_pos (by omega)]
      · intro v w2 hI k
        obtain ⟨rfl, i1, i2⟩ := hI
        obtain ⟨w', c1, c2, c3⟩ := fin i1 i2
        refine ⟨w', ?_, c2, c3⟩
        unfold b6_together_13
        dsimp only
        rw [if_neg (show ¬ m + 1 ≤ m by omega), if_neg (show ¬ m + 1 ≤ m by omega), if_pos rfl, c1]
    · have e : m = 40 := by have := hA.1; omega
      subst e
      refine loopE (R := fun o => ∃ w', o = some (nI 40, w') ∧ RM S w' ∧ OffC w w') (I := fun i v w2 => v = (75, bitM S.1, nI i, (1 : Int32)) ∧ RM (goC S.2.1 S.1 i, S.2) w2 ∧ Fr TP w1 w2) 40 ?_ ?_ FU _ w1 (by decide) ⟨rfl, a2, Fr.rf⟩
      · intro i v w2 hi hI
        obtain ⟨rfl, i1, i2⟩ := hI
        obtain ⟨w3, b1, b2, b3⟩ := stp hi i1 i2
        refine ⟨_, w3, ⟨rfl, b1, b2⟩, fun k => ?_⟩
        rw [b3, if_pos (tog_bits hA hm6 (i + 1) (by omega))]
      · intro v w2 hI k
        obtain ⟨rfl, i1, i2⟩ := hI
        obtain ⟨w', c1, c2, c3⟩ := fin i1 i2
        refine ⟨w', ?_, c2, c3⟩
        unfold b6_together_13
        dsimp only
        rw [if_neg (show ¬ (1 : Int32) = 0 by decide), if_pos (show (40 : Int32) ≤ nI 40 by decide), c1]
  obtain ⟨w', k1, k2, k3⟩ := key
  refine ⟨w', ?_, k2, k3⟩
  unfold f6_together
  rw [ck_pos h.1.1.t, bits_ref h.1 hr, Option.bind_some]
  dsimp only
  rw [a1]
  exact k1
theorem together_pair : Pair (f5_together 32) (f6_together 75) := pair_of fun S hS => by
  obtain ⟨m, hA⟩ := tog_ex S.2.1 S.1
  exact ⟨(nI m, S), fun w h => together_c h hA, fun w h => together_r h hS.rg hA, hS⟩
