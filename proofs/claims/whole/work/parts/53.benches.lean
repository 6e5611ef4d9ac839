/-! benches -/
theorem wi_at (w : Wd) (q k : Nat) (v : Int32) : wi (sI w q k v) q k = v := by rw [wi_sI, if_pos ⟨rfl, rfl⟩]
theorem upR_b (ba : Nat → Nat → Int32) (b j : Nat) (v : Int32) (x : Nat) (i : Nat) : upR ba b (setr (ba b) j v) x i = if x = b ∧ i = j then v else ba x i := by
  unfold upR setr
  by_cases e : x = b
  · rw [if_pos e]
    by_cases e2 : i = j
    · rw [if_pos e2, if_pos ⟨e, e2⟩]
    · rw [if_neg e2, if_neg (fun z => e2 z.2), e]
  · rw [if_neg e, if_neg (fun z => e z.1)]
theorem sit_rg {c : CO} {b : Nat} {v : Int32} (h : Rg c.2.1 c.1) (hv : rng v 0 3) : Rg (sitC c b 2 v).2.1 (sitC c b 2 v).1 := by
  refine ⟨h.1, h.2.1, fun x hx => ?_⟩
  obtain ⟨r0, r1, r2, r3, r4⟩ := h.2.2 x hx
  refine ⟨?_, ?_, ?_, ?_, ?_⟩
  · show rng (upR c.1.2 b (setr (c.1.2 b) 2 v) x 0) 0 5
    rw [upR_b, if_neg (fun z => absurd z.2 (by decide))]; exact r0
  · show rng (upR c.1.2 b (setr (c.1.2 b) 2 v) x 1) 0 9
    rw [upR_b, if_neg (fun z => absurd z.2 (by decide))]; exact r1
  · show rng (upR c.1.2 b (setr (c.1.2 b) 2 v) x 2) 0 3
    rw [upR_b]
    split
    · exact hv
    · exact r2
  · show rng (upR c.1.2 b (setr (c.1.2 b) 2 v) x 3) 0 999
    rw [upR_b, if_neg (fun z => absurd z.2 (by decide))]; exact r3
  · show rng (upR c.1.2 b (setr (c.1.2 b) 2 v) x 4) 0 999
    rw [upR_b, if_neg (fun z => absurd z.2 (by decide))]; exact r4
theorem RM.sit {S : SS} {c : CO} {w : Wd} {b : Nat} {v : Int32} (h : RM (c, S.2) w) (hb : b < c.2.1) : RM (sitC c b 2 v, S.2) (sI w 78 (3 * b) v) ∧ Fr TP w (sI w 78 (3 * b) v) :=
  ⟨RM.setB (S := (c, S.2)) (j := 0) h hb (by decide), Fr.sI (Or.inl rfl)⟩
def seK (c : CO) (way : Nat) : Nat → Nat × CO
  | 0 => (way, c)
  | k + 1 => if (seK c way k).2.1.2 (c.2.1 - 1 - k) 2 = 3 then seK c way k else ((seK c way k).1 / 3, sitC (seK c way k).2 (c.2.1 - 1 - k) 2 (nI ((seK c way k).1 % 3)))
theorem seK_2 (c : CO) (way : Nat) : ∀ k, (seK c way k).2.2 = c.2
  | 0 => rfl
  | k + 1 => by
    unfold seK
    split
    · exact seK_2 c way k
    · exact seK_2 c way k
theorem seK_lt (c : CO) (way : Nat) : ∀ k, (seK c way k).1 ≤ way
  | 0 => Nat.le_refl _
  | k + 1 => by
    have h := seK_lt c way k
    unfold seK
    split
    · exact h
    · have := Nat.div_le_self (seK c way k).1 3
      show (seK c way k).1 / 3 ≤ way
      omega
theorem seK_at (c : CO) (way : Nat) (x i : Nat) : ∀ k, (i ≠ 2 ∨ x < c.2.1 - k ∨ c.2.1 ≤ x) → k ≤ c.2.1 → (seK c way k).2.1.2 x i = c.1.2 x i
  | 0, _, _ => rfl
  | k + 1, h, hk => by
    have ih := seK_at c way x i k (by omega) (by omega)
    unfold seK
    split
    · exact ih
    · show upR (seK c way k).2.1.2 (c.2.1 - 1 - k) (setr ((seK c way k).2.1.2 (c.2.1 - 1 - k)) 2 (nI ((seK c way k).1 % 3))) x i = _
      rw [upR_b, if_neg (fun z => by omega)]
      exact ih
theorem seK_keep (c : CO) (way : Nat) (x : Nat) : ∀ d k, c.2.1 - k ≤ x → k + d ≤ c.2.1 → (seK c way (k + d)).2.1.2 x 2 = (seK c way k).2.1.2 x 2
  | 0, _, _, _ => rfl
  | d + 1, k, h, hk => by
    have ih := seK_keep c way x d k h (by omega)
    show (seK c way (k + d + 1)).2.1.2 x 2 = _
    rw [seK]
    split
    · exact ih
    · show upR (seK c way (k + d)).2.1.2 (c.2.1 - 1 - (k + d)) (setr ((seK c way (k + d)).2.1.2 (c.2.1 - 1 - (k + d))) 2 (nI ((seK c way (k + d)).1 % 3))) x 2 = _
      rw [upR_b, if_neg (fun z => by omega)]
      exact ih
theorem seK_rg {c : CO} {way : Nat} (h : Rg c.2.1 c.1) : ∀ k, Rg (seK c way k).2.2.1 (seK c way k).2.1
  | 0 => h
  | k + 1 => by
    have ih := seK_rg (way := way) h k
    unfold seK
    split
    · exact ih
    · have hm := Nat.mod_lt (seK c way k).1 (show 0 < 3 by decide)
      exact sit_rg ih (by unfold rng; rw [nI_int (by omega)]; omega)
/-- digits -/
def dg (x : Int32) : Int32 := if x = 3 then 0 else x + 1
def dU (ba : Nat → Nat → Int32) : Nat → Int32
  | 0 => 0
  | b + 1 => 10 * dU ba b + dg (ba b 2)
theorem dU_nat {ba : Nat → Nat → Int32} : ∀ m, m ≤ 6 → (∀ b, b < m → RowR (ba b)) → ∃ j, j < 10 ^ m ∧ dU ba m = nI j
  | 0, _, _ => ⟨0, by decide, rfl⟩
  | m + 1, hm, h => by
    obtain ⟨j, h1, h2⟩ := dU_nat m (by omega) fun b hb => h b (by omega)
    obtain ⟨r0, r1, r2, r3, r4⟩ := h m (by omega)
    unfold rng at r2
    obtain ⟨d, hd, ed⟩ : ∃ d, d < 4 ∧ dg (ba m 2) = nI d := by
      unfold dg
      by_cases e : ba m 2 = 3
      · exact ⟨0, by decide, if_pos e⟩
      · have e' : (ba m 2).toInt ≠ 3 := fun z => e (by rw [ieq, z]; rfl)
        refine ⟨(ba m 2).toInt.toNat + 1, by omega, ?_⟩
        rw [if_neg e, ieq, iadd (by rw [show (1 : Int32).toInt = 1 from rfl]; omega) (by rw [show (1 : Int32).toInt = 1 from rfl]; omega), nI_int (by omega), show (1 : Int32).toInt = 1 from rfl]
        omega
    refine ⟨10 * j + d, by rw [Nat.pow_succ]; omega, ?_⟩
    unfold dU
    rw [h2, ed, show (10 : Int32) = nI 10 from rfl, nI_mul, nI_add]
theorem dig_st (p a g d : Int32) : p * (10 * a + g) + d = (p * 10) * a + (d + p * g) := by
  rw [Int32.mul_add, ← Int32.mul_assoc, Int32.add_assoc, Int32.add_comm (p * g) d]
theorem m_1 (a : Int32) : a + (-1) = a - 1 := by
  rw [Int32.sub_eq_add_neg]
theorem ibk {m k : Nat} (h : k < m) : nI (m - k) - 1 = nI (m - 1 - k) := by
  obtain ⟨d, rfl⟩ : ∃ d, m = k + d + 1 := ⟨m - k - 1, by omega⟩
  rw [show k + d + 1 - k = d + 1 by omega, show k + d + 1 - 1 - k = d by omega, ni1]
theorem div3 {r : Nat} (h : r < 1000) : nI r / 3 = nI (r / 3) ∧ nI r - nI r / 3 * 3 = nI (r % 3) := ⟨idivn (b := 3) (by omega) (by decide) (by decide), irem (b := 3) (by omega) (by decide) (by decide)⟩
theorem seat_c {S : SS} {w : Wd} {way : Nat} (h : TC S S.1 w) (hw : way < 1000) : ∃ w', f5_seatBy 32 (nI way) w = some (dU (seK S.1 way S.1.2.1).2.1.2 S.1.2.1, w') ∧ TC S (seK S.1 way S.1.2.1).2 w' ∧ Fr JC w w' := by
  have hm : S.1.2.1 ≤ 6 := h.2.1.2.2.2.2.2.2.1
  generalize hF : (seK S.1 way S.1.2.1).2.1.2 = F
  have key : ∃ w', loopF b5_seatBy_18 FU (32, nI way, (1 : Int32), (0 : Int32), nI S.1.2.1 - 1) w = some (dU F S.1.2.1, w') ∧ TC S (seK S.1 way S.1.2.1).2 w' ∧ Fr JC w w' := by
    refine loopE (R := fun o => ∃ w', o = some (dU F S.1.2.1, w') ∧ TC S (seK S.1 way S.1.2.1).2 w' ∧ Fr JC w w') (I := fun k v w2 => (∃ p d, v = (32, nI (seK S.1 way k).1, p, d, nI (S.1.2.1 - k) - 1) ∧ p * dU F (S.1.2.1 - k) + d = dU F S.1.2.1) ∧ TC S (seK S.1 way k).2 w2 ∧ Fr JC w w2) S.1.2.1 ?_ ?_ FU _ w (by show S.1.2.1 < 1000; omega) ⟨⟨1, 0, rfl, by rw [Nat.sub_zero, Int32.one_mul, Int32.add_zero]⟩, h, Fr.rf⟩
    · intro k v w2 hk hI
      obtain ⟨⟨p, d, rfl, hpd⟩, i1, i2⟩ := hI
      have hb : S.1.2.1 - 1 - k < (seK S.1 way k).2.2.1 := by rw [seK_2]; omega
      obtain ⟨e1, e2, e3, e4, e5, e6, e7, e8, e9⟩ := i1.bat hb
      have hr := seK_lt S.1 way k
      obtain ⟨d1, d2⟩ := div3 (r := (seK S.1 way k).1) (by omega)
      have hfk : F (S.1.2.1 - 1 - k) 2 = (seK S.1 way (k + 1)).2.1.2 (S.1.2.1 - 1 - k) 2 := by
        have := seK_keep S.1 way (S.1.2.1 - 1 - k) (S.1.2.1 - (k + 1)) (k + 1) (by omega) (by omega)
        rw [show k + 1 + (S.1.2.1 - (k + 1)) = S.1.2.1 by omega, hF] at this
        exact this
      have hdu : dU F (S.1.2.1 - k) = 10 * dU F (S.1.2.1 - (k + 1)) + dg (F (S.1.2.1 - 1 - k) 2) := by
        rw [show S.1.2.1 - k = (S.1.2.1 - (k + 1)) + 1 by omega, show S.1.2.1 - 1 - k = S.1.2.1 - (k + 1) by omega]
        rfl
      rw [hdu, dig_st] at hpd
      have e70 : ∀ (kk : Nat × Int32 × Int32 × Int32 × Int32 → Wd → Option (Int32 × Wd)) r d w3, j5_seatBy_70 kk 32 r p d (nI (S.1.2.1 - 1 - k)) w3 = kk (32, r, p * 10, d, nI (S.1.2.1 - (k + 1)) - 1) w3 := by
        intro kk r d w3
        unfold j5_seatBy_70
        rw [m_1, show S.1.2.1 - 1 - k = S.1.2.1 - (k + 1) by omega]
      have body : ∀ kk, b5_seatBy_18 kk (32, nI (seK S.1 way k).1, p, d, nI (S.1.2.1 - k) - 1) w2 = if (seK S.1 way k).2.1.2 (S.1.2.1 - 1 - k) 2 = 3 then kk (32, nI (seK S.1 way k).1, p * 10, d, nI (S.1.2.1 - (k + 1)) - 1) w2 else kk (32, nI ((seK S.1 way k).1 / 3), p * 10, d + p * (nI ((seK S.1 way k).1 % 3) + 1), nI (S.1.2.1 - (k + 1)) - 1) (sI w2 (50 + 2 + (S.1.2.1 - 1 - k)) 2 (nI ((seK S.1 way k).1 % 3))) := by
        intro kk
        unfold b5_seatBy_18 lw
        dsimp only
        rw [ibk hk, if_neg (show ¬ nI (S.1.2.1 - 1 - k) < 0 by rw [ilt, nI_int (by omega), show (0 : Int32).toInt = 0 from rfl]; omega), ck_pos i1.1.t, e8, ck_pos e9, e1, e3, ck_pos (And.intro e2 e6), e7, e4, ck_pos e5, i1.2.1.row hb (by decide : 2 < 5), d2, d1, e70, e70, wi_at]
      by_cases h3 : (seK S.1 way k).2.1.2 (S.1.2.1 - 1 - k) 2 = 3
      · have es : seK S.1 way (k + 1) = seK S.1 way k := by rw [seK, if_pos h3]
        refine ⟨_, w2, ⟨⟨p * 10, d, rfl, ?_⟩, by rw [es]; exact i1, i2⟩, fun kk => ?_⟩
        · rw [hfk, es, h3, show dg 3 = 0 from rfl, Int32.mul_zero, Int32.add_zero] at hpd
          exact hpd
        · rw [body, if_pos h3, es]
      · have es : seK S.1 way (k + 1) = ((seK S.1 way k).1 / 3, sitC (seK S.1 way k).2 (S.1.2.1 - 1 - k) 2 (nI ((seK S.1 way k).1 % 3))) := by rw [seK, if_neg h3]
        obtain ⟨s1, s2⟩ := i1.sit (j := 2) (v := nI ((seK S.1 way k).1 % 3)) hb
        have hml := Nat.mod_lt (seK S.1 way k).1 (show 0 < 3 by decide)
        refine ⟨_, _, ⟨⟨p * 10, d + p * (nI ((seK S.1 way k).1 % 3) + 1), rfl, ?_⟩, by rw [es]; exact s1, i2.tr s2⟩, fun kk => ?_⟩
        · rw [hfk, es] at hpd
          have ev : (sitC (seK S.1 way k).2 (S.1.2.1 - 1 - k) 2 (nI ((seK S.1 way k).1 % 3))).1.2 (S.1.2.1 - 1 - k) 2 = nI ((seK S.1 way k).1 % 3) := by
            show upR _ _ _ _ _ = _
            rw [upR_b, if_pos ⟨rfl, rfl⟩]
          dsimp only at hpd
          rw [ev] at hpd
          unfold dg at hpd
          rw [if_neg (show ¬ nI ((seK S.1 way k).1 % 3) = 3 by rw [ieq, nI_int (by omega), show (3 : Int32).toInt = 3 from rfl]; omega)] at hpd
          exact hpd
        · rw [body, if_neg h3, es]
    · intro v w2 hI kk
      obtain ⟨⟨p, d, rfl, hpd⟩, i1, i2⟩ := hI
      refine ⟨w2, ?_, i1, i2⟩
      rw [Nat.sub_self, show dU F 0 = 0 from rfl, Int32.mul_zero, Int32.zero_add] at hpd
      unfold b5_seatBy_18
      dsimp only
      rw [Nat.sub_self, if_pos (by decide), hpd]
  obtain ⟨w', k1, k2, k3⟩ := key
  refine ⟨w', ?_, k2, k3⟩
  unfold f5_seatBy
  rw [ck_pos h.1.t, h.1.1.1.2.2.2.2.1, ck_pos h.2.1.tgA, h.2.1.2.2.2.2.2.1]
  exact k1
theorem digits_r {w : Wd} {many t : Nat} {s : HS} {F B G : List Int32} (h : ModC w many t s F B G) (hr : Rg many s) : f6_digitsNow 75 w = some (dU s.2 many, w) := by
  have h' := id h
  obtain ⟨a1, a2, a3, a4, a5, a6, a7, a8, a9⟩ := h'
  unfold f6_digitsNow
  refine loopE (R := fun o => o = some (dU s.2 many, w)) (I := fun i v w1 => w1 = w ∧ v = (75, dU s.2 i, nI i)) many ?_ ?_ FU _ w (by show many < 1000; omega) ⟨rfl, rfl⟩
  · intro i v w1 hi hI
    obtain ⟨rfl, rfl⟩ := hI
    obtain ⟨cb, c0, c1, c2, vb, v0, v1, v2⟩ := idx6 (b := i) (by omega)
    refine ⟨(75, dU s.2 (i + 1), nI (i + 1)), w1, ⟨rfl, rfl⟩, fun k => ?_⟩
    unfold b6_digitsNow_4 j6_digitsNow_38
    dsimp only
    rw [ck_pos a1.t, a2, if_neg (nI_ge hi (by omega)), isIn_ref h hr hi, Option.bind_some]
    dsimp only
    rw [a1.r3, a1.l3, i3, ck_pos (And.intro a1.t3 v0), c0, (a5 i hi).2.2.1, i3_1]
    show _ = k (75, 10 * dU s.2 i + dg (s.2 i 2), nI (i + 1)) w1
    unfold dg
    by_cases h3 : s.2 i 2 = 3
    · rw [if_pos h3, if_pos h3, if_pos rfl]
    · rw [if_neg h3, if_neg h3, if_neg (show ¬ (1 : Int32) = 0 by decide)]
  · intro v w1 hI k
    obtain ⟨rfl, rfl⟩ := hI
    unfold b6_digitsNow_4
    dsimp only
    rw [ck_pos a1.t, a2, if_pos (Int32.le_refl _)]
def benJ (S : SS) (n i : Nat) : Int32 := joyM (goC S.2.1 (seK S.1 i S.1.2.1).2 n)
def benD (S : SS) (i : Nat) : Int32 := dU (seK S.1 i S.1.2.1).2.1.2 S.1.2.1
theorem benches_in_r {S : SS} {w : Wd} {n i : Nat} {x nn best most : Int32} (h : RM S w) (hr : Rg S.1.2.1 S.1.1) (hm6 : S.1.2.1 ≤ 6) (hn : n ≤ 10) (hi : i < 1000) : ∃ w1 w', f6_keeps 75 w = some ((), w1) ∧ wi w1 75 0 = nI S.1.2.1 ∧ RM S w' ∧ OffC w w' ∧ ∀ k68 : Nat × Int32 × Int32 × Int32 × Int32 × Int32 × Int32 → Wd → Option (Int32 × Wd), loopF (b6_benches_90 k68) FU (75, nI n, x, nn, best, most, nI i, nI i, nI S.1.2.1 - 1) w1 = if best = -1 then k68 (75, nI n, x, nn, benD S i, benJ S n i, nI (i + 1)) w' else if benJ S n i ≤ most then k68 (75, nI n, x, nn, best, most, nI (i + 1)) w' else k68 (75, nI n, x, nn, benD S i, benJ S n i, nI (i + 1)) w' := by
  obtain ⟨w1, a1, a2, a3, a4⟩ := h.keeps
  obtain ⟨v, w2, ⟨rfl, i1, i2⟩, hk⟩ := loopS (B := b6_benches_90) (I := fun m v w2 => v = (75, nI n, x, nn, best, most, nI i, nI (seK S.1 i m).1, nI (S.1.2.1 - m) - 1) ∧ RM ((seK S.1 i m).2, S.2) w2 ∧ Fr TP w1 w2) S.1.2.1 (by
    intro m v w2 hmm hI
    obtain ⟨rfl, i1, i2⟩ := hI
    have hb : S.1.2.1 - 1 - m < (seK S.1 i m).2.2.1 := by rw [seK_2]; omega
    have hrs := seK_lt S.1 i m
    have a := i1.1.1
    obtain ⟨d1, d2⟩ := div3 (r := (seK S.1 i m).1) (by omega)
    obtain ⟨cb, c0, c1, c2, vb, v0, v1, v2⟩ := idx6 (b := S.1.2.1 - 1 - m) (by omega)
    have e123 : ∀ (kk : Nat × Int32 × Int32 × Int32 × Int32 × Int32 × Int32 × Int32 × Int32 → Wd → Option (Int32 × Wd)) (k68 : Nat × Int32 × Int32 × Int32 × Int32 × Int32 × Int32 → Wd → Option (Int32 × Wd)) r w3, j6_benches_123 k68 kk 75 (nI n) x nn best most (nI i) r (nI (S.1.2.1 - 1 - m)) w3 = kk (75, nI n, x, nn, best, most, nI i, r, nI (S.1.2.1 - (m + 1)) - 1) w3 := by
      intro kk k68 r w3
      unfold j6_benches_123
      rw [m_1, show S.1.2.1 - 1 - m = S.1.2.1 - (m + 1) by omega]
    have body : ∀ k68 kk, b6_benches_90 k68 kk (75, nI n, x, nn, best, most, nI i, nI (seK S.1 i m).1, nI (S.1.2.1 - m) - 1) w2 = if (seK S.1 i m).2.1.2 (S.1.2.1 - 1 - m) 2 = 3 then kk (75, nI n, x, nn, best, most, nI i, nI (seK S.1 i m).1, nI (S.1.2.1 - (m + 1)) - 1) w2 else kk (75, nI n, x, nn, best, most, nI i, nI ((seK S.1 i m).1 / 3), nI (S.1.2.1 - (m + 1)) - 1) (sI w2 78 (3 * (S.1.2.1 - 1 - m)) (nI ((seK S.1 i m).1 % 3))) := by
      intro k68 kk
      unfold b6_benches_90 lw
      dsimp only
      rw [ibk hmm, if_neg (show ¬ nI (S.1.2.1 - 1 - m) < 0 by rw [ilt, nI_int (by omega), show (0 : Int32).toInt = 0 from rfl]; omega), ck_pos a.t, isIn_ref i1.1 (seK_rg hr m) hb, Option.bind_some]
      dsimp only
      rw [a.r3, a.l3, i3, ck_pos (And.intro a.t3 v0), c0, d2, d1, e123, e123]
      by_cases h3 : (seK S.1 i m).2.1.2 (S.1.2.1 - 1 - m) 2 = 3
      · rw [if_pos h3, if_pos h3, if_pos rfl]
      · rw [if_neg h3, if_neg h3, if_neg (show ¬ (1 : Int32) = 0 by decide)]
    by_cases h3 : (seK S.1 i m).2.1.2 (S.1.2.1 - 1 - m) 2 = 3
    · have es : seK S.1 i (m + 1) = seK S.1 i m := by rw [seK, if_pos h3]
      refine ⟨_, w2, ⟨rfl, by rw [es]; exact i1, i2⟩, fun k68 kk => ?_⟩
      rw [body, if_pos h3, es]
    · have es : seK S.1 i (m + 1) = ((seK S.1 i m).1 / 3, sitC (seK S.1 i m).2 (S.1.2.1 - 1 - m) 2 (nI ((seK S.1 i m).1 % 3))) := by rw [seK, if_neg h3]
      obtain ⟨s1, s2⟩ := RM.sit (S := S) (v := nI ((seK S.1 i m).1 % 3)) i1 hb
      refine ⟨_, _, ⟨rfl, by rw [es]; exact s1, i2.tr s2⟩, fun k68 kk => ?_⟩
      rw [body, if_neg h3, es]) FU 0 (75, nI n, x, nn, best, most, nI i, nI i, nI S.1.2.1 - 1) w1 (by show S.1.2.1 < 1000 + 0; omega) (Nat.zero_le _) ⟨rfl, a2, Fr.rf⟩
  have hrF := seK_rg (c := S.1) (way := i) hr S.1.2.1
  obtain ⟨w3, b1, b2, b3⟩ := RM.goes (S := S) i1 hrF (n := n) (by omega)
  obtain ⟨w', c1, c2, c3⟩ := b2.lays (S := S) ((a3.tp i2).tp b3) (go_2 _ _ _ (seK_2 _ _ _) n) fun b => ⟨(goC_kind _ _ _ b).1.trans (seK_at _ _ _ _ _ (Or.inl (by decide)) (Nat.le_refl _)), (goC_kind _ _ _ b).2.trans (seK_at _ _ _ _ _ (Or.inl (by decide)) (Nat.le_refl _))⟩
  refine ⟨w1, w', a1, a2.1.2.1, c2, kpC ((a4.tr ((i2.tr b3).mono fun _ => Or.inl)).tr c3), fun k68 => ?_⟩
  obtain ⟨k, hk'⟩ := hk k68
  rw [hk']
  have hdig : f6_digitsNow 75 w2 = some (benD S i, w2) := by
    rw [digits_r i1.1 hrF]
    unfold benD
    dsimp only
    rw [seK_2]
  have hjoy : f6_joyAll 75 w3 = some (benJ S n i, w3) := joy_ref b2.1
  unfold b6_benches_90
  dsimp only
  rw [Nat.sub_self, if_pos (show nI 0 - 1 < 0 by decide), ck_pos i1.1.1.t, hdig, Option.bind_some]
  dsimp only
  rw [b1, Option.bind_some]
  dsimp only
  rw [hjoy, Option.bind_some]
  dsimp only
  rw [c1, Option.bind_some]
  dsimp only
  unfold j6_benches_163 j6_benches_168 j6_benches_182 j6_benches_196
  rw [if_neg (show ¬ (1 : Int32) = 0 by decide), if_pos (show (0 : Int32) = 0 from rfl), if_neg (show ¬ (1 : Int32) = 0 by decide), if_pos (show (0 : Int32) = 0 from rfl), i3_1]
theorem benJ_0 {S : SS} {n i : Nat} (hS : SI S) : ¬ benJ S n i ≤ -1 := by
  obtain ⟨j, h1, h2⟩ := joyM_nat (c := goC S.2.1 (seK S.1 i S.1.2.1).2 n) (by rw [goC_2, seK_2]; exact hS.1.1) (goC_rg (seK_rg hS.rg _) n)
  unfold benJ
  rw [h2, ile, nI_int (by omega), show (-1 : Int32).toInt = -1 from rfl]
  omega
theorem benD_ne {S : SS} {i : Nat} (hS : SI S) : ¬ benD S i = -1 := by
  have h := seK_rg (c := S.1) (way := i) hS.rg S.1.2.1
  obtain ⟨j, h1, h2⟩ := dU_nat (ba := (seK S.1 i S.1.2.1).2.1.2) S.1.2.1 hS.1.1 (by have := h.2.2; rw [seK_2] at this; exact this)
  have : 10 ^ S.1.2.1 ≤ 10 ^ 6 := Nat.pow_le_pow_right (by decide) hS.1.1
  unfold benD
  rw [h2]
  exact nI_m1 (by omega)
/-- how many ways -/
theorem benches_c {S : SS} {w : Wd} {n N : Nat} {x : Int32} (h : RC S w) (hn : n ≤ 10) (hN : N < 1000) : ∃ w', loopF b5_benches_57 FU (32, nI n, x, nI N, (-1 : Int32), (0 : Int32), (0 : Int32)) w = some (bstA (bst (benJ S n) (benD S) N) x, w') ∧ RC S w' ∧ OffM w w' := by
  refine loopE (R := fun o => ∃ w', o = some (bstA (bst (benJ S n) (benD S) N) x, w') ∧ RC S w' ∧ OffM w w') (I := fun i v w2 => v = (32, nI n, x, nI N, (bst (benJ S n) (benD S) i).1, (bst (benJ S n) (benD S) i).2, nI i) ∧ RC S w2 ∧ OffM w w2) N ?_ ?_ FU _ w hN ⟨rfl, h, OffM.rf⟩
  · intro i v w2 hi hI
    obtain ⟨rfl, i1, i2⟩ := hI
    obtain ⟨w3, a1, a2, a3⟩ := i1.think
    obtain ⟨w4, b1, b2, b3⟩ := seat_c (way := i) a2 (by omega)
    obtain ⟨w5, c1, c2, c3⟩ := b2.behind (n := n) (by omega)
    refine ⟨_, w5, ⟨rfl, c2.1, i2.tr (jcM ((a3.tr b3).tr c3))⟩, fun k => ?_⟩
    unfold b5_benches_57
    dsimp only
    rw [if_neg (nI_ge hi (by omega)), ck_pos i1.t, a1, Option.bind_some]
    dsimp only
    rw [b1, Option.bind_some]
    dsimp only
    rw [c1, Option.bind_some]
    dsimp only
    unfold j5_benches_97
    rw [i3_1, bst]
    show (if benJ S n i ≤ _ then _ else k (32, nI n, x, nI N, benJ S n i, benD S i, nI (i + 1)) w5) = _
    split <;> rfl
  · intro v w2 hI k
    obtain ⟨rfl, i1, i2⟩ := hI
    refine ⟨w2, ?_, i1, i2⟩
    unfold b5_benches_57 bstA
    dsimp only
    rw [if_pos (Int32.le_refl _)]
    split <;> rfl
theorem benches_r {S : SS} {w : Wd} {n N : Nat} {x : Int32} (h : RM S w) (hS : SI S) (hn : n ≤ 10) (hN : N < 1000) (hN0 : 0 < N) : ∃ w', loopF b6_benches_68 FU (75, nI n, x, nI N, (-1 : Int32), (0 : Int32), (0 : Int32)) w = some (bstA (bst (benJ S n) (benD S) N) x, w') ∧ RM S w' ∧ OffC w w' := by
  have hD : ∀ i, i < N → ¬ benD S i = -1 := fun i hi => benD_ne hS
  refine loopE (R := fun o => ∃ w', o = some (bstA (bst (benJ S n) (benD S) N) x, w') ∧ RM S w' ∧ OffC w w') (I := fun i v w2 => v = (75, nI n, x, nI N, (bsm (benJ S n) (benD S) i).1, (bsm (benJ S n) (benD S) i).2, nI i) ∧ RM S w2 ∧ OffC w w2) N ?_ ?_ FU _ w hN ⟨rfl, h, OffC.rf⟩
  · intro i v w2 hi hI
    obtain ⟨rfl, i1, i2⟩ := hI
    obtain ⟨w1, w', a1, a2, b1, b2, b3⟩ := benches_in_r (n := n) (i := i) (x := x) (nn := nI N) (best := (bsm (benJ S n) (benD S) i).1) (most := (bsm (benJ S n) (benD S) i).2) i1 hS.rg hS.1.1 hn (by omega)
    refine ⟨_, w', ⟨rfl, b1, i2.tr b2⟩, fun k => ?_⟩
    unfold b6_benches_68
    dsimp only
    rw [if_neg (nI_ge hi (by omega)), ck_pos i1.1.1.t, a1, Option.bind_some]
    dsimp only
    rw [a2, b3, bsm_st hD (benJ_0 hS) hi]
    split
    · rfl
    · split <;> rfl
  · intro v w2 hI k
    obtain ⟨rfl, i1, i2⟩ := hI
    refine ⟨w2, ?_, i1, i2⟩
    unfold b6_benches_68 bstA bsm
    dsimp only
    rw [if_pos (Int32.le_refl _), if_neg (show ¬ N = 0 by omega)]
    split <;> rfl
theorem pow3 {k : Nat} (h : k ≤ 6) : 0 < 3 ^ k ∧ 3 ^ k < 1000 := by
  have := Nat.pow_le_pow_right (show 0 < 3 by decide) h
  exact ⟨Nat.pow_pos (by decide), by omega⟩
theorem ways_c2 {S : SS} {w : Wd} {n x : Int32} (k : Nat) (hk : k ≤ 6) : loopF b5_benches_33 FU (32, n, x, (1 : Int32), nI k) w = loopF b5_benches_57 FU (32, n, x, nI (3 ^ k), (-1 : Int32), (0 : Int32), (0 : Int32)) w := by
  refine loopE (R := fun o => o = loopF b5_benches_57 FU (32, n, x, nI (3 ^ k), (-1 : Int32), (0 : Int32), (0 : Int32)) w) (I := fun i v w2 => w2 = w ∧ v = (32, n, x, nI (3 ^ i), nI (k - i))) k ?_ ?_ FU _ w (by show k < 1000; omega) ⟨rfl, rfl⟩
  · intro i v w2 hi hI
    obtain ⟨rfl, rfl⟩ := hI
    refine ⟨_, w2, ⟨rfl, rfl⟩, fun kk => ?_⟩
    unfold b5_benches_33
    dsimp only
    rw [if_neg (show ¬ nI (k - i) ≤ 0 by rw [ile, nI_int (by omega), show (0 : Int32).toInt = 0 from rfl]; omega), show (3 : Int32) = nI 3 from rfl, nI_mul, Nat.pow_succ, show k - i = (k - (i + 1)) + 1 by omega, im1]
  · intro v w2 hI kk
    obtain ⟨rfl, rfl⟩ := hI
    unfold b5_benches_33
    dsimp only
    rw [Nat.sub_self, if_pos (by decide)]
theorem ways_r {S : SS} {w : Wd} {n x : Int32} (h : RM S w) (hr : Rg S.1.2.1 S.1.1) (hm6 : S.1.2.1 ≤ 6) : loopF b6_benches_27 FU (75, n, x, (1 : Int32), (0 : Int32)) w = loopF b6_benches_68 FU (75, n, x, nI (3 ^ inN S.1.1.2 S.1.2.1), (-1 : Int32), (0 : Int32), (0 : Int32)) w := by
  refine loopE (R := fun o => o = loopF b6_benches_68 FU (75, n, x, nI (3 ^ inN S.1.1.2 S.1.2.1), (-1 : Int32), (0 : Int32), (0 : Int32)) w) (I := fun i v w2 => w2 = w ∧ v = (75, n, x, nI (3 ^ inN S.1.1.2 i), nI i)) S.1.2.1 ?_ ?_ FU _ w (by show S.1.2.1 < 1000; omega) ⟨rfl, rfl⟩
  · intro i v w2 hi hI
    obtain ⟨rfl, rfl⟩ := hI
    refine ⟨(75, n, x, nI (3 ^ inN S.1.1.2 (i + 1)), nI (i + 1)), w2, ⟨rfl, rfl⟩, fun kk => ?_⟩
    unfold b6_benches_27 j6_benches_51
    dsimp only
    rw [ck_pos h.1.1.t, h.1.2.1, if_neg (nI_ge hi (by omega)), isIn_ref h.1 hr hi, Option.bind_some, i3_1, inN_succ]
    dsimp only
    by_cases h3 : S.1.1.2 i 2 = 3
    · rw [if_pos h3, if_pos h3, if_pos rfl, Int32.mul_one]
    · rw [if_neg h3, if_neg h3, if_neg (show ¬ (1 : Int32) = 0 by decide), show (3 : Int32) = nI 3 from rfl, nI_mul, Nat.pow_succ]
  · intro v w2 hI kk
    obtain ⟨rfl, rfl⟩ := hI
    unfold b6_benches_27
    dsimp only
    rw [ck_pos h.1.1.t, h.1.2.1, if_pos (Int32.le_refl _)]
theorem benches_pair (n x : Int32) : Pair (f5_benches 32 n x) (f6_benches 75 n x) := pair_of fun S hS => by
  rcases within2 n 1 10 with ⟨hn, en⟩ | ⟨hn, en⟩
  · obtain ⟨m, hm, rfl⟩ := upto n (m := 10) rfl (by decide) (pos_le hn)
    rcases within2 x 0 1 with ⟨hx, ex⟩ | ⟨hx, ex⟩
    · have hin := inN_le S.1.1.2 S.1.2.1
      have hm6 := hS.1.1
      obtain ⟨p0, p1⟩ := pow3 (k := inN S.1.1.2 S.1.2.1) (by omega)
      refine ⟨(bstA (bst (benJ S m) (benD S) (3 ^ inN S.1.1.2 S.1.2.1)) x, S), fun w h => ?_, fun w h => ?_, hS⟩
      · unfold f5_benches
        rw [(en w).2, Option.bind_some, if_neg (show ¬ (1 : Int32) = 0 by decide)]
        dsimp only
        rw [(ex w).2, Option.bind_some, if_neg (show ¬ (1 : Int32) = 0 by decide)]
        dsimp only
        rw [ck_pos h.t, h.r3, ck_pos h.t42, in_cls h.hc, Option.bind_some]
        dsimp only
        rw [ways_c2 (S := S) _ (by omega)]
        exact benches_c h hm p1
      · unfold f6_benches
        rw [(en w).1, Option.bind_some, if_neg (show ¬ (1 : Int32) = 0 by decide)]
        dsimp only
        rw [(ex w).1, Option.bind_some, if_neg (show ¬ (1 : Int32) = 0 by decide)]
        dsimp only
        rw [ways_r h hS.rg hm6]
        exact benches_r h hS hm p1 p0
    · refine ⟨(-2, S), fun w h => ⟨w, ?_, h, OffM.rf⟩, fun w h => ⟨w, ?_, h, OffC.rf⟩, hS⟩
      · unfold f5_benches
        rw [(en w).2, Option.bind_some, if_neg (show ¬ (1 : Int32) = 0 by decide)]
        dsimp only
        rw [(ex w).2, Option.bind_some, if_pos rfl]
      · unfold f6_benches
        rw [(en w).1, Option.bind_some, if_neg (show ¬ (1 : Int32) = 0 by decide)]
        dsimp only
        rw [(ex w).1, Option.bind_some, if_pos rfl]
  · refine ⟨(-2, S), fun w h => ⟨w, ?_, h, OffM.rf⟩, fun w h => ⟨w, ?_, h, OffC.rf⟩, hS⟩
    · unfold f5_benches
      rw [(en w).2, Option.bind_some, if_pos rfl]
    · unfold f6_benches
      rw [(en w).1, Option.bind_some, if_pos rfl]
