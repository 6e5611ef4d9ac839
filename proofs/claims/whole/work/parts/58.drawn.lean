/-! pouring by lots -/
def lotN (l : Int64) : Int64 := l * 48271 - l * 48271 / 2147483647 * 2147483647
def lotF (v : Nat) : Nat → Int64
  | 0 => nL (v + 1)
  | m + 1 => lotN (lotF v m)
def lad4 (l : Int64) : Int32 := (l - l / 4 * 4).toInt32
def ladF (v m : Nat) : Int32 := lad4 (lotN (lotF v m))
theorem lad4_3 (l : Int64) : ¬ lad4 l ≤ 0 → rng (lad4 l) 1 3 := by
  have h1 := l.toInt_lt
  have h2 := l.le_toInt
  have e4 : (4 : Int64).toInt = 4 := rfl
  have d : (l / 4).toInt = l.toInt.tdiv 4 := by rw [Jvm.Kit.i64_div (by rw [e4]; omega), e4]
  have q : (0 ≤ l.toInt ∧ l.toInt.tdiv 4 = l.toInt / 4) ∨ (l.toInt < 0 ∧ l.toInt.tdiv 4 = -((-l.toInt) / 4)) := by
    by_cases h : 0 ≤ l.toInt
    · exact Or.inl ⟨h, Int.tdiv_eq_ediv_of_nonneg h⟩
    · refine Or.inr ⟨by omega, ?_⟩
      rw [← Int.tdiv_eq_ediv_of_nonneg (by omega), Int.neg_tdiv, Int.neg_neg]
  have m : (l / 4 * 4).toInt = l.toInt.tdiv 4 * 4 := by rw [Jvm.Kit.i64_mul (by rw [d, e4]; omega) (by rw [d, e4]; omega), d, e4]
  have r : (l - l / 4 * 4).toInt = l.toInt - l.toInt.tdiv 4 * 4 := by rw [Jvm.Kit.i64_sub (by rw [m]; omega) (by rw [m]; omega), m]
  have i : (lad4 l).toInt = l.toInt - l.toInt.tdiv 4 * 4 := by
    unfold lad4
    rw [Jvm.Kit.i32_of_i64 (by rw [r]; omega) (by rw [r]; omega), r]
  rw [ile, show (0 : Int32).toInt = 0 from rfl]
  unfold rng
  rw [i]
  omega
theorem seed_1 {v : Nat} (h : v < 2 ^ 30) : (nI v + 1).toInt64 = nL (v + 1) ∧ (nI v).toInt64 + 1 = nL (v + 1) := by
  refine ⟨by rw [i3_1, nI_long (by omega)], ?_⟩
  rw [nI_long (by omega), ← Int64.toInt_inj, Jvm.Kit.i64_add (by rw [nL_int (by omega), show (1 : Int64).toInt = 1 from rfl]; omega) (by rw [nL_int (by omega), show (1 : Int64).toInt = 1 from rfl]; omega), nL_int (by omega), nL_int (by omega), show (1 : Int64).toInt = 1 from rfl]
  omega
def drC (S : SS) (v : Nat) : CO := pwC S.2.1 (ladF v) S.1 8
theorem seed_c {S : SS} {w : Wd} {v : Nat} (h : RC S w) (hv : v < 2 ^ 30) : ∃ w', f5_joyBySeed 32 (nI v) w = some (joyM (drC S v), w') ∧ TC S (drC S v) w' ∧ Fr JC w w' := by
  obtain ⟨w1, a1, a2, a3⟩ := h.think
  have key : ∃ w', loopF b5_joyBySeed_12 FU (32, nL (v + 1), (0 : Int32)) w1 = some (joyM (drC S v), w') ∧ TC S (drC S v) w' ∧ Fr JC w1 w' := by
    refine loopE (R := fun o => ∃ w', o = some (joyM (drC S v), w') ∧ TC S (drC S v) w' ∧ Fr JC w1 w') (I := fun m x w2 => x = (32, lotF v m, nI m) ∧ TC S (pwC S.2.1 (ladF v) S.1 m) w2 ∧ Fr JC w1 w2) 8 ?_ ?_ FU _ w1 (by decide) ⟨rfl, a2, Fr.rf⟩
    · intro m x w2 hm hI
      obtain ⟨rfl, i1, i2⟩ := hI
      have e52 : ∀ {c w3}, TC S c w3 → Fr JC w1 w3 → ∃ w4, TC S (minC S.2.1 c) w4 ∧ Fr JC w1 w4 ∧ ∀ k l, j5_joyBySeed_52 k 32 l (nI m) w3 = k (32, l, nI (m + 1)) w4 := by
        intro c w3 h3 hF
        obtain ⟨w4, b1, b2, b3⟩ := h3.min
        refine ⟨w4, b2, hF.tr b3, fun k l => ?_⟩
        unfold j5_joyBySeed_52
        rw [ck_pos h3.1.t, h3.1.1.1.2.2.2.2.1, ck_pos h3.2.1.tgA, b1, Option.bind_some, i3_1]
      have body : ∀ k, b5_joyBySeed_12 k (32, lotF v m, nI m) w2 = if ladF v m ≤ 0 then j5_joyBySeed_52 k 32 (lotF v (m + 1)) (nI m) w2 else ((f1_pourLadles 50 (ladF v m) w2).bind fun z19 => j5_joyBySeed_52 k 32 (lotF v (m + 1)) (nI m) z19.2) := by
        intro k
        unfold b5_joyBySeed_12
        dsimp only
        rw [if_neg (show ¬ (8 : Int32) ≤ nI m from nI_ge (b := 8) hm (by omega)), ck_pos i1.1.t, i1.1.1.1.2.2.2.2.1, ck_pos i1.2.1.tgA]
        rfl
      by_cases hl : ladF v m ≤ 0
      · obtain ⟨w4, c1, c2, c3⟩ := e52 i1 i2
        refine ⟨_, w4, ⟨rfl, ?_, c2⟩, fun k => ?_⟩
        · show TC S (minC S.2.1 (pouC (pwC S.2.1 (ladF v) S.1 m) (ladF v m))) w4
          unfold pouC
          rw [if_pos hl]
          exact c1
        · rw [body, if_pos hl, c3]
      · obtain ⟨z, w3, b1, b2, b3⟩ := i1.pour hl
        obtain ⟨w4, c1, c2, c3⟩ := e52 b2 (i2.tr b3)
        refine ⟨_, w4, ⟨rfl, c1, c2⟩, fun k => ?_⟩
        rw [body, if_neg hl, b1, Option.bind_some, c3]
    · intro x w2 hI k
      obtain ⟨rfl, i1, i2⟩ := hI
      refine ⟨w2, ?_, i1, i2⟩
      unfold b5_joyBySeed_12
      dsimp only
      have hj : f1_joyOfAll 50 w2 = some (joyM (drC S v), w2) := joy_cls i1.2.1
      rw [if_pos (show (8 : Int32) ≤ nI 8 by decide), ck_pos i1.1.t, i1.1.1.1.2.2.2.2.1, ck_pos i1.2.1.tgA, hj, Option.bind_some]
  obtain ⟨w', k1, k2, k3⟩ := key
  refine ⟨w', ?_, k2, a3.tr k3⟩
  unfold f5_joyBySeed
  rw [ck_pos h.t, a1, Option.bind_some]
  dsimp only
  rw [(seed_1 hv).1]
  exact k1
theorem RM.fld {S : SS} {w : Wd} {k : Nat} {v : Int32} (h : RM S w) (hk : 12 ≤ k) : RM S (sI w 75 k v) ∧ OffC w (sI w 75 k v) := by
  obtain ⟨a1, a2, a3, a4, a5, a6, a7, a8, a9⟩ := h.1
  refine ⟨h.upd (c' := S.1) ⟨a1, ?_, a3, fun k' hk' => ?_, fun b hb => ?_, ?_, ?_, a8, a9⟩ (fun q h1 h2 k => wi_sI_ne (by omega) k) (fun k' hk' => by rw [wi_sI, if_neg (fun z => by omega)]), (Fr.sI (P := (· = 75)) rfl).offC fun q z => by subst z; decide⟩
  · rw [wi_sI, if_neg (fun z => by omega)]; exact a2
  · rw [wi_sI_ne (by decide)]; exact a4 k' hk'
  · simp only [wi_sI_ne (show (76 : Nat) ≠ 75 by decide), wi_sI_ne (show (77 : Nat) ≠ 75 by decide), wi_sI_ne (show (78 : Nat) ≠ 75 by decide)]
    exact a5 b hb
  · rw [wi_sI, if_neg (fun z => by omega)]; exact a6
  · unfold ProgM at a7 ⊢
    simp only [wi_sI_ne (show (81 : Nat) ≠ 75 by decide), wi_sI_ne (show (82 : Nat) ≠ 75 by decide)]
    exact a7
theorem seed_r {S : SS} {w : Wd} {v : Nat} (h : RM S w) (hr : Rg S.1.2.1 S.1.1) (hv : v < 2 ^ 30) : ∃ w', f6_pouring 75 (nI v) w = some ((), w') ∧ RM S w' ∧ OffC w w' ∧ wi w' 75 30 = joyM (drC S v) ∧ wi w' 75 31 = bitM (drC S v) := by
  obtain ⟨w1, a1, a2, a3, a4⟩ := h.keeps
  have l3 : ∀ i, ¬ ladF v i ≤ 0 → rng (ladF v i) 1 3 := fun i => lad4_3 _
  have key : ∃ w', loopF b6_pouring_12 FU (75, nL (v + 1), (0 : Int32)) w1 = some ((), w') ∧ RM S w' ∧ OffC w w' ∧ wi w' 75 30 = joyM (drC S v) ∧ wi w' 75 31 = bitM (drC S v) := by
    refine loopE (R := fun o => ∃ w', o = some ((), w') ∧ RM S w' ∧ OffC w w' ∧ wi w' 75 30 = joyM (drC S v) ∧ wi w' 75 31 = bitM (drC S v)) (I := fun m x w2 => x = (75, lotF v m, nI m) ∧ RM (pwC S.2.1 (ladF v) S.1 m, S.2) w2 ∧ Fr TP w1 w2) 8 ?_ ?_ FU _ w1 (by decide) ⟨rfl, a2, Fr.rf⟩
    · intro m x w2 hm hI
      obtain ⟨rfl, i1, i2⟩ := hI
      have hr2 := pwC_rg (T := S.2.1) l3 hr m
      have e49 : ∀ {c : CO} {w3}, RM (c, S.2) w3 → Rg c.2.1 c.1 → Fr TP w1 w3 → ∃ w4, RM (minC S.2.1 c, S.2) w4 ∧ Fr TP w1 w4 ∧ ∀ k l, j6_pouring_49 k 75 l (nI m) w3 = k (75, l, nI (m + 1)) w4 := by
        intro c w3 h3 hr3 hF
        obtain ⟨w4, b1, b2, b3⟩ := RM.min (S := S) h3 hr3
        refine ⟨w4, b2, hF.tr b3, fun k l => ?_⟩
        unfold j6_pouring_49
        rw [ck_pos h3.1.1.t, b1, Option.bind_some, i3_1]
      have body : ∀ k, b6_pouring_12 k (75, lotF v m, nI m) w2 = if ladF v m ≤ 0 then j6_pouring_49 k 75 (lotF v (m + 1)) (nI m) w2 else ((f6_pours 75 (ladF v m) w2).bind fun z => j6_pouring_49 k 75 (lotF v (m + 1)) (nI m) z.2) := by
        intro k
        unfold b6_pouring_12
        dsimp only
        rw [if_neg (show ¬ (8 : Int32) ≤ nI m from nI_ge (b := 8) hm (by omega)), ck_pos i1.1.1.t]
        rfl
      by_cases hl : ladF v m ≤ 0
      · obtain ⟨w4, c1, c2, c3⟩ := e49 i1 hr2 i2
        refine ⟨_, w4, ⟨rfl, ?_, c2⟩, fun k => ?_⟩
        · show RM (minC S.2.1 (pouC (pwC S.2.1 (ladF v) S.1 m) (ladF v m)), S.2) w4
          unfold pouC
          rw [if_pos hl]
          exact c1
        · rw [body, if_pos hl, c3]
      · obtain ⟨z, w3, b1, b2, b3⟩ := RM.pours (S := S) i1 hr2 hl (l3 m hl)
        obtain ⟨w4, c1, c2, c3⟩ := e49 b2 (pouC_rg (l3 m) hr2) (i2.tr b3)
        refine ⟨_, w4, ⟨rfl, c1, c2⟩, fun k => ?_⟩
        rw [body, if_neg hl, b1, Option.bind_some, c3]
    · intro x w2 hI k
      obtain ⟨rfl, i1, i2⟩ := hI
      have hr2 := pwC_rg (T := S.2.1) l3 hr 8
      obtain ⟨f1, o1⟩ := i1.fld (k := 30) (v := joyM (drC S v)) (by decide)
      obtain ⟨f2, o2⟩ := f1.fld (k := 31) (v := bitM (drC S v)) (by decide)
      have K2 : KM (sI (sI w2 75 30 (joyM (drC S v))) 75 31 (bitM (drC S v))) S.1.2.1 S.1.1 := (a3.tp i2).fr (P := (· = 75)) (frE.tr frE) (by decide)
      obtain ⟨w', c1, c2, c3⟩ := f2.laysPw K2
      have hj : f6_joyAll 75 w2 = some (joyM (drC S v), w2) := joy_ref i1.1
      have hb : f6_inSet 75 (sI w2 75 30 (joyM (drC S v))) = some (bitM (drC S v), sI w2 75 30 (joyM (drC S v))) := bits_ref f1.1 hr2
      have n75 : ¬ KP 75 := by unfold KP TP; decide
      refine ⟨w', ?_, c2, (kpC (a4.tr (i2.mono fun _ => Or.inl))).tr ((o1.tr o2).tr (kpC c3)), ?_, ?_⟩
      · unfold b6_pouring_12 lw
        dsimp only
        rw [if_pos (show (8 : Int32) ≤ nI 8 by decide), ck_pos i1.1.1.t, hj, Option.bind_some]
        dsimp only
        rw [hb, Option.bind_some]
        dsimp only
        rw [c1]
        rfl
      · rw [(c3.2.2 75 n75).1, wi_sI, if_neg (fun z => absurd z.2 (by decide)), wi_at]
      · rw [(c3.2.2 75 n75).1, wi_at]
  obtain ⟨w', k1, k2⟩ := key
  refine ⟨w', ?_, k2⟩
  unfold f6_pouring
  rw [ck_pos h.1.1.t, a1, Option.bind_some]
  dsimp only
  rw [(seed_1 hv).2]
  exact k1
theorem seed_k (x : Int32) (h : 0 ≤ x ∧ x ≤ 99999) : ∃ k, k < 100000 ∧ x = nI k := by
  refine inum h.1 ?_ (by decide)
  have := h.2
  rw [ile, show (99999 : Int32).toInt = 99999 from rfl] at this
  rw [ilt, show (nI 100000).toInt = 100000 from rfl]
  omega
theorem drawn_pair (x y : Int32) : Pair (f5_drawn 32 x y) (f6_drawn 75 x y) := pair_of fun S hS => by
  rcases within2 x 0 99999 with ⟨hx, ex⟩ | ⟨hx, ex⟩
  · obtain ⟨v, hv, rfl⟩ := seed_k x hx
    rcases within2 y 0 1 with ⟨hy, ey⟩ | ⟨hy, ey⟩
    · obtain ⟨A, hA⟩ : ∃ A, A = joyM (drC S v) := ⟨_, rfl⟩
      obtain ⟨B, hB⟩ : ∃ B, B = bitM (drC S v) := ⟨_, rfl⟩
      refine ⟨(if y = 0 then A else B, S), fun w h => ?_, fun w h => ?_, hS⟩
      · obtain ⟨w1, a1, a2, a3⟩ := seed_c h (v := v) (by omega)
        have hb : f1_bitsIn 50 w1 = some (bitM (drC S v), w1) := bits_cls a2.2.1
        rw [← hA] at a1
        rw [← hB] at hb
        refine ⟨w1, ?_, a2.1, jcM a3⟩
        unfold f5_drawn
        rw [(ex w).2, Option.bind_some, if_neg (show ¬ (1 : Int32) = 0 by decide)]
        dsimp only
        rw [(ey w).2, Option.bind_some, if_neg (show ¬ (1 : Int32) = 0 by decide)]
        dsimp only
        rw [ck_pos h.t, a1, Option.bind_some]
        dsimp only
        rw [a2.1.1.1.2.2.2.2.1, ck_pos a2.2.1.tgA, hb, Option.bind_some]
        split <;> rfl
      · obtain ⟨w1, a1, a2, a3, a4, a5⟩ := seed_r h hS.rg (v := v) (by omega)
        rw [← hA] at a4
        rw [← hB] at a5
        refine ⟨w1, ?_, a2, a3⟩
        unfold f6_drawn
        rw [(ex w).1, Option.bind_some, if_neg (show ¬ (1 : Int32) = 0 by decide)]
        dsimp only
        rw [(ey w).1, Option.bind_some, if_neg (show ¬ (1 : Int32) = 0 by decide)]
        dsimp only
        rw [ck_pos h.1.1.t, a1, Option.bind_some]
        dsimp only
        rw [a4, a5]
        split <;> rfl
    · refine ⟨(-2, S), fun w h => ⟨w, ?_, h, OffM.rf⟩, fun w h => ⟨w, ?_, h, OffC.rf⟩, hS⟩
      · unfold f5_drawn
        rw [(ex w).2, Option.bind_some, if_neg (show ¬ (1 : Int32) = 0 by decide)]
        dsimp only
        rw [(ey w).2, Option.bind_some, if_pos rfl]
      · unfold f6_drawn
        rw [(ex w).1, Option.bind_some, if_neg (show ¬ (1 : Int32) = 0 by decide)]
        dsimp only
        rw [(ey w).1, Option.bind_some, if_pos rfl]
  · refine ⟨(-2, S), fun w h => ⟨w, ?_, h, OffM.rf⟩, fun w h => ⟨w, ?_, h, OffC.rf⟩, hS⟩
    · unfold f5_drawn
      rw [(ex w).2, Option.bind_some, if_pos rfl]
    · unfold f6_drawn
      rw [(ex w).1, Option.bind_some, if_pos rfl]
/-! odds -/
def oddN (J : Nat → Int32) (least : Int32) : Nat → Nat
  | 0 => 0
  | k + 1 => if J k < least then oddN J least k else oddN J least k + 1
theorem oddN_le (J : Nat → Int32) (least : Int32) : ∀ k, oddN J least k ≤ k
  | 0 => Nat.le_refl _
  | k + 1 => by
    have := oddN_le J least k
    unfold oddN
    split <;> omega
theorem nL_1 (n : Nat) : nL n + 1 = nL (n + 1) := (Int64.ofNat_add n 1).symm
theorem odds_pair (x n le p : Int32) : Pair (f5_odds 32 x n le p) (f6_odds 75 x n le p) := pair_of fun S hS => by
  have no : (¬ (0 ≤ x ∧ x ≤ 99999) ∨ ¬ (1 ≤ n ∧ n ≤ 40) ∨ ¬ (0 ≤ le ∧ le ≤ 9999) ∨ ¬ (0 ≤ p ∧ p ≤ 1)) → (∀ w, f5_odds 32 x n le p w = some (-4611686018427387904, w)) ∧ ∀ w, f6_odds 75 x n le p w = some (-4611686018427387904, w) := by
    intro hn
    unfold f5_odds f6_odds
    rcases within2 x 0 99999 with ⟨hx, ex⟩ | ⟨hx, ex⟩
    · rcases within2 n 1 40 with ⟨hy, ey⟩ | ⟨hy, ey⟩
      · rcases within2 le 0 9999 with ⟨hz, ez⟩ | ⟨hz, ez⟩
        · rcases within2 p 0 1 with ⟨hq, eq⟩ | ⟨hq, eq⟩
          · exact absurd hn (fun z => z.elim (fun z => z hx) fun z => z.elim (fun z => z hy) fun z => z.elim (fun z => z hz) fun z => z hq)
          · refine ⟨fun w => ?_, fun w => ?_⟩
            · rw [(ex w).2, Option.bind_some, if_neg (show ¬ (1 : Int32) = 0 by decide)]
              dsimp only
              rw [(ey w).2, Option.bind_some, if_neg (show ¬ (1 : Int32) = 0 by decide)]
              dsimp only
              rw [(ez w).2, Option.bind_some, if_neg (show ¬ (1 : Int32) = 0 by decide)]
              dsimp only
              rw [(eq w).2, Option.bind_some, if_pos rfl]
            · rw [(ex w).1, Option.bind_some, if_neg (show ¬ (1 : Int32) = 0 by decide)]
              dsimp only
              rw [(ey w).1, Option.bind_some, if_neg (show ¬ (1 : Int32) = 0 by decide)]
              dsimp only
              rw [(ez w).1, Option.bind_some, if_neg (show ¬ (1 : Int32) = 0 by decide)]
              dsimp only
              rw [(eq w).1, Option.bind_some, if_pos rfl]
        · refine ⟨fun w => ?_, fun w => ?_⟩
          · rw [(ex w).2, Option.bind_some, if_neg (show ¬ (1 : Int32) = 0 by decide)]
            dsimp only
            rw [(ey w).2, Option.bind_some, if_neg (show ¬ (1 : Int32) = 0 by decide)]
            dsimp only
            rw [(ez w).2, Option.bind_some, if_pos rfl]
          · rw [(ex w).1, Option.bind_some, if_neg (show ¬ (1 : Int32) = 0 by decide)]
            dsimp only
            rw [(ey w).1, Option.bind_some, if_neg (show ¬ (1 : Int32) = 0 by decide)]
            dsimp only
            rw [(ez w).1, Option.bind_some, if_pos rfl]
      · refine ⟨fun w => ?_, fun w => ?_⟩
        · rw [(ex w).2, Option.bind_some, if_neg (show ¬ (1 : Int32) = 0 by decide)]
          dsimp only
          rw [(ey w).2, Option.bind_some, if_pos rfl]
        · rw [(ex w).1, Option.bind_some, if_neg (show ¬ (1 : Int32) = 0 by decide)]
          dsimp only
          rw [(ey w).1, Option.bind_some, if_pos rfl]
    · refine ⟨fun w => ?_, fun w => ?_⟩
      · rw [(ex w).2, Option.bind_some, if_pos rfl]
      · rw [(ex w).1, Option.bind_some, if_pos rfl]
  by_cases hn : ¬ (0 ≤ x ∧ x ≤ 99999) ∨ ¬ (1 ≤ n ∧ n ≤ 40) ∨ ¬ (0 ≤ le ∧ le ≤ 9999) ∨ ¬ (0 ≤ p ∧ p ≤ 1)
  · exact ⟨(-4611686018427387904, S), fun w h => ⟨w, (no hn).1 w, h, OffM.rf⟩, fun w h => ⟨w, (no hn).2 w, h, OffC.rf⟩, hS⟩
  · have hx : 0 ≤ x ∧ x ≤ 99999 := Classical.not_not.mp fun z => hn (Or.inl z)
    have hy : 1 ≤ n ∧ n ≤ 40 := Classical.not_not.mp fun z => hn (Or.inr (Or.inl z))
    have hz : 0 ≤ le ∧ le ≤ 9999 := Classical.not_not.mp fun z => hn (Or.inr (Or.inr (Or.inl z)))
    have hq : 0 ≤ p ∧ p ≤ 1 := Classical.not_not.mp fun z => hn (Or.inr (Or.inr (Or.inr z)))
    have ex := (within2 x 0 99999).resolve_right fun z => z.1 hx
    have ey := (within2 n 1 40).resolve_right fun z => z.1 hy
    have ez := (within2 le 0 9999).resolve_right fun z => z.1 hz
    have eq := (within2 p 0 1).resolve_right fun z => z.1 hq
    obtain ⟨v, hv, rfl⟩ := seed_k x hx
    obtain ⟨N, hN, rfl⟩ := upto n (m := 40) rfl (by decide) (pos_le hy)
    obtain ⟨pt, hpt, rfl⟩ := two_k p hq
    have hN0 : 0 < N := by
      have := hy.1
      rw [ile, nI_int (by omega), show (1 : Int32).toInt = 1 from rfl] at this
      omega
    obtain ⟨J, hJ⟩ : ∃ J : Nat → Int32, ∀ i, J i = joyM (drC S (v + i)) := ⟨fun i => joyM (drC S (v + i)), fun _ => rfl⟩
    have hon := oddN_le J le N
    refine ⟨(lowA (oddN J le N) N pt, S), fun w h => ?_, fun w h => ?_, hS⟩
    · unfold f5_odds
      rw [(ex.2 w).2, Option.bind_some, if_neg (show ¬ (1 : Int32) = 0 by decide)]
      dsimp only
      rw [(ey.2 w).2, Option.bind_some, if_neg (show ¬ (1 : Int32) = 0 by decide)]
      dsimp only
      rw [(ez.2 w).2, Option.bind_some, if_neg (show ¬ (1 : Int32) = 0 by decide)]
      dsimp only
      rw [(eq.2 w).2, Option.bind_some, if_neg (show ¬ (1 : Int32) = 0 by decide)]
      refine loopE (R := fun o => ∃ w', o = some (lowA (oddN J le N) N pt, w') ∧ RC S w' ∧ OffM w w') (I := fun i u w2 => u = (32, nI v, nI N, le, nI pt, nI (oddN J le i), nI i) ∧ RC S w2 ∧ OffM w w2) N ?_ ?_ FU _ w (by show N < 1000; omega) ⟨rfl, h, OffM.rf⟩
      · intro i u w2 hi hI
        obtain ⟨rfl, i1, i2⟩ := hI
        obtain ⟨w3, a1, a2, a3⟩ := seed_c i1 (v := v + i) (by omega)
        rw [← hJ] at a1
        refine ⟨(32, nI v, nI N, le, nI pt, nI (oddN J le (i + 1)), nI (i + 1)), w3, ⟨rfl, a2.1, i2.tr (jcM a3)⟩, fun k => ?_⟩
        unfold b5_odds_51
        dsimp only
        rw [if_neg (nI_ge hi (by omega)), ck_pos i1.t, nI_add, a1, Option.bind_some]
        dsimp only
        unfold j5_odds_72
        rw [i3_1, i3_1, oddN]
        split <;> rfl
      · intro u w2 hI k
        obtain ⟨rfl, i1, i2⟩ := hI
        refine ⟨w2, ?_, i1, i2⟩
        unfold b5_odds_51
        dsimp only
        rw [if_pos (Int32.le_refl _), low_c (by omega) (by omega) hN0 hpt]
        rfl
    · unfold f6_odds
      rw [(ex.2 w).1, Option.bind_some, if_neg (show ¬ (1 : Int32) = 0 by decide)]
      dsimp only
      rw [(ey.2 w).1, Option.bind_some, if_neg (show ¬ (1 : Int32) = 0 by decide)]
      dsimp only
      rw [(ez.2 w).1, Option.bind_some, if_neg (show ¬ (1 : Int32) = 0 by decide)]
      dsimp only
      rw [(eq.2 w).1, Option.bind_some, if_neg (show ¬ (1 : Int32) = 0 by decide)]
      refine loopE (R := fun o => ∃ w', o = some (lowA (oddN J le N) N pt, w') ∧ RM S w' ∧ OffC w w') (I := fun i u w2 => u = (75, nI v, nI N, le, nI pt, nL (oddN J le i), nI i) ∧ RM S w2 ∧ OffC w w2) N ?_ ?_ FU _ w (by show N < 1000; omega) ⟨rfl, h, OffC.rf⟩
      · intro i u w2 hi hI
        obtain ⟨rfl, i1, i2⟩ := hI
        obtain ⟨w3, a1, a2, a3, a4, a5⟩ := seed_r i1 hS.rg (v := v + i) (by omega)
        rw [← hJ] at a4
        refine ⟨(75, nI v, nI N, le, nI pt, nL (oddN J le (i + 1)), nI (i + 1)), w3, ⟨rfl, a2, i2.tr a3⟩, fun k => ?_⟩
        unfold b6_odds_51
        dsimp only
        rw [if_neg (nI_ge hi (by omega)), ck_pos i1.1.1.t, nI_add, a1, Option.bind_some]
        dsimp only
        unfold j6_odds_80
        rw [i3_1, nL_1, Int64.add_zero, a4, oddN]
        split <;> rfl
      · intro u w2 hI k
        obtain ⟨rfl, i1, i2⟩ := hI
        refine ⟨w2, ?_, i1, i2⟩
        unfold b6_odds_51
        dsimp only
        rw [if_pos (Int32.le_refl _), nI_long (by omega), low_m (by omega) (by omega) hN0 hpt]
        rfl
