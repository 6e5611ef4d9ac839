/-! steams, states, kinds, laws -/
def cnX (X : Nat → Int32) : Nat → Int32
  | 0 => 0
  | v + 1 => if X v = -1 then cnX X v + 1 else cnX X v
def lsX (X : Nat → Int32) : Nat → Int32
  | 0 => -1
  | v + 1 => if X v = -1 then (if lsX X v = -1 then nI v else lsX X v) else lsX X v
def stmC (c : CO) (v : Int32) : CO := ((setr c.1.1 2 v, c.1.2), c.2)
theorem TC.stm {S : SS} {c : CO} {w : Wd} {v : Int32} (h : TC S c w) : TC S (stmC c v) (sI w 50 2 v) ∧ Fr JC w (sI w 50 2 v) := by
  have hF : Fr JC w (sI w 50 2 v) := Fr.sI (Or.inl ⟨by decide, by decide⟩)
  exact ⟨h.upd hF ⟨h.2.1.setH (by decide), h.2.2⟩, hF⟩
def stmX (S : SS) (s b v : Nat) : Int32 := othG S.2.1 b (stmC S.1 (nI v)) 0 (rowL S s)
theorem stm_rg {c : CO} {v : Int32} (h : Rg c.2.1 c.1) (hv : rng v 0 99) : Rg (stmC c v).2.1 (stmC c v).1 := ⟨h.1, hv, h.2.2⟩
theorem SI.stm {S : SS} {v : Int32} (h : SI S) (hv : rng v 0 99) : Rg (stmC S.1 v).2.1 (stmC S.1 v).1 := stm_rg h.rg hv
theorem steams_pair (x b y : Int32) : Pair (f5_steams 32 x b y) (f6_steams 75 x b y) := pair_of fun S hS => by
  rcases told_ref hS x b with ⟨s, k, hs, rfl, hl, hk, rfl, hc, hr⟩ | ⟨z, hz, hc, hr⟩
  · rcases within2 y 0 1 with ⟨hy, ey⟩ | ⟨hy, ey⟩
    · refine ⟨(if y = 0 then cnX (stmX S s k) 100 else lsX (stmX S s k) 100, S), fun w h => ?_, fun w h => ?_, hS⟩
      · unfold f5_steams
        rw [ck_pos h.t, hc w h, Option.bind_some, if_pos rfl]
        dsimp only
        rw [(ey w).2, Option.bind_some, if_neg (show ¬ (1 : Int32) = 0 by decide)]
        refine loopE (R := fun o => ∃ w', o = some (if y = 0 then cnX (stmX S s k) 100 else lsX (stmX S s k) 100, w') ∧ RC S w' ∧ OffM w w') (I := fun i v w2 => v = (32, nI s, nI k, y, cnX (stmX S s k) i, lsX (stmX S s k) i, nI i) ∧ RC S w2 ∧ OffM w w2) 100 ?_ ?_ FU _ w (by decide) ⟨rfl, h, OffM.rf⟩
        · intro i v w2 hi hI
          obtain ⟨rfl, i1, i2⟩ := hI
          obtain ⟨w3, a1, a2, a3⟩ := i1.think
          obtain ⟨t1, t2⟩ := a2.stm (v := nI i)
          obtain ⟨w4, b1, b2, b3⟩ := other_c t1 hS hs (b := k) hk
          refine ⟨(32, nI s, nI k, y, cnX (stmX S s k) (i + 1), lsX (stmX S s k) (i + 1), nI (i + 1)), w4, ⟨rfl, b2, i2.tr (jcM ((a3.tr t2).tr b3))⟩, fun kk => ?_⟩
          unfold b5_steams_37 lw
          dsimp only
          rw [if_neg (show ¬ (99 : Int32) < nI i by rw [ilt, nI_int (by omega), show (99 : Int32).toInt = 99 from rfl]; omega), ck_pos i1.t, a1, Option.bind_some]
          dsimp only
          rw [a2.1.1.1.2.2.2.2.1, ck_pos a2.2.1.tgA, b1, Option.bind_some]
          dsimp only
          unfold j5_steams_83 j5_steams_85
          rw [i3_1, cnX, lsX]
          show (if stmX S s k i = -1 then _ else _) = _
          split
          · split <;> rfl
          · rfl
        · intro v w2 hI kk
          obtain ⟨rfl, i1, i2⟩ := hI
          refine ⟨w2, ?_, i1, i2⟩
          unfold b5_steams_37
          dsimp only
          rw [if_pos (show (99 : Int32) < nI 100 by decide)]
          split <;> rfl
      · have a := h.1.1
        unfold f6_steams
        rw [ck_pos a.t, hr w h, Option.bind_some, if_pos rfl]
        dsimp only
        rw [(ey w).1, Option.bind_some, if_neg (show ¬ (1 : Int32) = 0 by decide)]
        dsimp only
        rw [a.r4, a.l4, ck_pos (And.intro a.t4 v2_4), cl2, h.1.2.2.2.1 2 (by decide)]
        refine loopE (R := fun o => ∃ w', o = some (if y = 0 then cnX (stmX S s k) 100 else lsX (stmX S s k) 100, w') ∧ RM S w' ∧ OffC w w') (I := fun i v w2 => v = (75, nI s, nI k, y, S.1.1.1 2, cnX (stmX S s k) i, lsX (stmX S s k) i, nI i) ∧ (∃ z, RM (stmC S.1 z, S.2) w2) ∧ OffC w w2) 100 ?_ ?_ FU _ w (by decide) ⟨rfl, ⟨S.1.1.1 2, by unfold stmC; rw [setr_same rfl]; exact h⟩, OffC.rf⟩
        · intro i v w2 hi hI
          obtain ⟨rfl, ⟨z, i1⟩, i2⟩ := hI
          have a := i1.1.1
          have i1' : RM (stmC S.1 (nI i), S.2) (sI w2 79 2 (nI i)) := by
            have := RM.setH (k := 2) (v := nI i) i1 (by decide)
            unfold setHS stmC at this
            dsimp only at this
            rw [setr_setr] at this
            exact this
          obtain ⟨w4, b1, b2, b3⟩ := other_r i1' (hS.stm (by unfold rng; rw [nI_int (by omega)]; omega)) (show (rowL S s).length ≤ 40 from rowL_40 hS hs) hs (b := k) hk
          refine ⟨(75, nI s, nI k, y, S.1.1.1 2, cnX (stmX S s k) (i + 1), lsX (stmX S s k) (i + 1), nI (i + 1)), w4, ⟨rfl, ⟨_, b2⟩, i2.tr ((off78 (Or.inr (Or.inl rfl))).tr (kpC b3))⟩, fun kk => ?_⟩
          unfold b6_steams_45 lw
          dsimp only
          rw [if_neg (show ¬ (99 : Int32) < nI i by rw [ilt, nI_int (by omega), show (99 : Int32).toInt = 99 from rfl]; omega), ck_pos a.t, a.r4, a.l4, ck_pos (And.intro a.t4 v2_4), cl2, b1, Option.bind_some]
          dsimp only
          unfold j6_steams_75 j6_steams_89 j6_steams_108 j6_steams_110
          rw [i3_1, cnX, lsX, if_pos rfl, if_neg (show ¬ (1 : Int32) = 0 by decide), if_neg (show ¬ (1 : Int32) = 0 by decide), if_pos rfl, Int32.add_zero]
          show (if stmX S s k i = -1 then _ else _) = _
          split
          · split <;> rfl
          · rfl
        · intro v w2 hI kk
          obtain ⟨rfl, ⟨z, i1⟩, i2⟩ := hI
          have a := i1.1.1
          have i1' : RM S (sI w2 79 2 (S.1.1.1 2)) := by
            have := RM.setH (k := 2) (v := S.1.1.1 2) i1 (by decide)
            unfold setHS stmC at this
            dsimp only at this
            rw [setr_setr, setr_same rfl] at this
            exact this
          refine ⟨_, ?_, i1', i2.tr (off78 (Or.inr (Or.inl rfl)))⟩
          unfold b6_steams_45 lw
          dsimp only
          rw [if_pos (show (99 : Int32) < nI 100 by decide), ck_pos a.t, a.r4, a.l4, ck_pos (And.intro a.t4 v2_4), cl2]
          split <;> rfl
    · refine ⟨(-7, S), fun w h => ⟨w, ?_, h, OffM.rf⟩, fun w h => ⟨w, ?_, h, OffC.rf⟩, hS⟩
      · unfold f5_steams
        rw [ck_pos h.t, hc w h, Option.bind_some, if_pos rfl]
        dsimp only
        rw [(ey w).2, Option.bind_some, if_pos rfl]
      · unfold f6_steams
        rw [ck_pos h.1.1.t, hr w h, Option.bind_some, if_pos rfl]
        dsimp only
        rw [(ey w).1, Option.bind_some, if_pos rfl]
  · refine ⟨(z, S), fun w h => ⟨w, ?_, h, OffM.rf⟩, fun w h => ⟨w, ?_, h, OffC.rf⟩, hS⟩
    · unfold f5_steams
      rw [ck_pos h.t, hc w h, Option.bind_some, if_neg hz]
    · unfold f6_steams
      rw [ck_pos h.1.1.t, hr w h, Option.bind_some, if_neg hz]
/-! states -/
def sitX (S : SS) (s b j v : Nat) : Int32 := othG S.2.1 b (sitC S.1 b j (nI v)) 0 (rowL S s)
def bbX (X : Nat → Int32) : Nat → Int32
  | 0 => 0
  | v + 1 => if X v = -1 then (if (3 : Int32) < nI v then bbX X v ||| 0 else bbX X v ||| bitI v) else bbX X v
theorem bbX_4 (X : Nat → Int32) : ∀ n, n ≤ 4 → bbX X n = fbX X n
  | 0, _ => rfl
  | n + 1, h => by
    unfold bbX fbX
    rw [bbX_4 X n (by omega), if_neg (show ¬ (3 : Int32) < nI n by rw [ilt, nI_int (by omega), show (3 : Int32).toInt = 3 from rfl]; omega)]
def statesA (S : SS) (s k : Nat) (y : Int32) : Int32 := if y = 0 then fbX (sitX S s k 2) 4 else if y = 1 then cnX (sitX S s k 3) 300 else lsX (sitX S s k 3) 300
theorem sit_rgj {c : CO} {b j : Nat} {v : Int32} (h : Rg c.2.1 c.1) (hv : (j = 0 ∧ rng v 0 5) ∨ (j = 1 ∧ rng v 0 9) ∨ (j = 2 ∧ rng v 0 3) ∨ (j = 3 ∧ rng v 0 999)) : Rg (sitC c b j v).2.1 (sitC c b j v).1 := by
  refine ⟨h.1, h.2.1, fun x hx => ?_⟩
  obtain ⟨r0, r1, r2, r3, r4⟩ := h.2.2 x hx
  have e : ∀ i, (sitC c b j v).1.2 x i = if x = b ∧ i = j then v else c.1.2 x i := fun i => upR_b _ _ _ _ _ _
  unfold RowR
  rw [e, e, e, e, e]
  rcases hv with ⟨rfl, z⟩ | ⟨rfl, z⟩ | ⟨rfl, z⟩ | ⟨rfl, z⟩ <;> (refine ⟨?_, ?_, ?_, ?_, ?_⟩ <;> (split <;> first | assumption | (rename_i q; exact absurd q.2 (by decide))))
theorem states_c {S : SS} {w : Wd} {s k j N : Nat} {y : Int32} (hS : SI S) (h : RC S w) (hs : s < 4) (hk : k < S.1.2.1) (hN : N ≤ 300) (hj : (y = 0 ∧ j = 2) ∨ (¬ y = 0 ∧ j = 3)) : ∃ w', loopF b5_states_64 FU (32, nI s, nI k, y, 50 + 2 + k, (0 : Int32), (0 : Int32), (-1 : Int32), nI N, (0 : Int32)) w = some (if y = 0 then bbX (sitX S s k j) N else if y = 1 then cnX (sitX S s k j) N else lsX (sitX S s k j) N, w') ∧ RC S w' ∧ OffM w w' := by
  refine loopE (R := fun o => ∃ w', o = some (if y = 0 then bbX (sitX S s k j) N else if y = 1 then cnX (sitX S s k j) N else lsX (sitX S s k j) N, w') ∧ RC S w' ∧ OffM w w') (I := fun i v w2 => v = (32, nI s, nI k, y, 50 + 2 + k, bbX (sitX S s k j) i, cnX (sitX S s k j) i, lsX (sitX S s k j) i, nI N, nI i) ∧ RC S w2 ∧ OffM w w2) N ?_ ?_ FU _ w (by show N < 1000; omega) ⟨rfl, h, OffM.rf⟩
  · intro i v w2 hi hI
    obtain ⟨rfl, i1, i2⟩ := hI
    obtain ⟨w3, a1, a2, a3⟩ := i1.think
    obtain ⟨t1, t2⟩ := a2.sit (j := j) (v := nI i) hk
    obtain ⟨w4, b1, b2, b3⟩ := other_c t1 hS hs (b := k) hk
    refine ⟨(32, nI s, nI k, y, 50 + 2 + k, bbX (sitX S s k j) (i + 1), cnX (sitX S s k j) (i + 1), lsX (sitX S s k j) (i + 1), nI N, nI (i + 1)), w4, ⟨rfl, b2, i2.tr (jcM ((a3.tr t2).tr b3))⟩, fun kk => ?_⟩
    have b1' : f5_firstOtherwise 32 (nI s) (nI k) (sI w3 (50 + 2 + k) j (nI i)) = some (sitX S s k j i, w4) := b1
    have e96 : j5_states_96 kk 32 (nI s) (nI k) y (50 + 2 + k) (bbX (sitX S s k j) i) (cnX (sitX S s k j) i) (lsX (sitX S s k j) i) (nI N) (nI i) (sI w3 (50 + 2 + k) j (nI i)) = kk (32, nI s, nI k, y, 50 + 2 + k, bbX (sitX S s k j) (i + 1), cnX (sitX S s k j) (i + 1), lsX (sitX S s k j) (i + 1), nI N, nI (i + 1)) w4 := by
      unfold j5_states_96
      rw [ck_pos t1.1.t, b1', Option.bind_some]
      dsimp only
      unfold j5_states_122 j5_states_141 j5_states_143
      rw [i3_1, bbX, cnX, lsX]
      by_cases hx : sitX S s k j i = -1
      · rw [if_pos hx, if_pos hx, if_pos hx, if_pos hx]
        by_cases h3 : (3 : Int32) < nI i
        · rw [if_pos h3, if_pos h3]
          split <;> rfl
        · rw [if_neg h3, if_neg h3]
          split <;> rfl
      · rw [if_neg hx, if_neg hx, if_neg hx, if_neg hx]
    unfold b5_states_64 lw
    dsimp only
    rw [if_neg (nI_ge hi (by omega)), ck_pos i1.t, a1, Option.bind_some]
    dsimp only
    rw [ck_pos (a2.2.1.tgB hk), ck_pos (a2.2.1.tgB hk)]
    rcases hj with ⟨hy, rfl⟩ | ⟨hy, rfl⟩
    · rw [if_pos hy, e96]
    · rw [if_neg hy, e96]
  · intro v w2 hI kk
    obtain ⟨rfl, i1, i2⟩ := hI
    refine ⟨w2, ?_, i1, i2⟩
    unfold b5_states_64
    dsimp only
    rw [if_pos (Int32.le_refl _)]
    split
    · rfl
    · split <;> rfl
theorem sitC_2 (c : CO) (b j : Nat) (x y : Int32) : sitC (sitC c b j x) b j y = sitC c b j y := by
  unfold sitC
  dsimp only
  rw [upR_at, upR_up, setr_setr]
theorem sitC_back (c : CO) (b j : Nat) : sitC c b j (c.1.2 b j) = c := by
  unfold sitC
  rw [setr_same rfl, upR_self]
theorem RM.sitJ {S : SS} {c : CO} {w : Wd} {b j : Nat} {v : Int32} (h : RM (c, S.2) w) (hb : b < c.2.1) (hj : j < 3) : RM (sitC c b (j + 2) v, S.2) (sI w 78 (3 * b + j) v) := RM.setB (S := (c, S.2)) h hb hj
theorem states_pair (x b y : Int32) : Pair (f5_states 32 x b y) (f6_states 75 x b y) := pair_of fun S hS => by
  have hm6 := hS.1.1
  rcases told_ref hS x b with ⟨s, k, hs, rfl, hl, hk, rfl, hc, hr⟩ | ⟨z, hz, hc, hr⟩
  · rcases within2 y 0 2 with ⟨hy, ey⟩ | ⟨hy, ey⟩
    · refine ⟨(statesA S s k y, S), fun w h => ?_, fun w h => ?_, hS⟩
      · obtain ⟨x1, x2, x3, x4⟩ := h.h50
        have g6 : vp_in (nI k) (ln w 51) := by rw [ln_eq x3]; exact vin (by omega) (by decide)
        have gk : (nI k).toNatClampNeg = k := nI_clamp (by omega)
        unfold f5_states statesA
        rw [ck_pos h.t, hc w h, Option.bind_some, if_pos rfl]
        dsimp only
        rw [(ey w).2, Option.bind_some, if_neg (show ¬ (1 : Int32) = 0 by decide)]
        dsimp only
        rw [h.1.1.2.2.2.2.1, ck_pos (tg_eq x1), x2, ck_pos (And.intro (tg_eq x3) g6), gk, (x4 k (by omega)).1]
        unfold j5_states_59
        by_cases y0 : y = 0
        · rw [if_pos y0, if_pos y0, ← bbX_4 _ 4 (Nat.le_refl _)]
          have := states_c (N := 4) (y := y) hS h hs hk (by decide) (Or.inl ⟨y0, rfl⟩)
          rw [if_pos y0] at this
          exact this
        · rw [if_neg y0, if_neg y0]
          have := states_c (N := 300) (y := y) hS h hs hk (by decide) (Or.inr ⟨y0, rfl⟩)
          rw [if_neg y0] at this
          exact this
      · have a := h.1.1
        obtain ⟨cb, c0, c1, c2, vb, v0, v1, v2⟩ := idx6 (b := k) (by omega)
        unfold f6_states statesA
        rw [ck_pos a.t, hr w h, Option.bind_some, if_pos rfl]
        dsimp only
        rw [(ey w).1, Option.bind_some, if_neg (show ¬ (1 : Int32) = 0 by decide)]
        dsimp only
        by_cases y0 : y = 0
        · rw [if_pos y0, if_pos y0]
          have key : ∃ w', f6_benchesBy 75 (nI s) (nI k) w = some (fbX (sitX S s k 2) 4, w') ∧ RM S w' ∧ OffC w w' := by
            unfold f6_benchesBy
            rw [ck_pos a.t, a.r3, a.l3, i3, ck_pos (And.intro a.t3 v0), c0, (h.1.2.2.2.2.1 k hk).2.2.1]
            refine loopE (R := fun o => ∃ w', o = some (fbX (sitX S s k 2) 4, w') ∧ RM S w' ∧ OffC w w') (I := fun i v w2 => v = (75, nI s, nI k, S.1.1.2 k 2, fbX (sitX S s k 2) i, nI i) ∧ (∃ z, RM (sitC S.1 k 2 z, S.2) w2) ∧ OffC w w2) 4 ?_ ?_ FU _ w (by decide) ⟨rfl, ⟨S.1.1.2 k 2, by rw [sitC_back]; exact h⟩, OffC.rf⟩
            · intro i v w2 hi hI
              obtain ⟨rfl, ⟨z, i1⟩, i2⟩ := hI
              have a := i1.1.1
              have i1' := RM.sitJ (S := S) (j := 0) (v := nI i) i1 hk (by decide)
              rw [sitC_2] at i1'
              obtain ⟨w4, b1, b2, b3⟩ := other_r i1' (sit_rgj hS.rg (Or.inr (Or.inr (Or.inl ⟨rfl, by unfold rng; rw [nI_int (by omega)]; omega⟩)))) (show (rowL S s).length ≤ 40 from rowL_40 hS hs) hs (b := k) hk
              have b1' : f6_unlike 75 (nI s) (nI k) (sI w2 78 (3 * k) (nI i)) = some (sitX S s k 2 i, w4) := b1
              refine ⟨(75, nI s, nI k, S.1.1.2 k 2, fbX (sitX S s k 2) (i + 1), nI (i + 1)), w4, ⟨rfl, ⟨_, b2⟩, i2.tr ((off78 (Or.inl rfl)).tr (kpC b3))⟩, fun kk => ?_⟩
              unfold b6_benchesBy_15 lw
              dsimp only
              rw [if_neg (show ¬ (3 : Int32) < nI i by rw [ilt, nI_int (by omega), show (3 : Int32).toInt = 3 from rfl]; omega), ck_pos a.t, a.r3, a.l3, i3, ck_pos (And.intro a.t3 v0), c0, b1', Option.bind_some]
              dsimp only
              unfold j6_benchesBy_51
              rw [i3_1, fbX, Int32.or_zero]
              split <;> rfl
            · intro v w2 hI kk
              obtain ⟨rfl, ⟨z, i1⟩, i2⟩ := hI
              have a := i1.1.1
              have i1' := RM.sitJ (S := S) (j := 0) (v := S.1.1.2 k 2) i1 hk (by decide)
              rw [sitC_2, sitC_back] at i1'
              refine ⟨_, ?_, i1', i2.tr (off78 (Or.inl rfl))⟩
              unfold b6_benchesBy_15 lw
              dsimp only
              rw [if_pos (show (3 : Int32) < nI 4 by decide), ck_pos a.t, a.r3, a.l3, i3, ck_pos (And.intro a.t3 v0), c0]
              rfl
          obtain ⟨w', k1, k2, k3⟩ := key
          exact ⟨w', by rw [k1]; rfl, k2, k3⟩
        · rw [if_neg y0, if_neg y0, a.r3, a.l3, i3, i3_1, ck_pos (And.intro a.t3 v1), c1, (h.1.2.2.2.2.1 k hk).2.2.2.1]
          refine loopE (R := fun o => ∃ w', o = some (if y = 1 then cnX (sitX S s k 3) 300 else lsX (sitX S s k 3) 300, w') ∧ RM S w' ∧ OffC w w') (I := fun i v w2 => v = (75, nI s, nI k, y, S.1.1.2 k 3, cnX (sitX S s k 3) i, lsX (sitX S s k 3) i, nI i) ∧ (∃ z, RM (sitC S.1 k 3 z, S.2) w2) ∧ OffC w w2) 300 ?_ ?_ FU _ w (by decide) ⟨rfl, ⟨S.1.1.2 k 3, by rw [sitC_back]; exact h⟩, OffC.rf⟩
          · intro i v w2 hi hI
            obtain ⟨rfl, ⟨z, i1⟩, i2⟩ := hI
            have a := i1.1.1
            have i1' := RM.sitJ (S := S) (j := 1) (v := nI i) i1 hk (by decide)
            rw [sitC_2] at i1'
            obtain ⟨w4, b1, b2, b3⟩ := other_r i1' (sit_rgj hS.rg (Or.inr (Or.inr (Or.inr ⟨rfl, by unfold rng; rw [nI_int (by omega)]; omega⟩)))) (show (rowL S s).length ≤ 40 from rowL_40 hS hs) hs (b := k) hk
            have b1' : f6_unlike 75 (nI s) (nI k) (sI w2 78 (3 * k + 1) (nI i)) = some (sitX S s k 3 i, w4) := b1
            refine ⟨(75, nI s, nI k, y, S.1.1.2 k 3, cnX (sitX S s k 3) (i + 1), lsX (sitX S s k 3) (i + 1), nI (i + 1)), w4, ⟨rfl, ⟨_, b2⟩, i2.tr ((off78 (Or.inl rfl)).tr (kpC b3))⟩, fun kk => ?_⟩
            unfold b6_states_60 lw
            dsimp only
            rw [if_neg (show ¬ (299 : Int32) < nI i by rw [ilt, nI_int (by omega), show (299 : Int32).toInt = 299 from rfl]; omega), ck_pos a.t, a.r3, a.l3, i3, i3_1, ck_pos (And.intro a.t3 v1), c1, b1', Option.bind_some]
            dsimp only
            unfold j6_states_95 j6_states_109 j6_states_128 j6_states_130
            rw [i3_1, cnX, lsX, if_pos rfl, if_neg (show ¬ (1 : Int32) = 0 by decide), if_neg (show ¬ (1 : Int32) = 0 by decide), if_pos rfl, Int32.add_zero]
            split
            · split <;> rfl
            · rfl
          · intro v w2 hI kk
            obtain ⟨rfl, ⟨z, i1⟩, i2⟩ := hI
            have a := i1.1.1
            have i1' := RM.sitJ (S := S) (j := 1) (v := S.1.1.2 k 3) i1 hk (by decide)
            rw [sitC_2, sitC_back] at i1'
            refine ⟨_, ?_, i1', i2.tr (off78 (Or.inl rfl))⟩
            unfold b6_states_60 lw
            dsimp only
            rw [if_pos (show (299 : Int32) < nI 300 by decide), ck_pos a.t, a.r3, a.l3, i3, i3_1, ck_pos (And.intro a.t3 v1), c1]
            split <;> rfl
    · refine ⟨(-7, S), fun w h => ⟨w, ?_, h, OffM.rf⟩, fun w h => ⟨w, ?_, h, OffC.rf⟩, hS⟩
      · unfold f5_states
        rw [ck_pos h.t, hc w h, Option.bind_some, if_pos rfl]
        dsimp only
        rw [(ey w).2, Option.bind_some, if_pos rfl]
      · unfold f6_states
        rw [ck_pos h.1.1.t, hr w h, Option.bind_some, if_pos rfl]
        dsimp only
        rw [(ey w).1, Option.bind_some, if_pos rfl]
  · refine ⟨(z, S), fun w h => ⟨w, ?_, h, OffM.rf⟩, fun w h => ⟨w, ?_, h, OffC.rf⟩, hS⟩
    · unfold f5_states
      rw [ck_pos h.t, hc w h, Option.bind_some, if_neg hz]
    · unfold f6_states
      rw [ck_pos h.1.1.t, hr w h, Option.bind_some, if_neg hz]
