/-! logs -/
def buC (c : CO) : Nat → CO
  | 0 => c
  | k + 1 => (burnM (buC c k).1, (buC c k).2)
theorem buC_2 (c : CO) : ∀ k, (buC c k).2 = c.2
  | 0 => rfl
  | k + 1 => buC_2 c k
theorem buC_rg {c : CO} (h : Rg c.2.1 c.1) : ∀ k, Rg (buC c k).2.1 (buC c k).1
  | 0 => h
  | k + 1 => (burn_rng (buC_rg h k)).1
theorem buC_kind (c : CO) : ∀ k b, (buC c k).1.2 b = c.1.2 b
  | 0, _ => rfl
  | k + 1, b => buC_kind c k b
theorem TC.burn {S : SS} {c : CO} {w : Wd} (h : TC S c w) : ∃ w', f1_burnLog 50 w = some ((), w') ∧ TC S (burnM c.1, c.2) w' ∧ Fr JC w w' := by
  obtain ⟨h1, h2⟩ := burn_c h.2.1
  have j : JC 50 := Or.inl ⟨by decide, by decide⟩
  have hF : Fr JC w (burnW w 50 c.1) := (Fr.sI j).tr (Fr.sI j)
  exact ⟨_, h1, h.upd hF ⟨h2, h.2.2⟩, hF⟩
theorem RM.burns {S : SS} {c : CO} {w : Wd} (h : RM (c, S.2) w) (hr : Rg c.2.1 c.1) : ∃ w', f6_burns 75 w = some ((), w') ∧ RM ((burnM c.1, c.2), S.2) w' ∧ Fr TP w w' := by
  obtain ⟨h1, h2⟩ := burn_r h.1 hr
  have j : TP 79 := Or.inr (Or.inl rfl)
  have hF : Fr TP w (burnW w 79 c.1) := (Fr.sI j).tr (Fr.sI j)
  exact ⟨_, h1, RM.fr (S := (c, S.2)) (c' := (burnM c.1, c.2)) h h2 hF (fun _ => Or.inl), hF⟩
def logsJ (S : SS) (n i : Nat) : Int32 := joyM (goC S.2.1 (buC S.1 i) n)
theorem go_2 (T : List PG) (c d : CO) (h : c.2 = d.2) (n : Nat) : (goC T c n).2 = d.2 := (goC_2 T c n).trans h
theorem logs_in_c {S : SS} {w : Wd} {n i : Nat} {x most best : Int32} (h : RC S w) (hn : n ≤ 40) (hi : i ≤ 9) : ∃ w1 w', f5_think 32 w = some ((), w1) ∧ RC S w' ∧ OffM w w' ∧ ∀ k30 : K6, loopF (b5_logs_56 k30) FU (32, nI n, x, most, best, nI i, (0 : Int32)) w1 = if logsJ S n i ≤ most then k30 (32, nI n, x, most, best, nI (i + 1)) w' else k30 (32, nI n, x, logsJ S n i, nI i, nI (i + 1)) w' := by
  obtain ⟨w1, a1, a2, a3⟩ := h.think
  obtain ⟨v, w2, ⟨rfl, i1, i2⟩, hk⟩ := loopS (B := b5_logs_56) (I := fun m v w2 => v = (32, nI n, x, most, best, nI i, nI m) ∧ TC S (buC S.1 m) w2 ∧ Fr JC w1 w2) i (by
    intro m v w2 hm hI
    obtain ⟨rfl, i1, i2⟩ := hI
    obtain ⟨w3, b1, b2, b3⟩ := i1.burn
    refine ⟨(32, nI n, x, most, best, nI i, nI (m + 1)), w3, ⟨rfl, b2, i2.tr b3⟩, fun k30 k => ?_⟩
    unfold b5_logs_56
    dsimp only
    rw [if_neg (nI_ge hm (by omega)), ck_pos i1.1.t, i1.1.1.1.2.2.2.2.1, ck_pos i1.2.1.tgA, b1, Option.bind_some, i3_1]) FU 0 (32, nI n, x, most, best, nI i, (0 : Int32)) w1 (by show i < 1000 + 0; omega) (Nat.zero_le i) ⟨rfl, a2, Fr.rf⟩
  obtain ⟨w3, b1, b2, b3⟩ := i1.behind (n := n) (by omega)
  refine ⟨w1, w3, a1, b2.1, jcM ((a3.tr i2).tr b3), fun k30 => ?_⟩
  obtain ⟨k, hk'⟩ := hk k30
  rw [hk']
  unfold b5_logs_56
  dsimp only
  rw [if_pos (Int32.le_refl _), ck_pos i1.1.t, b1, Option.bind_some]
  dsimp only
  unfold j5_logs_96
  rw [i3_1]
  rfl
theorem logs_in_r {S : SS} {w : Wd} {n i : Nat} {x most best : Int32} (h : RM S w) (hr : Rg S.1.2.1 S.1.1) (hn : n ≤ 40) (hi : i ≤ 9) : ∃ w1 w', f6_keeps 75 w = some ((), w1) ∧ RM S w' ∧ OffC w w' ∧ ∀ k30 : K6, loopF (b6_logs_55 k30) FU (75, nI n, x, best, most, nI i, (0 : Int32)) w1 = if best = -1 then k30 (75, nI n, x, nI i, logsJ S n i, nI (i + 1)) w' else if logsJ S n i ≤ most then k30 (75, nI n, x, best, most, nI (i + 1)) w' else k30 (75, nI n, x, nI i, logsJ S n i, nI (i + 1)) w' := by
  obtain ⟨w1, a1, a2, a3, a4⟩ := h.keeps
  obtain ⟨v, w2, ⟨rfl, i1, i2⟩, hk⟩ := loopS (B := b6_logs_55) (I := fun m v w2 => v = (75, nI n, x, best, most, nI i, nI m) ∧ RM (buC S.1 m, S.2) w2 ∧ Fr TP w1 w2) i (by
    intro m v w2 hm hI
    obtain ⟨rfl, i1, i2⟩ := hI
    obtain ⟨w3, b1, b2, b3⟩ := RM.burns (S := S) i1 (buC_rg hr m)
    refine ⟨(75, nI n, x, best, most, nI i, nI (m + 1)), w3, ⟨rfl, b2, i2.tr b3⟩, fun k30 k => ?_⟩
    unfold b6_logs_55
    dsimp only
    rw [if_neg (nI_ge hm (by omega)), ck_pos i1.1.1.t, b1, Option.bind_some, i3_1]) FU 0 (75, nI n, x, best, most, nI i, (0 : Int32)) w1 (by show i < 1000 + 0; omega) (Nat.zero_le i) ⟨rfl, a2, Fr.rf⟩
  obtain ⟨w3, b1, b2, b3⟩ := RM.jb (S := S) i1 (buC_rg hr i) (n := n) (by omega)
  obtain ⟨w', c1, c2, c3⟩ := b2.lays (S := S) ((a3.tp i2).tp b3) (go_2 _ _ _ (buC_2 _ _) n) fun b => ⟨(goC_kind _ _ _ b).1.trans (congrFun (buC_kind _ _ b) 0), (goC_kind _ _ _ b).2.trans (congrFun (buC_kind _ _ b) 1)⟩
  refine ⟨w1, w', a1, c2, kpC ((a4.tr ((i2.tr b3).mono fun _ => Or.inl)).tr c3), fun k30 => ?_⟩
  obtain ⟨k, hk'⟩ := hk k30
  rw [hk']
  unfold b6_logs_55
  dsimp only
  rw [if_pos (Int32.le_refl _), ck_pos i1.1.1.t, b1, Option.bind_some]
  dsimp only
  rw [c1, Option.bind_some]
  dsimp only
  unfold j6_logs_95 j6_logs_100 j6_logs_113 j6_logs_126
  rw [if_neg (show ¬ (1 : Int32) = 0 by decide), if_pos (show (0 : Int32) = 0 from rfl), if_neg (show ¬ (1 : Int32) = 0 by decide), if_pos (show (0 : Int32) = 0 from rfl), i3_1]
  rfl
theorem logsJ_0 {S : SS} {n i : Nat} (hS : SI S) : ¬ logsJ S n i ≤ -1 := by
  obtain ⟨j, h1, h2⟩ := joyM_nat (c := goC S.2.1 (buC S.1 i) n) (by rw [goC_2, buC_2]; exact hS.1.1) (goC_rg (buC_rg hS.rg i) n)
  unfold logsJ
  rw [h2, ile, nI_int (by omega), show (-1 : Int32).toInt = -1 from rfl]
  omega
/-- how many ways -/
theorem logs_N {S : SS} (hS : SI S) : ∃ N, 1 ≤ N ∧ N ≤ 10 ∧ (∀ i, i < N → ¬ (9 : Int32) < nI i ∧ ¬ S.1.1.1 3 < nI i) ∧ ((9 : Int32) < nI N ∨ S.1.1.1 3 < nI N) := by
  have h := hS.hrng (k := 3) (by decide)
  have h2 : 0 ≤ (S.1.1.1 3).toInt := h.1
  by_cases h9 : (S.1.1.1 3).toInt ≤ 8
  · refine ⟨(S.1.1.1 3).toInt.toNat + 1, by omega, by omega, fun i hi => ?_, Or.inr ?_⟩
    · rw [ilt, ilt, nI_int (by omega), show (9 : Int32).toInt = 9 from rfl]; omega
    · rw [ilt, nI_int (by omega)]; omega
  · refine ⟨10, by omega, by omega, fun i hi => ?_, Or.inl (by decide)⟩
    rw [ilt, ilt, nI_int (by omega), show (9 : Int32).toInt = 9 from rfl]; omega
theorem logs_pair (n x : Int32) : Pair (f5_logs 32 n x) (f6_logs 75 n x) := pair_of fun S hS => by
  rcases within2 n 0 40 with ⟨hn, en⟩ | ⟨hn, en⟩
  · obtain ⟨m, hm, rfl⟩ := upto40 n hn
    rcases within2 x 0 1 with ⟨hx, ex⟩ | ⟨hx, ex⟩
    · obtain ⟨N, n1, n2, n3, n4⟩ := logs_N hS
      refine ⟨(bstA (bst (logsJ S m) nI N) x, S), fun w h => ?_, fun w h => ?_, hS⟩
      · unfold f5_logs
        rw [(en w).2, Option.bind_some, if_neg (show ¬ (1 : Int32) = 0 by decide)]
        dsimp only
        rw [(ex w).2, Option.bind_some, if_neg (show ¬ (1 : Int32) = 0 by decide)]
        refine loopE (R := fun o => ∃ w', o = some (bstA (bst (logsJ S m) nI N) x, w') ∧ RC S w' ∧ OffM w w') (I := fun i v w2 => v = (32, nI m, x, (bst (logsJ S m) nI i).1, (bst (logsJ S m) nI i).2, nI i) ∧ RC S w2 ∧ OffM w w2) N ?_ ?_ FU _ w (by show N < 1000; omega) ⟨rfl, h, OffM.rf⟩
        · intro i v w2 hi hI
          obtain ⟨rfl, i1, i2⟩ := hI
          obtain ⟨w1, w', a1, b1, b2, b3⟩ := logs_in_c (n := m) (i := i) (x := x) (most := (bst (logsJ S m) nI i).1) (best := (bst (logsJ S m) nI i).2) i1 hm (by omega)
          refine ⟨_, w', ⟨rfl, b1, i2.tr b2⟩, fun k => ?_⟩
          unfold b5_logs_30
          dsimp only
          rw [if_neg (n3 i hi).1, ck_pos i1.t, i1.r3, ck_pos i1.t42, i1.hc.hut (by decide : 3 < 4), if_neg (n3 i hi).2, a1, Option.bind_some]
          dsimp only
          rw [b3, bst]
          split <;> rfl
        · intro v w2 hI k
          obtain ⟨rfl, i1, i2⟩ := hI
          refine ⟨w2, ?_, i1, i2⟩
          have e102 : j5_logs_102 x (bst (logsJ S m) nI N).1 (bst (logsJ S m) nI N).2 w2 = some (bstA (bst (logsJ S m) nI N) x, w2) := by
            unfold j5_logs_102 bstA
            split <;> rfl
          unfold b5_logs_30
          dsimp only
          rw [e102, ck_pos i1.t, i1.r3, ck_pos i1.t42, i1.hc.hut (by decide : 3 < 4)]
          rcases n4 with z | z
          · rw [if_pos z]
          · rw [if_pos z, ite_self]
      · have hD : ∀ i, i < N → ¬ nI i = -1 := fun i hi => nI_m1 (by omega)
        unfold f6_logs
        rw [(en w).1, Option.bind_some, if_neg (show ¬ (1 : Int32) = 0 by decide)]
        dsimp only
        rw [(ex w).1, Option.bind_some, if_neg (show ¬ (1 : Int32) = 0 by decide)]
        refine loopE (R := fun o => ∃ w', o = some (bstA (bst (logsJ S m) nI N) x, w') ∧ RM S w' ∧ OffC w w') (I := fun i v w2 => v = (75, nI m, x, (bsm (logsJ S m) nI i).1, (bsm (logsJ S m) nI i).2, nI i) ∧ RM S w2 ∧ OffC w w2) N ?_ ?_ FU _ w (by show N < 1000; omega) ⟨rfl, h, OffC.rf⟩
        · intro i v w2 hi hI
          obtain ⟨rfl, i1, i2⟩ := hI
          obtain ⟨w1, w', a1, b1, b2, b3⟩ := logs_in_r (n := m) (i := i) (x := x) (best := (bsm (logsJ S m) nI i).1) (most := (bsm (logsJ S m) nI i).2) i1 hS.rg hm (by omega)
          refine ⟨_, w', ⟨rfl, b1, i2.tr b2⟩, fun k => ?_⟩
          have a := i1.1.1
          unfold b6_logs_30
          dsimp only
          rw [if_neg (n3 i hi).1, ck_pos a.t, a.r4, a.l4, ck_pos (And.intro a.t4 v3_4), cl3, i1.1.2.2.2.1 3 (by decide), if_neg (n3 i hi).2, a1, Option.bind_some]
          dsimp only
          rw [b3, bsm_st hD (logsJ_0 hS) hi]
          split
          · rfl
          · split <;> rfl
        · intro v w2 hI k
          obtain ⟨rfl, i1, i2⟩ := hI
          refine ⟨w2, ?_, i1, i2⟩
          have a := i1.1.1
          have e134 : j6_logs_134 x (bsm (logsJ S m) nI N).1 (bsm (logsJ S m) nI N).2 w2 = some (bstA (bst (logsJ S m) nI N) x, w2) := by
            unfold j6_logs_134 bstA bsm
            rw [if_neg (show ¬ N = 0 by omega)]
            split <;> rfl
          unfold b6_logs_30
          dsimp only
          rw [e134, ck_pos a.t, a.r4, a.l4, ck_pos (And.intro a.t4 v3_4), cl3, i1.1.2.2.2.1 3 (by decide)]
          rcases n4 with z | z
          · rw [if_pos z]
          · rw [if_pos z, ite_self]
    · refine ⟨(-2, S), fun w h => ⟨w, ?_, h, OffM.rf⟩, fun w h => ⟨w, ?_, h, OffC.rf⟩, hS⟩
      · unfold f5_logs
        rw [(en w).2, Option.bind_some, if_neg (show ¬ (1 : Int32) = 0 by decide)]
        dsimp only
        rw [(ex w).2, Option.bind_some, if_pos rfl]
      · unfold f6_logs
        rw [(en w).1, Option.bind_some, if_neg (show ¬ (1 : Int32) = 0 by decide)]
        dsimp only
        rw [(ex w).1, Option.bind_some, if_pos rfl]
  · refine ⟨(-2, S), fun w h => ⟨w, ?_, h, OffM.rf⟩, fun w h => ⟨w, ?_, h, OffC.rf⟩, hS⟩
    · unfold f5_logs
      rw [(en w).2, Option.bind_some, if_pos rfl]
    · unfold f6_logs
      rw [(en w).1, Option.bind_some, if_pos rfl]
