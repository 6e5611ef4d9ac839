/-! run -/
def runA (S : SS) (n : Nat) (x : Int32) (k : Nat) : Int32 := if x = 0 then bitM (goC S.2.1 S.1 n) else if x = 1 then joyM (goC S.2.1 S.1 n) else if x = 2 then (goC S.2.1 S.1 n).1.1 1 else if x = 3 then (goC S.2.1 S.1 n).1.1 2 else if 20 ≤ x then (goC S.2.1 S.1 n).1.2 k 4 else (goC S.2.1 S.1 n).1.2 k 3
/-- what is asked for -/
def runQ (S : SS) (x : Int32) (k : Nat) : Prop := (0 ≤ x ∧ x ≤ 3) ∨ k < S.1.2.1 ∧ (x = nI (10 + k) ∨ x = nI (20 + k))
theorem run_c {S : SS} {w : Wd} {n k : Nat} {x : Int32} (h : RC S w) (hn : n ≤ 40) (hm : S.1.2.1 ≤ 6) (hq : runQ S x k) : ∃ w', j5_run_53 32 (nI n) x w = some (runA S n x k, w') ∧ RC S w' ∧ OffM w w' := by
  obtain ⟨w1, a1, a2, a3⟩ := h.think
  obtain ⟨w2, b1, b2, b3⟩ := a2.behind (n := n) (by omega)
  refine ⟨w2, ?_, b2.1, jcM (a3.tr b3)⟩
  have h2 := b2.1
  have e8 : wr w2 32 4 = 50 := h2.1.1.2.2.2.2.1
  have e9 : tg w2 50 = 1 := b2.2.1.tgA
  have eb := bits_cls b2.2.1
  unfold j5_run_53 runA
  rw [ck_pos h.t, a1, Option.bind_some]
  dsimp only
  rw [b1, Option.bind_some]
  dsimp only
  rw [e8]
  by_cases x0 : x = 0
  · rw [if_pos x0, if_pos x0, ck_pos e9, eb]
    rfl
  rw [if_neg x0, if_neg x0]
  by_cases x1 : x = 1
  · rw [if_pos x1, if_pos x1]
  rw [if_neg x1, if_neg x1]
  by_cases x2 : x = 2
  · rw [if_pos x2, if_pos x2, ck_pos e9, b2.2.1.hut (by decide : 1 < 4)]
  rw [if_neg x2, if_neg x2]
  by_cases x3 : x = 3
  · rw [if_pos x3, if_pos x3, ck_pos e9, b2.2.1.hut (by decide : 2 < 4)]
  rw [if_neg x3, if_neg x3]
  have hk : k < S.1.2.1 ∧ (x = nI (10 + k) ∨ x = nI (20 + k)) := hq.resolve_left fun z => by
    obtain ⟨k, hk, rfl⟩ := four x z
    rcases (by omega : k = 0 ∨ k = 1 ∨ k = 2 ∨ k = 3) with rfl | rfl | rfl | rfl
    · exact x0 rfl
    · exact x1 rfl
    · exact x2 rfl
    · exact x3 rfl
  obtain ⟨hk, hx⟩ := hk
  have hb' : k < (goC S.2.1 S.1 n).2.1 := by rw [goC_2]; exact hk
  obtain ⟨e1, e2, e3, e4, e5, e6, e7, _, _⟩ := b2.bat hb'
  rcases hx with rfl | rfl
  · have hl : ¬ (20 : Int32) ≤ nI (10 + k) := by rw [ile, nI_int (by omega), show (20 : Int32).toInt = 20 from rfl]; omega
    have e10 : nI (10 + k) - 10 = nI k := by
      rw [ieq, isub] <;> rw [nI_int (by omega), show (10 : Int32).toInt = 10 from rfl]
      · rw [nI_int (by omega)]; omega
      · omega
      · omega
    rw [if_neg hl, if_neg hl, ck_pos e9, e10, e1, e3, ck_pos (And.intro e2 e6), e7, e4, ck_pos e5, b2.2.1.row hb' (by decide : 3 < 5)]
  · have hl : (20 : Int32) ≤ nI (20 + k) := by rw [ile, nI_int (by omega), show (20 : Int32).toInt = 20 from rfl]; omega
    have e10 : nI (20 + k) - 20 = nI k := by
      rw [ieq, isub] <;> rw [nI_int (by omega), show (20 : Int32).toInt = 20 from rfl]
      · rw [nI_int (by omega)]; omega
      · omega
      · omega
    rw [if_pos hl, if_pos hl, ck_pos e9, e10, e1, e3, ck_pos (And.intro e2 e6), e7, e4, ck_pos e5, b2.2.1.row hb' (by decide : 4 < 5)]
theorem told_behind {S : SS} {w : Wd} {n k : Nat} {x : Int32} (h : RM (goC S.2.1 S.1 n, S.2) w) (hr : Rg S.1.2.1 S.1.1) (hm : S.1.2.1 ≤ 6) (hq : runQ S x k) : f6_toldBehind 75 x w = some (runA S n x k, w) := by
  have a1 := h.1.1
  have hr' := goC_rg (T := S.2.1) hr n
  unfold f6_toldBehind runA
  rcases hq with hx | ⟨hk, hx⟩
  · have h4 : ¬ 4 ≤ x := by
      have := hx.2
      rw [ile, show (3 : Int32).toInt = 3 from rfl] at this
      rw [ile, show (4 : Int32).toInt = 4 from rfl]
      omega
    rw [if_neg h4]
    obtain ⟨j, hj, rfl⟩ := four x hx
    rcases (by omega : j = 0 ∨ j = 1 ∨ j = 2 ∨ j = 3) with rfl | rfl | rfl | rfl
    · rw [if_pos (show nI 0 = 0 from rfl), if_pos (show nI 0 = 0 from rfl), ck_pos a1.t, bits_ref h.1 hr']
      rfl
    · rw [if_neg (show ¬ nI 1 = 0 by decide), if_pos (show nI 1 = 1 from rfl), if_neg (show ¬ nI 1 = 0 by decide), if_pos (show nI 1 = 1 from rfl), ck_pos a1.t, joy_ref h.1]
      rfl
    · rw [if_neg (show ¬ nI 2 = 0 by decide), if_neg (show ¬ nI 2 = 1 by decide), if_neg (show ¬ nI 2 = 0 by decide), if_neg (show ¬ nI 2 = 1 by decide), if_pos (show nI 2 = 2 from rfl), ck_pos a1.t, within_ref, Option.bind_some]
      dsimp only
      rw [show bnd (nI 2 - 1) 0 3 = 1 by decide, a1.r4, a1.l4, ck_pos (And.intro a1.t4 (show vp_in (1 : Int32) 4 from vin (i := 1) (by decide) (by decide))), show ((1 : Int32)).toNatClampNeg = 1 from rfl, h.1.2.2.2.1 1 (by decide)]
    · rw [if_neg (show ¬ nI 3 = 0 by decide), if_neg (show ¬ nI 3 = 1 by decide), if_neg (show ¬ nI 3 = 0 by decide), if_neg (show ¬ nI 3 = 1 by decide), if_neg (show ¬ nI 3 = 2 by decide), if_pos (show nI 3 = 3 from rfl), ck_pos a1.t, within_ref, Option.bind_some]
      dsimp only
      rw [show bnd (nI 3 - 1) 0 3 = 2 by decide, a1.r4, a1.l4, ck_pos (And.intro a1.t4 (show vp_in (2 : Int32) 4 from vin (i := 2) (by decide) (by decide))), show ((2 : Int32)).toNatClampNeg = 2 from rfl, h.1.2.2.2.1 2 (by decide)]
  · have hb' : k < (goC S.2.1 S.1 n).2.1 := by rw [goC_2]; exact hk
    obtain ⟨cb, c0, c1, c2, vb, v0, v1, v2⟩ := idx6 (b := k) (by omega)
    have ne : ∀ j : Nat, 4 ≤ j → j < 100 → ¬ nI j = 0 ∧ ¬ nI j = 1 ∧ ¬ nI j = 2 ∧ ¬ nI j = 3 := by
      intro j h1 h2
      simp only [ieq, nI_int (show j < 2 ^ 31 by omega), show (0 : Int32).toInt = 0 from rfl, show (1 : Int32).toInt = 1 from rfl, show (2 : Int32).toInt = 2 from rfl, show (3 : Int32).toInt = 3 from rfl]
      omega
    rcases hx with rfl | rfl
    · obtain ⟨n0, n1, n2, n3⟩ := ne (10 + k) (by omega) (by omega)
      have hl : ¬ (20 : Int32) ≤ nI (10 + k) := by rw [ile, nI_int (by omega), show (20 : Int32).toInt = 20 from rfl]; omega
      have h4 : (4 : Int32) ≤ nI (10 + k) := by rw [ile, nI_int (by omega), show (4 : Int32).toInt = 4 from rfl]; omega
      have e10 : nI (10 + k) - 10 = nI k := by
        rw [ieq, isub] <;> rw [nI_int (by omega), show (10 : Int32).toInt = 10 from rfl]
        · rw [nI_int (by omega)]; omega
        · omega
        · omega
      rw [if_pos h4, if_neg hl, if_neg n0, if_neg n1, if_neg n2, if_neg n3, if_neg hl, ck_pos a1.t, e10, i3, i3_1, a1.r3, a1.l3, ck_pos (And.intro a1.t3 v1), c1, (h.1.2.2.2.2.1 k hb').2.2.2.1]
    · obtain ⟨n0, n1, n2, n3⟩ := ne (20 + k) (by omega) (by omega)
      have hl : (20 : Int32) ≤ nI (20 + k) := by rw [ile, nI_int (by omega), show (20 : Int32).toInt = 20 from rfl]; omega
      have h4 : (4 : Int32) ≤ nI (20 + k) := by rw [ile, nI_int (by omega), show (4 : Int32).toInt = 4 from rfl]; omega
      have e10 : nI (20 + k) - 20 = nI k := by
        rw [ieq, isub] <;> rw [nI_int (by omega), show (20 : Int32).toInt = 20 from rfl]
        · rw [nI_int (by omega)]; omega
        · omega
        · omega
      rw [if_pos h4, if_pos hl, if_neg n0, if_neg n1, if_neg n2, if_neg n3, if_pos hl, ck_pos a1.t, e10, i3, i3_2, a1.r3, a1.l3, ck_pos (And.intro a1.t3 v2), c2, (h.1.2.2.2.2.1 k hb').2.2.2.2]
theorem run_r {S : SS} {w : Wd} {n k : Nat} {x : Int32} (h : RM S w) (hr : Rg S.1.2.1 S.1.1) (hn : n ≤ 40) (hm : S.1.2.1 ≤ 6) (hq : runQ S x k) : ∃ w', j6_run_46 75 (nI n) x 1 w = some (runA S n x k, w') ∧ RM S w' ∧ OffC w w' := by
  obtain ⟨w1, a1, a2, a3, a4⟩ := h.keeps
  obtain ⟨w2, b1, b2, b3⟩ := RM.goes (S := S) (c := S.1) (n := n) a2 hr (by omega)
  obtain ⟨w3, c1, c2, c3⟩ := b2.laysGo (a3.tp b3)
  refine ⟨w3, ?_, c2, kpC ((a4.tr (b3.mono fun _ => Or.inl)).tr c3)⟩
  have h40 : 0 ≤ nI n ∧ nI n ≤ 40 := by
    rw [ile, ile, nI_int (by omega), show (40 : Int32).toInt = 40 from rfl, show (0 : Int32).toInt = 0 from rfl]
    omega
  unfold j6_run_46
  rcases within2 (nI n) 0 40 with ⟨_, e⟩ | ⟨z, _⟩
  · rw [(e w).1, Option.bind_some, if_neg (show ¬ (1 : Int32) = 0 by decide), if_neg (show ¬ (1 : Int32) = 0 by decide)]
    dsimp only
    rw [ck_pos h.1.1.t, a1, Option.bind_some]
    dsimp only
    rw [b1, Option.bind_some]
    dsimp only
    rw [told_behind b2 hr hm hq, Option.bind_some]
    dsimp only
    rw [c1]
    rfl
  · exact absurd h40 z
theorem upto40 (x : Int32) (h : 0 ≤ x ∧ x ≤ 40) : ∃ k, k ≤ 40 ∧ x = nI k := by
  have := h.2
  rw [ile, show (40 : Int32).toInt = 40 from rfl] at this
  obtain ⟨k, h1, h2⟩ := inum (n := 41) h.1 (by rw [ilt, show (nI 41).toInt = 41 from rfl]; omega) (by decide)
  exact ⟨k, by omega, h2⟩
theorem back_k {x c : Int32} {n k : Nat} (hc : c = nI n) (h : x - c = nI k) : x = nI (n + k) := by
  have : x = (x - c) + c := by rw [Int32.sub_add_cancel]
  rw [this, h, hc, nI_add, Nat.add_comm]
theorem seg {S : SS} {w : Wd} {x : Int32} {n : Nat} (hn : n = 10 ∨ n = 20) (h : RM S w) (hm : S.1.2.1 ≤ 6) : f6_in x (nI n) (nI (n - 1) + wi w 75 0) w = some (if x - nI n < 0 ∨ nI S.1.2.1 ≤ x - nI n then 0 else 1, w) := by
  rw [h.1.2.1, nI_add]
  rcases bcase (x - nI n) hm with ⟨k, hk, e⟩ | hb
  · have hx := back_k rfl e
    subst hx
    have n1 : ¬ (nI (n + k) - nI n < 0 ∨ nI S.1.2.1 ≤ nI (n + k) - nI n) := by
      rw [e, ilt, ile, nI_int (by omega), nI_int (by omega), show (0 : Int32).toInt = 0 from rfl]
      omega
    rw [if_neg n1]
    rcases within2 (nI (n + k)) (nI n) (nI (n - 1 + S.1.2.1)) with ⟨_, e2⟩ | ⟨z, _⟩
    · exact (e2 w).1
    · refine absurd ?_ z
      rw [ile, ile, nI_int (by omega), nI_int (by omega), nI_int (by omega)]
      omega
  · rw [if_pos hb]
    rcases within2 x (nI n) (nI (n - 1 + S.1.2.1)) with ⟨z, _⟩ | ⟨_, e2⟩
    · rw [ile, ile, nI_int (by omega), nI_int (by omega)] at z
      rw [ilt, ile, isub (by rw [nI_int (by omega)]; omega) (by rw [nI_int (by omega)]; omega), nI_int (by omega), nI_int (by omega), show (0 : Int32).toInt = 0 from rfl] at hb
      omega
    · exact (e2 w).1
theorem run_pair (n x : Int32) : Pair (f5_run 32 n x) (f6_run 75 n x) := pair_of fun S hS => by
  have hm := hS.1.1
  -- the reference's choice
  have refs : ∀ w, RM S w → f6_run 75 n x w = (if (0 ≤ x ∧ x ≤ 3) ∨ ¬ (x - 10 < 0 ∨ nI S.1.2.1 ≤ x - 10) ∨ ¬ (x - 20 < 0 ∨ nI S.1.2.1 ≤ x - 20) then j6_run_46 75 n x 1 w else j6_run_46 75 n x 0 w) := by
    intro w h
    unfold f6_run j6_run_41
    rcases within2 x 0 3 with ⟨z, e⟩ | ⟨z, e⟩
    · rw [(e w).1, Option.bind_some, if_neg (show ¬ (1 : Int32) = 0 by decide), if_pos (Or.inl z)]
    · rw [(e w).1, Option.bind_some, if_pos rfl, ck_pos h.1.1.t]
      dsimp only
      have s1 := seg (x := x) (n := 10) (Or.inl rfl) h hm
      have s2 := seg (x := x) (n := 20) (Or.inr rfl) h hm
      rw [show nI 10 = 10 from rfl, show nI (10 - 1) = 9 from rfl] at s1
      rw [show nI 20 = 20 from rfl, show nI (20 - 1) = 19 from rfl] at s2
      rw [s1, Option.bind_some]
      dsimp only
      by_cases h1 : x - 10 < 0 ∨ nI S.1.2.1 ≤ x - 10
      · rw [if_pos h1, if_pos rfl, s2, Option.bind_some]
        dsimp only
        by_cases h2 : x - 20 < 0 ∨ nI S.1.2.1 ≤ x - 20
        · rw [if_pos h2, if_pos rfl, if_neg (fun q => q.elim z fun q => q.elim (fun q => q h1) fun q => q h2)]
        · rw [if_neg h2, if_neg (show ¬ (1 : Int32) = 0 by decide), if_pos (Or.inr (Or.inr h2))]
      · rw [if_neg h1, if_neg (show ¬ (1 : Int32) = 0 by decide), if_pos (Or.inr (Or.inl h1))]
  rcases within2 n 0 40 with ⟨hn, en⟩ | ⟨hn, en⟩
  · have hasb : ∀ w, RC S w → ∀ b, f1_has 42 b w = some (if b < 0 ∨ nI S.1.2.1 ≤ b then 0 else 1, w) := by
      intro w h b
      by_cases hb : b < 0 ∨ nI S.1.2.1 ≤ b
      · rw [if_pos hb, has_0 h.hc hb]
      · rw [if_neg hb]
        rcases bcase b hm with ⟨k, hk, rfl⟩ | z
        · exact has_1 h.hc hk
        · exact absurd z hb
    have clss : ∀ w, RC S w → f5_run 32 n x w = (if (0 ≤ x ∧ x ≤ 3) ∨ ¬ (x - 10 < 0 ∨ nI S.1.2.1 ≤ x - 10) ∨ ¬ (x - 20 < 0 ∨ nI S.1.2.1 ≤ x - 20) then j5_run_53 32 n x w else some (-2, w)) := by
      intro w h
      unfold f5_run
      rw [(en w).2, Option.bind_some, if_neg (show ¬ (1 : Int32) = 0 by decide)]
      dsimp only
      rcases within2 x 0 3 with ⟨z, e⟩ | ⟨z, e⟩
      · rw [(e w).2, Option.bind_some, if_neg (show ¬ (1 : Int32) = 0 by decide), if_pos (Or.inl z)]
      · rw [(e w).2, Option.bind_some, if_pos rfl, ck_pos h.t]
        dsimp only
        rw [h.r3, ck_pos h.t42, hasb w h, Option.bind_some]
        dsimp only
        by_cases h1 : x - 10 < 0 ∨ nI S.1.2.1 ≤ x - 10
        · rw [if_pos h1, if_pos rfl, h.r3, ck_pos h.t42, hasb w h, Option.bind_some]
          dsimp only
          by_cases h2 : x - 20 < 0 ∨ nI S.1.2.1 ≤ x - 20
          · rw [if_pos h2, if_pos rfl, if_neg (fun q => q.elim z fun q => q.elim (fun q => q h1) fun q => q h2)]
          · rw [if_neg h2, if_neg (show ¬ (1 : Int32) = 0 by decide), if_pos (Or.inr (Or.inr h2))]
        · rw [if_neg h1, if_neg (show ¬ (1 : Int32) = 0 by decide), if_pos (Or.inr (Or.inl h1))]
    obtain ⟨m, hm40, rfl⟩ := upto40 n hn
    by_cases hq : ∃ k, runQ S x k
    · obtain ⟨k, hq⟩ := hq
      have sb : ∀ a, nI (a + k) - nI a = nI k := fun a => by rw [← nI_add, Int32.add_comm, Int32.add_sub_cancel]
      have nk : k < S.1.2.1 → ¬ (nI k < 0 ∨ nI S.1.2.1 ≤ nI k) := fun hk => by
        rw [ilt, ile, nI_int (by omega), nI_int (by omega), show (0 : Int32).toInt = 0 from rfl]
        omega
      have hc : (0 ≤ x ∧ x ≤ 3) ∨ ¬ (x - 10 < 0 ∨ nI S.1.2.1 ≤ x - 10) ∨ ¬ (x - 20 < 0 ∨ nI S.1.2.1 ≤ x - 20) := by
        rcases hq with z | ⟨hk, z | z⟩
        · exact Or.inl z
        · refine Or.inr (Or.inl ?_)
          rw [z, show nI (10 + k) - 10 = nI k from sb 10]
          exact nk hk
        · refine Or.inr (Or.inr ?_)
          rw [z, show nI (20 + k) - 20 = nI k from sb 20]
          exact nk hk
      refine ⟨(runA S m x k, S), fun w h => ?_, fun w h => ?_, hS⟩
      · obtain ⟨w', a1, a2, a3⟩ := run_c h hm40 hm hq
        refine ⟨w', ?_, a2, a3⟩
        rw [clss w h, if_pos hc, a1]
      · obtain ⟨w', a1, a2, a3⟩ := run_r h hS.rg hm40 hm hq
        exact ⟨w', by rw [refs w h, if_pos hc, a1], a2, a3⟩
    · have hc : ¬ ((0 ≤ x ∧ x ≤ 3) ∨ ¬ (x - 10 < 0 ∨ nI S.1.2.1 ≤ x - 10) ∨ ¬ (x - 20 < 0 ∨ nI S.1.2.1 ≤ x - 20)) := by
        rintro (z | z | z)
        · exact hq ⟨0, Or.inl z⟩
        · rcases bcase (x - 10) hm with ⟨k, hk, e⟩ | hb
          · exact hq ⟨k, Or.inr ⟨hk, Or.inl (back_k (n := 10) rfl e)⟩⟩
          · exact z hb
        · rcases bcase (x - 20) hm with ⟨k, hk, e⟩ | hb
          · exact hq ⟨k, Or.inr ⟨hk, Or.inr (back_k (n := 20) rfl e)⟩⟩
          · exact z hb
      refine ⟨(-2, S), fun w h => ⟨w, ?_, h, OffM.rf⟩, fun w h => ⟨w, ?_, h, OffC.rf⟩, hS⟩
      · rw [clss w h, if_neg hc]
      · rw [refs w h, if_neg hc]
        unfold j6_run_46
        rw [(en w).1, Option.bind_some, if_neg (show ¬ (1 : Int32) = 0 by decide), if_pos rfl]
  · refine ⟨(-2, S), fun w h => ⟨w, ?_, h, OffM.rf⟩, fun w h => ⟨w, ?_, h, OffC.rf⟩, hS⟩
    · unfold f5_run
      rw [(en w).2, Option.bind_some, if_pos rfl]
    · have e : ∀ s, j6_run_46 75 n x s w = some (-2, w) := by
        intro s
        unfold j6_run_46
        rw [(en w).1, Option.bind_some, if_pos rfl]
      rw [refs w h, e, e, ite_self]
