/-! stays -/
def stF (X : Nat → Int32) : Nat → Int32 × Int32
  | 0 => (-1, 0)
  | i + 1 => if X i < (stF X i).1 then stF X i else (X i, nI i)
def stM (X : Nat → Int32) (i : Nat) : Int32 × Int32 := if i = 0 then (-1, 0) else ((stF X i).2, (stF X i).1)
theorem setr_setr (r : Nat → Int32) (k : Nat) (a b : Int32) : setr (setr r k a) k b = setr r k b := by
  funext j
  unfold setr
  split <;> rfl
theorem setr_same {r : Nat → Int32} {k : Nat} {a : Int32} (h : r k = a) : setr r k a = r := by
  funext j
  unfold setr
  split
  · rename_i e; rw [e, h]
  · rfl
theorem upR_self (ba : Nat → Nat → Int32) (b : Nat) : upR ba b (ba b) = ba := by
  funext x
  unfold upR
  split
  · rename_i e; rw [e]
  · rfl
theorem setBS_2 (S : SS) (b j : Nat) (x y : Int32) : setBS (setBS S b j x) b j y = setBS S b j y := by
  unfold setBS
  dsimp only
  rw [upR_at, upR_up, setr_setr]
theorem setBS_back (S : SS) (b j : Nat) : setBS S b j (S.1.1.2 b j) = S := by
  unfold setBS
  rw [setr_same rfl, upR_self]
/-- as if one sat there -/
def sitC (c : CO) (b j : Nat) (v : Int32) : CO := ((c.1.1, upR c.1.2 b (setr (c.1.2 b) j v)), c.2)
theorem TC.sit {S : SS} {c : CO} {w : Wd} {b j : Nat} {v : Int32} (h : TC S c w) (hb : b < c.2.1) : TC S (sitC c b j v) (sI w (50 + 2 + b) j v) ∧ Fr JC w (sI w (50 + 2 + b) j v) := by
  have hm := h.2.1.2.2.2.2.2.2.1
  have hF : Fr JC w (sI w (50 + 2 + b) j v) := Fr.sI (Or.inl ⟨by omega, by omega⟩)
  exact ⟨h.upd hF ⟨h.2.1.setB hb, h.2.2⟩, hF⟩
noncomputable def tillX (T : List PG) (c : CO) (b : Nat) : Int32 := Classical.choose (till_ex T c b)
theorem tillX_is (T : List PG) (c : CO) (b : Nat) : tillA T c b (tillX T c b) := Classical.choose_spec (till_ex T c b)
theorem till_ge {T : List PG} {c : CO} {b : Nat} {x : Int32} (h : tillA T c b x) : ∃ j, j ≤ 41 ∧ x = nI j := by
  rcases h with ⟨m, h1, _, _, h2⟩ | ⟨_, h2⟩
  · exact ⟨m, by omega, h2⟩
  · exact ⟨41, by decide, h2⟩
noncomputable def stayX (S : SS) (b i : Nat) : Int32 := tillX S.2.1 (sitC S.1 b 2 (nI i)) b
theorem stayX_nat (S : SS) (b i : Nat) : ∃ j, j ≤ 41 ∧ stayX S b i = nI j := till_ge (tillX_is _ _ _)
theorem stF_ge {S : SS} {b : Nat} : ∀ i, 0 < i → ∃ j k, j ≤ 41 ∧ k < i ∧ stF (stayX S b) i = (nI j, nI k)
  | 0, h => absurd h (Nat.lt_irrefl 0)
  | i + 1, _ => by
    obtain ⟨j, hj, e⟩ := stayX_nat S b i
    by_cases h0 : i = 0
    · subst h0
      refine ⟨j, 0, hj, by omega, ?_⟩
      unfold stF stF
      rw [if_neg (show ¬ stayX S b 0 < (-1, (0 : Int32)).1 from fun z => by rw [e, ilt, nI_int (by omega), show (-1 : Int32).toInt = -1 from rfl] at z; omega), e]
    · obtain ⟨j2, k2, h1, h2, h3⟩ := stF_ge (S := S) (b := b) i (by omega)
      unfold stF
      split
      · exact ⟨j2, k2, h1, by omega, h3⟩
      · exact ⟨j, i, hj, by omega, by rw [e]⟩
theorem stM_st {S : SS} {b i : Nat} (hi : i < 3) : stM (stayX S b) (i + 1) = if stayX S b i < (stM (stayX S b) i).2 then stM (stayX S b) i else (nI i, stayX S b i) := by
  obtain ⟨j, hj, e⟩ := stayX_nat S b i
  unfold stM
  rw [if_neg (Nat.succ_ne_zero i)]
  by_cases h0 : i = 0
  · subst h0
    rw [if_pos rfl, e, if_neg (show ¬ nI j < (-1, (0 : Int32)).2 from fun z => by rw [ilt, nI_int (by omega), show (0 : Int32).toInt = 0 from rfl] at z; omega)]
    unfold stF stF
    rw [e, if_neg (show ¬ nI j < (-1, (0 : Int32)).1 from fun z => by rw [ilt, nI_int (by omega), show (-1 : Int32).toInt = -1 from rfl] at z; omega)]
  · rw [if_neg h0]
    rw [stF]
    dsimp only
    split <;> rfl
theorem stays_pair (b x : Int32) : Pair (f5_stays 32 b x) (f6_stays 75 b x) := pair_of fun S hS => by
  have hm := hS.1.1
  rcases bcase b hm with ⟨k, hk, rfl⟩ | hb
  · rcases within2 x 0 1 with ⟨hx, ex⟩ | ⟨hx, ex⟩
    · refine ⟨(bstA (stF (stayX S k) 3) x, S), fun w h => ?_, fun w h => ?_, hS⟩
      · unfold f5_stays
        rw [ck_pos h.t, h.r3, ck_pos h.t42, has_1 h.hc hk, Option.bind_some, if_neg (show ¬ (1 : Int32) = 0 by decide)]
        dsimp only
        rw [(ex w).2, Option.bind_some, if_neg (show ¬ (1 : Int32) = 0 by decide)]
        refine loopE (R := fun o => ∃ w', o = some (bstA (stF (stayX S k) 3) x, w') ∧ RC S w' ∧ OffM w w') (I := fun i v w2 => v = (32, nI k, x, (stF (stayX S k) i).1, (stF (stayX S k) i).2, nI i) ∧ RC S w2 ∧ OffM w w2) 3 ?_ ?_ FU _ w (by decide) ⟨rfl, h, OffM.rf⟩
        · intro i v w2 hi hI
          obtain ⟨rfl, i1, i2⟩ := hI
          obtain ⟨w3, a1, a2, a3⟩ := i1.think
          obtain ⟨e1, e2, e3, e4, e5, e6, e7, e8, e9⟩ := a2.bat hk
          obtain ⟨s1, s2⟩ := a2.sit (j := 2) (v := nI i) hk
          obtain ⟨w4, c', b1, b2, b3⟩ := s1.till (b := k) hk (tillX_is S.2.1 (sitC S.1 k 2 (nI i)) k)
          refine ⟨_, w4, ⟨rfl, b2.1, i2.tr (jcM ((a3.tr s2).tr b3))⟩, fun kk => ?_⟩
          unfold b5_stays_34 lw
          dsimp only
          rw [if_neg (show ¬ (2 : Int32) < nI i by rw [ilt, nI_int (by omega), show (2 : Int32).toInt = 2 from rfl]; omega), ck_pos i1.t, a1, Option.bind_some]
          dsimp only
          rw [e8, ck_pos e9, e1, e3, ck_pos (And.intro e2 e6), e7, e4, ck_pos e5, b1, Option.bind_some]
          dsimp only
          unfold j5_stays_78
          rw [i3_1, stF]
          show (if stayX S k i < _ then _ else kk (32, nI k, x, stayX S k i, nI i, nI (i + 1)) w4) = _
          split <;> rfl
        · intro v w2 hI kk
          obtain ⟨rfl, i1, i2⟩ := hI
          refine ⟨w2, ?_, i1, i2⟩
          unfold b5_stays_34 bstA
          dsimp only
          rw [if_pos (by decide)]
          split <;> rfl
      · have k6 := hk
        obtain ⟨cb, c0, c1, c2, vb, v0, v1, v2⟩ := idx6 (b := k) (by omega)
        have a := h.1.1
        unfold f6_stays
        rw [ck_pos a.t, one_1 h.1 hk, Option.bind_some, if_neg (show ¬ (1 : Int32) = 0 by decide)]
        dsimp only
        rw [(ex w).1, Option.bind_some, if_neg (show ¬ (1 : Int32) = 0 by decide)]
        dsimp only
        rw [a.r3, a.l3, i3, ck_pos (And.intro a.t3 v0), c0, (h.1.2.2.2.2.1 k hk).2.2.1]
        refine loopE (R := fun o => ∃ w', o = some (bstA (stF (stayX S k) 3) x, w') ∧ RM S w' ∧ OffC w w') (I := fun i v w2 => v = (75, nI k, x, S.1.1.2 k 2, (stM (stayX S k) i).1, (stM (stayX S k) i).2, nI i) ∧ (∃ y, RM (setBS S k 2 y) w2 ∧ rng y 0 3) ∧ OffC w w2) 3 ?_ ?_ FU _ w (by decide) ⟨rfl, ⟨S.1.1.2 k 2, by rw [setBS_back]; exact h, (hS.rg.2.2 k hk).2.2.1⟩, OffC.rf⟩
        · intro i v w2 hi hI
          obtain ⟨rfl, ⟨y, i1, hy⟩, i2⟩ := hI
          have a := i1.1.1
          have i1' := i1.setB (b := k) (j := 0) (v := nI i) hk (by decide)
          rw [setBS_2] at i1'
          have hr' : Rg S.1.2.1 (setBS S k 2 (nI i)).1.1 := (SI.setB (b := k) hS (Or.inl ⟨rfl, by unfold rng; rw [nI_int (by omega)]; omega⟩)).rg
          obtain ⟨w3, a1, a2, a3, a4⟩ := i1'.keeps
          have ht : tillA (setBS S k 2 (nI i)).2.1 (setBS S k 2 (nI i)).1 k (stayX S k i) := tillX_is S.2.1 (sitC S.1 k 2 (nI i)) k
          obtain ⟨w4, b1, b2, b3⟩ := leavesOf_ref (S := setBS S k 2 (nI i)) (c := (setBS S k 2 (nI i)).1) a2 hr' a3 hk rfl (fun _ => ⟨rfl, rfl⟩) ht
          have hlo : f6_leavesOf 75 (nI k) (sI w2 78 (3 * k + 0) (nI i)) = some (if stayX S k i = 41 then -1 else stayX S k i, w4) := by
            unfold f6_leavesOf
            rw [ck_pos i1'.1.1.t, a1, Option.bind_some]
            exact b1
          refine ⟨_, w4, ⟨rfl, ⟨nI i, b2, by unfold rng; rw [nI_int (by omega)]; omega⟩, i2.tr ((off78 (Or.inl rfl)).tr (kpC (a4.tr b3)))⟩, fun kk => ?_⟩
          obtain ⟨j, hj, ej⟩ := stayX_nat S k i
          unfold b6_stays_41 lw
          dsimp only
          rw [if_neg (show ¬ (3 : Int32) ≤ nI i from nI_ge (b := 3) hi (by omega)), ck_pos a.t, a.r3, a.l3, i3, ck_pos (And.intro a.t3 v0), c0]
          rw [show 3 * k = 3 * k + 0 from rfl, hlo, Option.bind_some]
          dsimp only
          have e77 : ∀ s : Int32, s = stayX S k i → j6_stays_77 kk 75 (nI k) x (S.1.1.2 k 2) (stM (stayX S k) i).1 (stM (stayX S k) i).2 (nI i) s w4 = kk (75, nI k, x, S.1.1.2 k 2, (stM (stayX S k) (i + 1)).1, (stM (stayX S k) (i + 1)).2, nI (i + 1)) w4 := by
            intro s hs
            subst hs
            unfold j6_stays_77 j6_stays_93 j6_stays_109
            rw [i3_1, stM_st hi]
            split <;> rfl
          by_cases h41 : stayX S k i = 41
          · rw [if_pos h41, if_pos rfl]
            exact e77 41 h41.symm
          · rw [if_neg h41, if_neg (by rw [ej]; exact nI_m1 (by omega))]
            exact e77 _ rfl
        · intro v w2 hI kk
          obtain ⟨rfl, ⟨y, i1, hy⟩, i2⟩ := hI
          have a := i1.1.1
          have i1' := i1.setB (b := k) (j := 0) (v := S.1.1.2 k 2) hk (by decide)
          rw [setBS_2, setBS_back] at i1'
          refine ⟨sI w2 78 (3 * k) (S.1.1.2 k 2), ?_, i1', i2.tr (off78 (Or.inl rfl))⟩
          unfold b6_stays_41 bstA stM lw
          dsimp only
          rw [if_pos (show (3 : Int32) ≤ nI 3 by decide), ck_pos a.t, a.r3, a.l3, i3, ck_pos (And.intro a.t3 v0), c0, if_neg (show ¬ (3 : Nat) = 0 by decide)]
          split <;> rfl
    · refine ⟨(-7, S), fun w h => ⟨w, ?_, h, OffM.rf⟩, fun w h => ⟨w, ?_, h, OffC.rf⟩, hS⟩
      · unfold f5_stays
        rw [ck_pos h.t, h.r3, ck_pos h.t42, has_1 h.hc hk, Option.bind_some, if_neg (show ¬ (1 : Int32) = 0 by decide)]
        dsimp only
        rw [(ex w).2, Option.bind_some, if_pos rfl]
      · unfold f6_stays
        rw [ck_pos h.1.1.t, one_1 h.1 hk, Option.bind_some, if_neg (show ¬ (1 : Int32) = 0 by decide)]
        dsimp only
        rw [(ex w).1, Option.bind_some, if_pos rfl]
  · refine ⟨(-5, S), fun w h => ⟨w, ?_, h, OffM.rf⟩, fun w h => ⟨w, ?_, h, OffC.rf⟩, hS⟩
    · unfold f5_stays
      rw [ck_pos h.t, h.r3, ck_pos h.t42, has_0 h.hc hb]
      rfl
    · unfold f6_stays
      rw [ck_pos h.1.1.t, one_0 h.1 hb]
      rfl
