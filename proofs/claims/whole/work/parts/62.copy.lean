/-! copy, bathers by a sheet -/
theorem copy_pair (x i y j n : Int32) : Pair (f5_copy 32 x i y j n) (f6_copy 75 x i y j n) := pair_of fun S hS => by
  rcases sheet_case x with ⟨s, hs, rfl, e⟩ | e
  · rcases sheet_case y with ⟨o, ho, rfl, eo⟩ | eo
    · have hs40 := rowL_40 hS hs
      have ho40 := rowL_40 hS ho
      have z0 : (0 : Int32).toInt = 0 := rfl
      have cc : ∀ {w}, RC S w → f5_copy 32 (nI s) i (nI o) j n w = if (S.2.2.2.2 s).1 = -1 then some (-11, w) else if (S.2.2.2.2 o).1 = -1 then some (-11, w) else if (S.2.2.2.2 s).1 = (S.2.2.2.2 o).1 then (if 0 ≤ i.toInt ∧ 0 ≤ n.toInt ∧ i.toInt + n.toInt ≤ (rowL S s).length then (if 0 ≤ j.toInt ∧ 0 ≤ n.toInt ∧ j.toInt + n.toInt ≤ (rowL S o).length then (ck (¬ i < 0 ∧ ¬ j < 0 ∧ ¬ n < 0 ∧ i.toNatClampNeg + n.toNatClampNeg ≤ 40 ∧ j.toNatClampNeg + n.toNatClampNeg ≤ 40) (some (n, wC w (68 + 2 * s) i.toNatClampNeg (68 + 2 * o) j.toNatClampNeg n.toNatClampNeg))) else some (-12, w)) else some (-12, w)) else some (-13, w) := by
        intro w h
        obtain ⟨s1, s2, s3, s4, s5, s6, s7, s8, s9, s10, s11, s12, s13⟩ := h.sh hs
        obtain ⟨t1, t2, t3, t4, t5, t6, t7, t8, t9, t10, t11, t12, t13⟩ := h.sh ho
        unfold f5_copy lw
        rw [(e w).1, Option.bind_some, if_neg (show ¬ (1 : Int32) = 0 by decide)]
        dsimp only
        rw [(eo w).1, Option.bind_some, if_neg (show ¬ (1 : Int32) = 0 by decide)]
        dsimp only
        rw [ck_pos h.t, s1, s3, ck_pos (And.intro s2 s9), ck_pos t9, s10, t10, s4, t4, ck_pos s5, missing_c h hs, Option.bind_some]
        dsimp only
        by_cases hm : (S.2.2.2.2 s).1 = -1
        · rw [if_pos hm, if_pos hm, if_neg (show ¬ (1 : Int32) = 0 by decide)]
        rw [if_neg hm, if_neg hm, if_pos rfl, ck_pos t5, missing_c h ho, Option.bind_some]
        dsimp only
        by_cases hm2 : (S.2.2.2.2 o).1 = -1
        · rw [if_pos hm2, if_pos hm2, if_neg (show ¬ (1 : Int32) = 0 by decide)]
        rw [if_neg hm2, if_neg hm2, if_pos rfl, s11, t11]
        by_cases hso : (S.2.2.2.2 s).1 = (S.2.2.2.2 o).1
        · rw [if_pos hso, if_pos hso, places_c h hs hs40, Option.bind_some]
          dsimp only
          by_cases c1 : 0 ≤ i.toInt ∧ 0 ≤ n.toInt ∧ i.toInt + n.toInt ≤ (rowL S s).length
          · rw [if_pos c1, if_pos c1, if_neg (show ¬ (1 : Int32) = 0 by decide), places_c h ho ho40, Option.bind_some]
            dsimp only
            by_cases c2 : 0 ≤ j.toInt ∧ 0 ≤ n.toInt ∧ j.toInt + n.toInt ≤ (rowL S o).length
            · rw [if_pos c2, if_pos c2, if_neg (show ¬ (1 : Int32) = 0 by decide), s6, t6, ck_pos s7, ck_pos t7, s8, t8]
            · rw [if_neg c2, if_neg c2, if_pos rfl]
          · rw [if_neg c1, if_neg c1, if_pos rfl]
        · rw [if_neg hso, if_neg hso]
      have rr : ∀ {w}, RM S w → f6_copy 75 (nI s) i (nI o) j n w = if (S.2.2.2.2 s).1 = -1 then some (-11, w) else if (S.2.2.2.2 o).1 = -1 then some (-11, w) else if (S.2.2.2.2 s).1 = (S.2.2.2.2 o).1 then (if n < 0 then some (-12, w) else if i < 0 then some (-12, w) else if j < 0 then some (-12, w) else if nI (rowL S s).length < i then some (-12, w) else if nI (rowL S o).length < j then some (-12, w) else if nI (rowL S s).length - i < n then some (-12, w) else if n ≤ nI (rowL S o).length - j then loopF b6_copy_147 FU (75, n, 40 * nI s + i, 40 * nI o + j, (0 : Int32)) w else some (-12, w)) else some (-13, w) := by
        intro w h
        obtain ⟨s1, s2, s3, s4, s5, s6⟩ := h.sh hs
        obtain ⟨t1, t2, t3, t4, t5, t6⟩ := h.sh ho
        unfold f6_copy
        rw [(e w).2, Option.bind_some, if_neg (show ¬ (1 : Int32) = 0 by decide)]
        dsimp only
        rw [(eo w).2, Option.bind_some, if_neg (show ¬ (1 : Int32) = 0 by decide)]
        dsimp only
        simp only [ck_pos h.1.1.t, h.1.1.r14, ck_pos s1, ck_pos s1.2, ck_pos t1.2, s3, t3, s4, t4, h.1.1.r15, ck_pos s2, ck_pos s2.2, ck_pos t2.2, s5, t5]
      by_cases hm : (S.2.2.2.2 s).1 = -1
      · exact ⟨(-11, S), fun w h => ⟨w, by rw [cc h, if_pos hm], h, OffM.rf⟩, fun w h => ⟨w, by rw [rr h, if_pos hm], h, OffC.rf⟩, hS⟩
      by_cases hm2 : (S.2.2.2.2 o).1 = -1
      · exact ⟨(-11, S), fun w h => ⟨w, by rw [cc h, if_neg hm, if_pos hm2], h, OffM.rf⟩, fun w h => ⟨w, by rw [rr h, if_neg hm, if_pos hm2], h, OffC.rf⟩, hS⟩
      by_cases hso : (S.2.2.2.2 s).1 = (S.2.2.2.2 o).1
      · by_cases hc : (0 ≤ i.toInt ∧ 0 ≤ n.toInt ∧ i.toInt + n.toInt ≤ (rowL S s).length) ∧ (0 ≤ j.toInt ∧ 0 ≤ n.toInt ∧ j.toInt + n.toInt ≤ (rowL S o).length)
        · obtain ⟨c1, c2⟩ := hc
          obtain ⟨i', hi', rfl⟩ := inum (x := i) (n := 41) (by rw [ile, z0]; omega) (by rw [ilt, nI_int (by decide)]; omega) (by decide)
          obtain ⟨j', hj', rfl⟩ := inum (x := j) (n := 41) (by rw [ile, z0]; omega) (by rw [ilt, nI_int (by decide)]; omega) (by decide)
          obtain ⟨n', hn', rfl⟩ := inum (x := n) (n := 41) (by rw [ile, z0]; omega) (by rw [ilt, nI_int (by decide)]; omega) (by decide)
          have c1' := c1
          have c2' := c2
          rw [nI_int (by omega), nI_int (by omega)] at c1' c2'
          refine ⟨(nI n', shS S o ((S.2.2.2.2 o).1, cpL (rowL S s) (rowL S o) i' j' n')), fun w h => ?_, fun w h => ?_, hS.sheet (hS.sort ho) (by rw [cpL_len]; exact ho40) fun q => absurd q hm2⟩
          · obtain ⟨b1, b2⟩ := copy_cc (i := i') (j := j') (n := n') h hS hs ho (by omega) (by omega)
            refine ⟨_, ?_, b1, b2⟩
            have pos : ∀ k, k < 41 → ¬ nI k < 0 := fun k hk => by rw [ilt, nI_int (by omega), z0]; omega
            rw [cc h, if_neg hm, if_neg hm2, if_pos hso, if_pos c1, if_pos c2, nI_clamp (by omega), nI_clamp (by omega), nI_clamp (by omega), ck_pos ⟨pos _ hi', pos _ hj', pos _ hn', by omega, by omega⟩]
          · obtain ⟨w', b1, b2, b3⟩ := copy_rr (i := i') (j := j') (n := n') h hS hs ho (by omega) (by omega)
            refine ⟨w', ?_, b2, b3⟩
            have e1 : (nI (rowL S s).length - nI i').toInt = ((rowL S s).length : Int) - i' := by rw [isub] <;> rw [nI_int (by omega), nI_int (by omega)] <;> omega
            have e2 : (nI (rowL S o).length - nI j').toInt = ((rowL S o).length : Int) - j' := by rw [isub] <;> rw [nI_int (by omega), nI_int (by omega)] <;> omega
            rw [rr h, if_neg hm, if_neg hm2, if_pos hso, if_neg (by rw [ilt, z0]; omega), if_neg (by rw [ilt, z0]; omega), if_neg (by rw [ilt, z0]; omega), if_neg (by rw [ilt, nI_int (by omega), nI_int (by omega)]; omega), if_neg (by rw [ilt, nI_int (by omega), nI_int (by omega)]; omega), if_neg (by rw [ilt, e1, nI_int (by omega)]; omega), if_pos (by rw [ile, e2, nI_int (by omega)]; omega), i40, nI_add, i40, nI_add, b1]
        · refine ⟨(-12, S), fun w h => ⟨w, ?_, h, OffM.rf⟩, fun w h => ⟨w, ?_, h, OffC.rf⟩, hS⟩
          · rw [cc h, if_neg hm, if_neg hm2, if_pos hso]
            by_cases c1 : 0 ≤ i.toInt ∧ 0 ≤ n.toInt ∧ i.toInt + n.toInt ≤ (rowL S s).length
            · rw [if_pos c1, if_neg fun c2 => hc ⟨c1, c2⟩]
            · rw [if_neg c1]
          · rw [rr h, if_neg hm, if_neg hm2, if_pos hso]
            by_cases k1 : n < 0
            · rw [if_pos k1]
            by_cases k2 : i < 0
            · rw [if_neg k1, if_pos k2]
            by_cases k3 : j < 0
            · rw [if_neg k1, if_neg k2, if_pos k3]
            by_cases k4 : nI (rowL S s).length < i
            · rw [if_neg k1, if_neg k2, if_neg k3, if_pos k4]
            by_cases k5 : nI (rowL S o).length < j
            · rw [if_neg k1, if_neg k2, if_neg k3, if_neg k4, if_pos k5]
            rw [if_neg k1, if_neg k2, if_neg k3, if_neg k4, if_neg k5]
            rw [ilt, z0] at k1 k2 k3
            rw [ilt, nI_int (by omega)] at k4 k5
            have e1 : (nI (rowL S s).length - i).toInt = ((rowL S s).length : Int) - i.toInt := by rw [isub] <;> rw [nI_int (by omega)] <;> omega
            have e2 : (nI (rowL S o).length - j).toInt = ((rowL S o).length : Int) - j.toInt := by rw [isub] <;> rw [nI_int (by omega)] <;> omega
            by_cases k6 : nI (rowL S s).length - i < n
            · rw [if_pos k6]
            rw [if_neg k6, if_neg]
            rw [ilt, e1] at k6
            rw [ile, e2]
            omega
      · exact ⟨(-13, S), fun w h => ⟨w, by rw [cc h, if_neg hm, if_neg hm2, if_neg hso], h, OffM.rf⟩, fun w h => ⟨w, by rw [rr h, if_neg hm, if_neg hm2, if_neg hso], h, OffC.rf⟩, hS⟩
    · refine ⟨(-2, S), fun w h => ⟨w, ?_, h, OffM.rf⟩, fun w h => ⟨w, ?_, h, OffC.rf⟩, hS⟩
      · unfold f5_copy
        rw [(e w).1, Option.bind_some, if_neg (show ¬ (1 : Int32) = 0 by decide)]
        dsimp only
        rw [(eo w).1, Option.bind_some, if_pos rfl]
      · unfold f6_copy
        rw [(e w).2, Option.bind_some, if_neg (show ¬ (1 : Int32) = 0 by decide)]
        dsimp only
        rw [(eo w).2, Option.bind_some, if_pos rfl]
  · refine ⟨(-2, S), fun w h => ⟨w, ?_, h, OffM.rf⟩, fun w h => ⟨w, ?_, h, OffC.rf⟩, hS⟩
    · unfold f5_copy
      rw [(e w).1, Option.bind_some, if_pos rfl]
    · unfold f6_copy
      rw [(e w).2, Option.bind_some, if_pos rfl]
/-! bathers by a sheet -/
def bbF (L : List Int32) (f : Nat) : Nat → Nat → Int32 → SS → Int32 × SS
  | 0, _, came, S => (came, S)
  | r + 1, i, came, S => if f + 2 * i + 2 ≤ L.length then bbF L f r (i + 1) (if (newA S (L.getD (f + 2 * i) 0) (L.getD (f + 2 * i + 1) 0)).1 < 0 then came else came + 1) (newA S (L.getD (f + 2 * i) 0) (L.getD (f + 2 * i + 1) 0)).2 else (-12, S)
theorem newA_2 (S : SS) (a b : Int32) : (newA S a b).2.2 = S.2 := by
  unfold newA
  split
  · split
    · split
      · split <;> rfl
      · rfl
    · rfl
  · rfl
theorem bbF_si (L : List Int32) (f : Nat) : ∀ r i came S, SI S → SI (bbF L f r i came S).2
  | 0, _, _, _, h => h
  | r + 1, i, came, S, h => by
    unfold bbF
    split
    · exact bbF_si L f r (i + 1) _ _ (newA_si _ _ h)
    · exact h
theorem by_c {S : SS} {w : Wd} {s f n : Nat} (h : RC S w) (hS : SI S) (hs : s < 4) (hf : f ≤ 40) (hn : n ≤ 6) : ∃ w', loopF b5_bathersBy_70 FU (32, nI n, 67 + 2 * s, (0 : Int32), nI f, (0 : Int32)) w = some ((bbF (rowL S s) f n 0 0 S).1, w') ∧ RC (bbF (rowL S s) f n 0 0 S).2 w' ∧ OffM w w' := by
  have h40 := rowL_40 hS hs
  generalize hL : rowL S s = L at h40
  generalize hA : bbF L f n 0 0 S = A
  refine loopI (R := fun o => ∃ w', o = some (A.1, w') ∧ RC A.2 w' ∧ OffM w w') (I := fun i v w2 => ∃ came S2, (v = (32, nI n, 67 + 2 * s, came, nI (f + 2 * i), nI i) ∧ A = bbF L f (n - i) i came S2) ∧ (RC S2 w2 ∧ SI S2 ∧ rowL S2 s = L) ∧ OffM w w2) n ?_ FU 0 _ w (by show n < 1000 + 0; omega) (Nat.zero_le _) ⟨0, S, ⟨rfl, hA.symm⟩, ⟨h, hS, hL⟩, OffM.rf⟩
  intro i v w2 hi hI
  obtain ⟨came, S2, ⟨rfl, hA'⟩, ⟨i1, i2, i3'⟩, i4'⟩ := hI
  obtain ⟨s1, s2, s3, s4, s5, s6, s7, s8, s9, s10, s11, s12, s13⟩ := i1.sh hs
  by_cases hlt : i < n
  · have hni : n - i = (n - (i + 1)) + 1 := by omega
    rw [hni, bbF] at hA'
    by_cases hp : f + 2 * i + 2 ≤ L.length
    · rw [if_pos hp] at hA'
      have e1 := hasPlace_1 (i := f + 2 * i) i1 hs (by rw [i3']; exact h40) (by rw [i3']; omega)
      have e2 := hasPlace_1 (i := f + 2 * i + 1) i1 hs (by rw [i3']; exact h40) (by rw [i3']; omega)
      have g1 : wi w2 (68 + 2 * s) (f + 2 * i) = L.getD (f + 2 * i) 0 := s13 _ _ (by rw [i3']; exact getD_at (by omega))
      have g2 : wi w2 (68 + 2 * s) (f + 2 * i + 1) = L.getD (f + 2 * i + 1) 0 := s13 _ _ (by rw [i3']; exact getD_at (by omega))
      obtain ⟨w3, b1, b2, b3⟩ := letIn_c (L.getD (f + 2 * i) 0) (L.getD (f + 2 * i + 1) 0) i1 i2.1.1
      refine Or.inr ⟨hlt, _, w3, ⟨_, _, ⟨rfl, hA'⟩, ⟨b2, newA_si _ _ i2, ?_⟩, i4'.tr b3⟩, fun k => ?_⟩
      · rw [← i3']
        unfold rowL
        rw [newA_2]
      · unfold b5_bathersBy_70
        dsimp only
        rw [if_neg (nI_ge hlt (by omega)), ck_pos s5, e1, Option.bind_some, if_neg (show ¬ (1 : Int32) = 0 by decide)]
        dsimp only
        rw [i3_1, e2, Option.bind_some, if_neg (show ¬ (1 : Int32) = 0 by decide)]
        dsimp only
        rw [ck_pos i1.t, s6, s8, ck_pos (And.intro s7 (vin (show f + 2 * i < 40 by omega) (by decide))), ck_pos (vin (show f + 2 * i + 1 < 40 by omega) (by decide)), i1.r3, ck_pos i1.t42, nI_clamp (by omega), nI_clamp (by omega), g1, g2, b1, Option.bind_some]
        dsimp only
        unfold j5_bathersBy_133
        rw [i3_2, i3_1, show f + 2 * i + 2 = f + 2 * (i + 1) by omega]
        split <;> rfl
    · rw [if_neg hp] at hA'
      refine Or.inl fun k => ⟨w2, ?_, by rw [hA']; exact i1, i4'⟩
      unfold b5_bathersBy_70
      dsimp only
      rw [if_neg (nI_ge hlt (by omega)), ck_pos s5, hA']
      by_cases h1 : f + 2 * i < L.length
      · rw [hasPlace_1 (i := f + 2 * i) i1 hs (by rw [i3']; exact h40) (by rw [i3']; omega), Option.bind_some, if_neg (show ¬ (1 : Int32) = 0 by decide)]
        dsimp only
        rw [i3_1, hasPlace_0 i1 hs (Or.inr (by rw [i3', ile, nI_int (by omega), nI_int (by omega)]; omega)), Option.bind_some, if_pos rfl]
      · rw [hasPlace_0 i1 hs (Or.inr (by rw [i3', ile, nI_int (by omega), nI_int (by omega)]; omega)), Option.bind_some, if_pos rfl]
  · have e : i = n := by omega
    subst e
    rw [Nat.sub_self, bbF] at hA'
    refine Or.inl fun k => ⟨w2, ?_, by rw [hA']; exact i1, i4'⟩
    unfold b5_bathersBy_70
    dsimp only
    rw [if_pos (Int32.le_refl _), hA']
theorem two_i (i : Nat) : (2 : Int32) * nI i = nI (2 * i) := by rw [← nI_mul]; rfl
theorem by_r {S : SS} {w : Wd} {s f n : Nat} (h : RM S w) (hS : SI S) (hs : s < 4) (hf : f ≤ 40) (hn : n ≤ 6) : ∃ w', loopF b6_bathersBy_64 FU (75, nI s, nI f, nI n, (0 : Int32), (0 : Int32)) w = some ((bbF (rowL S s) f n 0 0 S).1, w') ∧ RM (bbF (rowL S s) f n 0 0 S).2 w' ∧ OffC w w' := by
  have h40 := rowL_40 hS hs
  generalize hL : rowL S s = L at h40
  generalize hA : bbF L f n 0 0 S = A
  refine loopI (R := fun o => ∃ w', o = some (A.1, w') ∧ RM A.2 w' ∧ OffC w w') (I := fun i v w2 => ∃ came S2, (v = (75, nI s, nI f, nI n, came, nI i) ∧ A = bbF L f (n - i) i came S2) ∧ (RM S2 w2 ∧ SI S2 ∧ rowL S2 s = L) ∧ OffC w w2) n ?_ FU 0 _ w (by show n < 1000 + 0; omega) (Nat.zero_le _) ⟨0, S, ⟨rfl, hA.symm⟩, ⟨h, hS, hL⟩, OffC.rf⟩
  intro i v w2 hi hI
  obtain ⟨came, S2, ⟨rfl, hA'⟩, ⟨i1, i2, i3'⟩, i4'⟩ := hI
  obtain ⟨s1, s2, s3, s4, s5, s6⟩ := i1.sh hs
  have a1 := i1.1.1
  have el : (nI L.length - 2).toInt = (L.length : Int) - 2 := by rw [isub] <;> rw [nI_int (by omega), show (2 : Int32).toInt = 2 from rfl] <;> omega
  by_cases hlt : i < n
  · have hni : n - i = (n - (i + 1)) + 1 := by omega
    rw [hni, bbF] at hA'
    have pre : ∀ k, b6_bathersBy_64 k (75, nI s, nI f, nI n, came, nI i) w2 = if f + 2 * i + 2 ≤ L.length then ((f6_bather 75 (L.getD (f + 2 * i) 0) (L.getD (f + 2 * i + 1) 0) w2).bind fun z26 => (if z26.1 < (0 : Int32) then k (75, nI s, nI f, nI n, came, nI (i + 1)) z26.2 else k (75, nI s, nI f, nI n, came + 1, nI (i + 1)) z26.2)) else some (-12, w2) := by
      intro k
      unfold b6_bathersBy_64 j6_bathersBy_144
      dsimp only
      rw [if_neg (nI_ge hlt (by omega)), if_neg (by rw [ilt, nI_int (by omega), show (0 : Int32).toInt = 0 from rfl]; omega), two_i, nI_add, if_neg (by rw [ilt, nI_int (by omega), nI_int (by omega)]; omega), ck_pos a1.t, a1.r15, ck_pos s2, s3, s5, i3']
      by_cases hp : f + 2 * i + 2 ≤ L.length
      · have g1 : wi w2 87 (40 * s + (f + 2 * i)) = L.getD (f + 2 * i) 0 := s6 _ _ (by rw [i3']; exact getD_at (by omega))
        have g2 : wi w2 87 (40 * s + (f + 2 * i) + 1) = L.getD (f + 2 * i + 1) 0 := s6 (f + 2 * i + 1) _ (by rw [i3']; exact getD_at (by omega))
        rw [if_pos (by rw [ile, el, nI_int (by omega)]; omega), if_pos hp, a1.r16, a1.l16, i40, nI_add, i3_1, ck_pos (And.intro a1.t16 (vin (show 40 * s + (f + 2 * i) < 160 by omega) (by decide))), ck_pos (vin (show 40 * s + (f + 2 * i) + 1 < 160 by omega) (by decide)), nI_clamp (by omega), nI_clamp (by omega), g1, g2, Int32.add_zero, i3_1]
      · rw [if_neg (by rw [ile, el, nI_int (by omega)]; omega), if_neg hp]
    by_cases hp : f + 2 * i + 2 ≤ L.length
    · rw [if_pos hp] at hA'
      obtain ⟨w3, b1, b2, b3⟩ := bather_r (L.getD (f + 2 * i) 0) (L.getD (f + 2 * i + 1) 0) i1 i2.1.1
      refine Or.inr ⟨hlt, _, w3, ⟨_, _, ⟨rfl, hA'⟩, ⟨b2, newA_si _ _ i2, ?_⟩, i4'.tr b3⟩, fun k => ?_⟩
      · rw [← i3']
        unfold rowL
        rw [newA_2]
      · rw [pre, if_pos hp, b1, Option.bind_some]
        dsimp only
        split <;> rfl
    · rw [if_neg hp] at hA'
      exact Or.inl fun k => ⟨w2, by rw [pre, if_neg hp, hA'], by rw [hA']; exact i1, i4'⟩
  · have e : i = n := by omega
    subst e
    rw [Nat.sub_self, bbF] at hA'
    refine Or.inl fun k => ⟨w2, ?_, by rw [hA']; exact i1, i4'⟩
    unfold b6_bathersBy_64
    dsimp only
    rw [if_pos (Int32.le_refl _), hA']
theorem bathersBy_pair (x so f n : Int32) : Pair (f5_bathersBy 32 x so f n) (f6_bathersBy 75 x so f n) := pair_of fun S hS => by
  rcases sheet_case x with ⟨s, hs, rfl, e⟩ | e
  · rcases within2 so 0 2 with ⟨ho, eo⟩ | ⟨ho, eo⟩
    · rcases within2 n 0 6 with ⟨hn, en⟩ | ⟨hn, en⟩
      · obtain ⟨N, hN, rfl⟩ := upto n (m := 6) rfl (by decide) hn
        have h40 := rowL_40 hS hs
        have cc : ∀ {w}, RC S w → f5_bathersBy 32 (nI s) so f (nI N) w = if (S.2.2.2.2 s).1 = -1 then some (-11, w) else if (S.2.2.2.2 s).1 = so then loopF b5_bathersBy_70 FU (32, nI N, 67 + 2 * s, (0 : Int32), f, (0 : Int32)) w else some (-13, w) := by
          intro w h
          obtain ⟨s1, s2, s3, s4, s5, s6, s7, s8, s9, s10, s11, s12, s13⟩ := h.sh hs
          unfold f5_bathersBy
          rw [(e w).1, Option.bind_some, if_neg (show ¬ (1 : Int32) = 0 by decide)]
          dsimp only
          rw [(eo w).2, Option.bind_some, if_neg (show ¬ (1 : Int32) = 0 by decide)]
          dsimp only
          rw [(en w).2, Option.bind_some, if_neg (show ¬ (1 : Int32) = 0 by decide)]
          dsimp only
          rw [ck_pos h.t, s1, s3, ck_pos (And.intro s2 s9), s10, s4, ck_pos s5, missing_c h hs, Option.bind_some]
          dsimp only
          by_cases hm : (S.2.2.2.2 s).1 = -1
          · rw [if_pos hm, if_pos hm, if_neg (show ¬ (1 : Int32) = 0 by decide)]
          · rw [if_neg hm, if_neg hm, if_pos rfl, s11]
        have rr : ∀ {w}, RM S w → f6_bathersBy 75 (nI s) so f (nI N) w = if (S.2.2.2.2 s).1 = -1 then some (-11, w) else if (S.2.2.2.2 s).1 = so then loopF b6_bathersBy_64 FU (75, nI s, f, nI N, (0 : Int32), (0 : Int32)) w else some (-13, w) := by
          intro w h
          obtain ⟨s1, s2, s3, s4, s5, s6⟩ := h.sh hs
          unfold f6_bathersBy
          rw [(e w).2, Option.bind_some, if_neg (show ¬ (1 : Int32) = 0 by decide)]
          dsimp only
          rw [(eo w).1, Option.bind_some, if_neg (show ¬ (1 : Int32) = 0 by decide)]
          dsimp only
          rw [(en w).1, Option.bind_some, if_neg (show ¬ (1 : Int32) = 0 by decide)]
          dsimp only
          rw [ck_pos h.1.1.t, h.1.1.r14, ck_pos s1, ck_pos s1.2, s3, s4]
        by_cases hm : (S.2.2.2.2 s).1 = -1
        · exact ⟨(-11, S), fun w h => ⟨w, by rw [cc h, if_pos hm], h, OffM.rf⟩, fun w h => ⟨w, by rw [rr h, if_pos hm], h, OffC.rf⟩, hS⟩
        by_cases hso : (S.2.2.2.2 s).1 = so
        · rcases lcase f h40 with ⟨k, hk, rfl⟩ | hf
          · refine ⟨bbF (rowL S s) k N 0 0 S, fun w h => ?_, fun w h => ?_, bbF_si _ _ _ _ _ _ hS⟩
            · rw [cc h, if_neg hm, if_pos hso]
              exact by_c h hS hs (by omega) hN
            · rw [rr h, if_neg hm, if_pos hso]
              exact by_r h hS hs (by omega) hN
          · by_cases hN0 : N = 0
            · subst hN0
              refine ⟨(0, S), fun w h => ⟨w, ?_, h, OffM.rf⟩, fun w h => ⟨w, ?_, h, OffC.rf⟩, hS⟩
              · rw [cc h, if_neg hm, if_pos hso]
                show b5_bathersBy_70 (loopF b5_bathersBy_70 999) _ _ = _
                unfold b5_bathersBy_70
                dsimp only
                rw [if_pos (by decide)]
              · rw [rr h, if_neg hm, if_pos hso]
                show b6_bathersBy_64 (loopF b6_bathersBy_64 999) _ _ = _
                unfold b6_bathersBy_64
                dsimp only
                rw [if_pos (by decide)]
            · have hn0 : ¬ nI N ≤ 0 := nI_ge (a := 0) (b := N) (by omega) (by omega)
              refine ⟨(-12, S), fun w h => ⟨w, ?_, h, OffM.rf⟩, fun w h => ⟨w, ?_, h, OffC.rf⟩, hS⟩
              · rw [cc h, if_neg hm, if_pos hso]
                show b5_bathersBy_70 (loopF b5_bathersBy_70 999) _ _ = _
                unfold b5_bathersBy_70
                dsimp only
                rw [if_neg hn0, ck_pos (h.sh hs).2.2.2.2.1, hasPlace_0 h hs hf, Option.bind_some, if_pos rfl]
              · obtain ⟨s1, s2, s3, s4, s5, s6⟩ := h.sh hs
                have el : (nI (rowL S s).length - 2).toInt = ((rowL S s).length : Int) - 2 := by rw [isub] <;> rw [nI_int (by omega), show (2 : Int32).toInt = 2 from rfl] <;> omega
                rw [rr h, if_neg hm, if_pos hso]
                show b6_bathersBy_64 (loopF b6_bathersBy_64 999) _ _ = _
                unfold b6_bathersBy_64
                dsimp only
                rw [if_neg hn0]
                by_cases hf0 : f < 0
                · rw [if_pos hf0]
                · rw [if_neg hf0, show f + 2 * (0 : Int32) = f by rw [Int32.mul_zero, Int32.add_zero], if_neg (fun q => Int32.lt_irrefl q), ck_pos h.1.1.t, h.1.1.r15, ck_pos s2, s3, s5, if_neg]
                  have := hf.resolve_left hf0
                  rw [ile, nI_int (by omega)] at this
                  rw [ile, el]
                  omega
        · exact ⟨(-13, S), fun w h => ⟨w, by rw [cc h, if_neg hm, if_neg hso], h, OffM.rf⟩, fun w h => ⟨w, by rw [rr h, if_neg hm, if_neg hso], h, OffC.rf⟩, hS⟩
      · refine ⟨(-2, S), fun w h => ⟨w, ?_, h, OffM.rf⟩, fun w h => ⟨w, ?_, h, OffC.rf⟩, hS⟩
        · unfold f5_bathersBy
          rw [(e w).1, Option.bind_some, if_neg (show ¬ (1 : Int32) = 0 by decide)]
          dsimp only
          rw [(eo w).2, Option.bind_some, if_neg (show ¬ (1 : Int32) = 0 by decide)]
          dsimp only
          rw [(en w).2, Option.bind_some, if_pos rfl]
        · unfold f6_bathersBy
          rw [(e w).2, Option.bind_some, if_neg (show ¬ (1 : Int32) = 0 by decide)]
          dsimp only
          rw [(eo w).1, Option.bind_some, if_neg (show ¬ (1 : Int32) = 0 by decide)]
          dsimp only
          rw [(en w).1, Option.bind_some, if_pos rfl]
    · refine ⟨(-2, S), fun w h => ⟨w, ?_, h, OffM.rf⟩, fun w h => ⟨w, ?_, h, OffC.rf⟩, hS⟩
      · unfold f5_bathersBy
        rw [(e w).1, Option.bind_some, if_neg (show ¬ (1 : Int32) = 0 by decide)]
        dsimp only
        rw [(eo w).2, Option.bind_some, if_pos rfl]
      · unfold f6_bathersBy
        rw [(e w).2, Option.bind_some, if_neg (show ¬ (1 : Int32) = 0 by decide)]
        dsimp only
        rw [(eo w).1, Option.bind_some, if_pos rfl]
  · refine ⟨(-2, S), fun w h => ⟨w, ?_, h, OffM.rf⟩, fun w h => ⟨w, ?_, h, OffC.rf⟩, hS⟩
    · unfold f5_bathersBy
      rw [(e w).1, Option.bind_some, if_pos rfl]
    · unfold f6_bathersBy
      rw [(e w).2, Option.bind_some, if_pos rfl]
