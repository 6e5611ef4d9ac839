/-! text(): both sides -/
/-- what the call leaves of the reference's rows -/
def XF (n : Nat) (w w' : Wd) : Prop := Fr (fun q => q = 75 ∨ q = 81 ∨ q = 90 ∨ q = 82) w w' ∧ (∀ q, wr w' q = wr w q) ∧ (∀ k, ¬ (18 ≤ k ∧ k ≤ 21) → ¬ (24 ≤ k ∧ k ≤ 26) → k ≠ 6 → k ≠ 9 → wi w' 75 k = wi w 75 k) ∧ (∀ j, j < 200 * n → wi w' 81 j = wi w 81 j) ∧ ∀ j, j < 4 * n → wi w' 82 j = wi w 82 j
theorem TF.xf {n : Nat} {w w' : Wd} (h : TF n w w') : XF n w w' := ⟨h.1, h.2.1, fun k x y _ _ => h.2.2.1 k x y, h.2.2.2⟩
theorem XF.tr {n : Nat} {a b c : Wd} (h1 : XF n a b) (h2 : XF n b c) : XF n a c := ⟨h1.1.tr h2.1, fun q => (h2.2.1 q).trans (h1.2.1 q), fun k x y z1 z2 => (h2.2.2.1 k x y z1 z2).trans (h1.2.2.1 k x y z1 z2), fun j x => (h2.2.2.2.1 j x).trans (h1.2.2.2.1 j x), fun j x => (h2.2.2.2.2 j x).trans (h1.2.2.2.2 j x)⟩
theorem xf75 {n k : Nat} {w : Wd} {v : Int32} (h : k = 6 ∨ k = 9) : XF n w (sI w 75 k v) := ⟨Fr.sI (Or.inl rfl), fun _ => rfl, fun j x y z1 z2 => by rw [wi_sI, if_neg (fun z => by have := z.2; omega)], fun j _ => wi_sI_ne (by decide) j, fun j _ => wi_sI_ne (by decide) j⟩
theorem XF.pm {n t : Nat} {w w' : Wd} {F B G : List Int32} (h : XF n w w') (ht : t < n) (hp : ProgM w t F B G) : ProgM w' t F B G := by
  obtain ⟨p1, p2, p3, p4, p5, p6, p7⟩ := hp
  obtain ⟨_, _, _, h81, h82⟩ := h
  refine ⟨p1, by rw [h82 _ (by omega)]; exact p2, by rw [h82 _ (by omega)]; exact p3, by rw [h82 _ (by omega)]; exact p4, by rw [h82 _ (by omega)]; exact p5, fun j c hc => ?_, p7⟩
  have hj := (List.getElem?_eq_some_iff.mp hc).1
  rw [h81 _ (by omega)]
  exact p6 j c hc
theorem rmX {S : SS} {w w' : Wd} (h : RM S w) (hS : SI S) (hF : XF S.2.1.length w w') (h6 : wi w' 75 6 = 0) (h9 : wi w' 75 9 = nI S.2.1.length) : RM (tpS S []) w' := by
  obtain ⟨⟨l1, a2, a3, a4, a5, a6, a7, a8, a9⟩, ⟨b1, b2⟩, ⟨c1, c2⟩, ⟨d1, d2⟩, e1⟩ := h
  have n : ∀ q, ¬ (q = 75 ∨ q = 81 ∨ q = 90 ∨ q = 82) → ∀ k, wi w' q k = wi w q k := fun q hq => (hF.1.2.2 q hq).1
  have g := fun k (z : ¬ (18 ≤ k ∧ k ≤ 21)) (z2 : ¬ (24 ≤ k ∧ k ≤ 26)) (z3 : k ≠ 6) (z4 : k ≠ 9) => hF.2.2.1 k z z2 z3 z4
  refine ⟨⟨l1.same hF.1.1 hF.2.1, by rw [g 0 (by decide) (by decide) (by decide) (by decide)]; exact a2, a3, fun k hk' => by rw [n 79 (by decide)]; exact a4 k hk', fun b hb => by simp only [n 76 (by decide), n 77 (by decide), n 78 (by decide)]; exact a5 b hb, by rw [g 10 (by decide) (by decide) (by decide) (by decide)]; exact a6, hF.pm hS.1.2.1 a7, a8, a9⟩, ⟨h9, fun t ht => hF.pm ht (b2 t ht)⟩, ⟨h6, fun j b hb => by have z : ([] : List Int32)[j]? = some b := hb; simp at z⟩, ⟨by rw [g 11 (by decide) (by decide) (by decide) (by decide)]; exact d1, fun c hc => by simp only [n 83 (by decide), n 84 (by decide)]; exact d2 c hc⟩, fun s hs => by simp only [n 85 (by decide), n 86 (by decide), n 87 (by decide)]; exact e1 s hs⟩
theorem rmN {S : SS} {w w' : Wd} {p : PG} (h : RM S w) (hS : SI S) (hF : XF S.2.1.length w w') (h6 : wi w' 75 6 = 0) (h9 : wi w' 75 9 = nI (S.2.1.length + 1)) (hp : ProgM w' S.2.1.length p.1 p.2.1 p.2.2) : RM (newT (tpS S []) p) w' := by
  obtain ⟨⟨l1, a2, a3, a4, a5, a6, a7, a8, a9⟩, ⟨b1, b2⟩, ⟨c1, c2⟩, ⟨d1, d2⟩, e1⟩ := h
  have n : ∀ q, ¬ (q = 75 ∨ q = 81 ∨ q = 90 ∨ q = 82) → ∀ k, wi w' q k = wi w q k := fun q hq => (hF.1.2.2 q hq).1
  have g := fun k (z : ¬ (18 ≤ k ∧ k ≤ 21)) (z2 : ¬ (24 ≤ k ∧ k ≤ 26)) (z3 : k ≠ 6) (z4 : k ≠ 9) => hF.2.2.1 k z z2 z3 z4
  have hlt := hS.1.2.1
  have eo : pgs (newT (tpS S []) p).2.1 S.1.2.2 = pgs S.2.1 S.1.2.2 := pgs_old hlt
  refine ⟨⟨l1.same hF.1.1 hF.2.1, by rw [g 0 (by decide) (by decide) (by decide) (by decide)]; exact a2, a3, fun k hk' => by rw [n 79 (by decide)]; exact a4 k hk', fun b hb => by simp only [n 76 (by decide), n 77 (by decide), n 78 (by decide)]; exact a5 b hb, by rw [g 10 (by decide) (by decide) (by decide) (by decide)]; exact a6, ?_, ?_, ?_⟩, ⟨?_, fun t ht => ?_⟩, ⟨h6, fun j b hb => by have z : ([] : List Int32)[j]? = some b := hb; simp at z⟩, ⟨by rw [g 11 (by decide) (by decide) (by decide) (by decide)]; exact d1, fun c hc => by simp only [n 83 (by decide), n 84 (by decide)]; exact d2 c hc⟩, fun s hs => by simp only [n 85 (by decide), n 86 (by decide), n 87 (by decide)]; exact e1 s hs⟩
  · show ProgM w' S.1.2.2 (pgs (newT (tpS S []) p).2.1 S.1.2.2).1 (pgs (newT (tpS S []) p).2.1 S.1.2.2).2.1 (pgs (newT (tpS S []) p).2.1 S.1.2.2).2.2
    rw [eo]
    exact hF.pm hlt a7
  · show okP (pgs (newT (tpS S []) p).2.1 S.1.2.2).1 0 ∧ okP (pgs (newT (tpS S []) p).2.1 S.1.2.2).2.1 0 ∧ okP (pgs (newT (tpS S []) p).2.1 S.1.2.2).2.2 0
    rw [eo]
    exact a8
  · show ∀ c ∈ (pgs (newT (tpS S []) p).2.1 S.1.2.2).1 ++ (pgs (newT (tpS S []) p).2.1 S.1.2.2).2.1 ++ (pgs (newT (tpS S []) p).2.1 S.1.2.2).2.2, okC c
    rw [eo]
    exact a9
  · rw [h9]
    show _ = nI (S.2.1 ++ [p]).length
    rw [List.length_append]
    rfl
  · have ht2 : t < (S.2.1 ++ [p]).length := ht
    rw [List.length_append] at ht2
    have ht3 : t < S.2.1.length + 1 := ht2
    show ProgM w' t (pgs (S.2.1 ++ [p]) t).1 (pgs (S.2.1 ++ [p]) t).2.1 (pgs (S.2.1 ++ [p]) t).2.2
    by_cases h2 : t < S.2.1.length
    · rw [pgs_old h2]
      exact hF.pm h2 (b2 t h2)
    · have e : t = S.2.1.length := by omega
      subst e
      rw [pgs_new]
      exact hp
theorem text_r {S : SS} {w : Wd} (h : RM S w) (hS : SI S) (hW : W89 w) (hok : (mT (tkV S.2.2.1)).1 = true → okPG (pgT (mT (tkV S.2.2.1)))) : ∃ w', f6_text 75 w = some ((txA S).1, w') ∧ RM (txA S).2 w' ∧ OffC w w' := by
  have hL := h.1.1
  have h9 := h.2.1.1
  have hn := hS.2.1
  unfold f6_text
  rw [ck_pos hL.t, h9]
  unfold txA
  by_cases h6 : S.2.1.length = 6
  · rw [if_pos h6, if_pos (show nI S.2.1.length = 6 by rw [h6]; rfl)]
    exact ⟨w, rfl, h, OffC.rf⟩
  rw [if_neg h6, if_neg (show ¬ nI S.2.1.length = 6 from fun z => h6 (nI_inj (a := S.2.1.length) (b := 6) (by omega) (by omega) z))]
  have F0 : TF S.2.1.length w (sI (sI w 75 18 0) 75 26 0) := (tf75 (Or.inl ⟨by decide, by decide⟩)).tr (tf75 (Or.inr ⟨by decide, by decide⟩))
  have L0 : LayM (sI (sI w 75 18 0) 75 26 0) := hL.same F0.1.1 F0.2.1
  have M0 : MS S.2.2.1 S.2.1.length (sI (sI w 75 18 0) 75 26 0) 0 := by
    refine ⟨L0, ⟨by rw [F0.2.2.1 6 (by decide) (by decide)]; exact h.2.2.1.1, hS.2.2.1.1, fun j b hb => by rw [(F0.1.2.2 80 (by decide)).1]; exact h.2.2.1.2 j b hb⟩, fun k hk => by rw [(F0.1.2.2 89 (by decide)).1]; exact hW k hk, ⟨by rw [F0.2.2.1 9 (by decide) (by decide)]; exact h9, by omega⟩, ?_, Nat.zero_le _⟩
    rw [wi_sI, if_neg (fun z => absurd z.2 (by decide)), wi_at]
    rfl
  have A0 : At S.2.2.1 S.2.1.length (sI (sI w 75 18 0) 75 26 0) 0 (tkF S.2.2.1 0) := ⟨M0, Or.inl rfl, rfl, [], rfl⟩
  have O0 : RO S.2.1.length (sI (sI w 75 18 0) 75 26 0) [] := ⟨⟨L0, M0.2.2.2.1.1, by omega⟩, wi_at _ _ _ _, fun j x hx => by simp at hx⟩
  obtain ⟨w1, ok, e1, F1, g1, g2⟩ := text_go A0 O0
  have F2 := F0.tr F1
  have L1 : LayM w1 := hL.same F2.1.1 F2.2.1
  have n9 : wi w1 75 9 = nI S.2.1.length := by rw [F2.2.2.1 9 (by decide) (by decide)]; exact h9
  have e4 : (4 : Int32) * nI S.2.1.length + 3 = nI (4 * S.2.1.length + 3) := by rw [show (4 : Int32) = nI 4 from rfl, nI_mul, show (3 : Int32) = nI 3 from rfl, nI_add]
  have F3 : XF S.2.1.length w (sI (sI w1 82 (4 * S.2.1.length + 3) (wi w1 75 26)) 75 6 0) := (F2.tr (tf82 (by omega))).xf.tr (xf75 (Or.inl rfl))
  have q9 : wi (sI (sI w1 82 (4 * S.2.1.length + 3) (wi w1 75 26)) 75 6 0) 75 9 = nI S.2.1.length := by
    rw [wi_sI, if_neg (fun z => absurd z.2 (by decide)), wi_sI_ne (by decide)]
    exact n9
  have q19 : wi (sI (sI w1 82 (4 * S.2.1.length + 3) (wi w1 75 26)) 75 6 0) 75 19 = wi w1 75 19 := by
    rw [wi_sI, if_neg (fun z => absurd z.2 (by decide)), wi_sI_ne (by decide)]
  have e122 : ∀ x, j6_text_122 75 x w1 = (if x = (0 : Int32) then (some (((-100 : Int32) - (wi w1 75 19)), sI (sI w1 82 (4 * S.2.1.length + 3) (wi w1 75 26)) 75 6 0)) else some (nI S.2.1.length, sI (sI (sI w1 82 (4 * S.2.1.length + 3) (wi w1 75 26)) 75 6 0) 75 9 (nI (S.2.1.length + 1)))) := by
    intro x
    unfold j6_text_122 lw
    rw [ck_pos L1.t, L1.r8, n9, e4, L1.l8, ck_pos (And.intro L1.t8 (vin (show 4 * S.2.1.length + 3 < 24 by omega) (by decide))), nI_clamp (by omega)]
    dsimp only
    rw [q9, q19, i3_1, wi_at, ni1]
  have offC : ∀ {w'}, XF S.2.1.length w w' → OffC w w' := fun hX => hX.1.offC fun q z => by rcases z with z | z | z | z <;> (subst z; decide)
  have pre : (lw (sI w 75 18 (0 : Int32)) fun w3 => (lw (sI w3 75 26 (0 : Int32)) fun w5 => (loopF (b6_text_26) FU (75, (1 : Int32), (0 : Int32)) w5))) = j6_text_122 75 (if ok = true then 1 else 0) w1 := e1
  rw [pre, e122]
  cases ok with
  | true =>
    rw [if_pos g1.symm, if_pos rfl, if_neg n10]
    rw [if_pos rfl] at g2
    obtain ⟨c1, d1, d2, m, o, z0, z1, z2⟩ := g2
    have F4 := F3.tr (xf75 (k := 9) (v := nI (S.2.1.length + 1)) (Or.inr rfl))
    have hpg := hok g1.symm
    have ep : pgT (mT (tkV S.2.2.1)) = (c1, d1, d2) := by
      rw [m]
      unfold pgT
      dsimp only
      rw [List.drop_left, List.drop_left]
    rw [ep] at hpg ⊢
    refine ⟨_, rfl, rmN h hS F4 ?_ (wi_at _ _ _ _) ?_, offC F4⟩
    · rw [wi_sI, if_neg (fun z => absurd z.2 (by decide)), wi_at]
    · have g82 : ∀ i, i ≠ 4 * S.2.1.length + 3 → wi (sI (sI (sI w1 82 (4 * S.2.1.length + 3) (wi w1 75 26)) 75 6 0) 75 9 (nI (S.2.1.length + 1))) 82 i = wi w1 82 i := fun i hi => by
        rw [wi_sI_ne (by decide), wi_sI_ne (by decide), wi_sI, if_neg (fun z => hi z.2)]
      refine ⟨by omega, by rw [g82 _ (by omega)]; exact z0, by rw [g82 _ (by omega)]; exact z1, by rw [g82 _ (by omega)]; exact z2, ?_, fun j x hx => ?_, hpg.2.2⟩
      · rw [wi_sI_ne (by decide), wi_sI_ne (by decide), wi_at]
        exact o.2.1
      · rw [wi_sI_ne (by decide), wi_sI_ne (by decide), wi_sI_ne (by decide)]
        exact o.2.2 j x hx
  | false =>
    rw [if_neg (show ¬ (mT (tkV S.2.2.1)).1 = true by rw [← g1]; decide), if_neg nft, if_pos rfl]
    rw [if_neg nft] at g2
    rw [g2]
    exact ⟨_, rfl, rmX h hS F3 (wi_at _ _ _ _) q9, offC F3⟩
theorem okCO.up {T : List PG} {p : PG} {c : CO} (h : okCO T c) : okCO (T ++ [p]) c := ⟨h.1, by rw [List.length_append]; exact Nat.lt_of_lt_of_le h.2.1 (Nat.le_add_right _ _), h.2.2⟩
theorem SI_tx {S : SS} (hS : SI S) (hok : (mT (tkV S.2.2.1)).1 = true → okPG (pgT (mT (tkV S.2.2.1)))) : SI (txA S).2 := by
  unfold txA
  have nilb : ∀ b ∈ ([] : List Int32), rng b 0 255 := fun b hb => absurd hb List.not_mem_nil
  by_cases h6 : S.2.1.length = 6
  · rw [if_pos h6]
    exact hS
  rw [if_neg h6]
  obtain ⟨s1, ⟨s2, s3, s4⟩, s5, s6, s7⟩ := hS
  by_cases hm : (mT (tkV S.2.2.1)).1 = true
  · rw [if_pos hm]
    refine ⟨s1.up, ⟨?_, ?_, fun t ht => ?_⟩, ⟨Nat.zero_le _, nilb⟩, fun c hc => ⟨(s6 c hc).1.up, (s6 c hc).2⟩, s7⟩
    · show 1 ≤ (S.2.1 ++ [pgT (mT (tkV S.2.2.1))]).length
      rw [List.length_append]; omega
    · show (S.2.1 ++ [pgT (mT (tkV S.2.2.1))]).length ≤ 6
      rw [List.length_append]
      show S.2.1.length + 1 ≤ 6
      omega
    · have ht2 : t < (S.2.1 ++ [pgT (mT (tkV S.2.2.1))]).length := ht
      rw [List.length_append] at ht2
      have ht3 : t < S.2.1.length + 1 := ht2
      show okPG (pgs (S.2.1 ++ [pgT (mT (tkV S.2.2.1))]) t)
      by_cases h2 : t < S.2.1.length
      · rw [pgs_old h2]
        exact s4 t h2
      · have e : t = S.2.1.length := by omega
        subst e
        rw [pgs_new]
        exact hok hm
  · rw [if_neg hm]
    exact ⟨s1, ⟨s2, s3, s4⟩, ⟨Nat.zero_le _, nilb⟩, s6, s7⟩
theorem text_pair : Pair (f5_text 32) (f6_text 75) := by
  intro S w hS hC hM hW
  obtain ⟨w1, a1, a2, a3, hok⟩ := text_c hC hS
  obtain ⟨w2, b1, b2, b3⟩ := text_r (hM.keep a3) hS (hW.m a3) hok
  exact ⟨(txA S).1, w1, w2, (txA S).2, a1, b1, SI_tx hS hok, a2.keep b3, b2, (hW.m a3).c b3, (hM.keep a3).1.1.t⟩
