/-! image, back -/
theorem LayC.same {w w' : Wd} (h : LayC w) (h1 : ∀ q, sh w' q = sh w q) (h2 : ∀ q, wr w' q = wr w q) : LayC w' := by
  unfold LayC HutS at h ⊢
  simp only [h1, h2]
  exact h
theorem HutA.frP {P : Nat → Prop} {w w' : Wd} {a : Nat} {c : CO} {T : List PG} (h : HutA w a c T) (hT : TextsC w T) (hF : Fr P w w') (ha : ∀ q, a ≤ q → q < a + 8 → ¬ P q) (ht : ∀ t j, j < 2 → ¬ P (txL t + j)) : HutA w' a c T := by
  obtain ⟨h1, h2, h3⟩ := h
  obtain ⟨t1, t2, t3, t4, t5⟩ := hT.2.2 c.2.2 h3
  refine ⟨(h1.fr hF ha (by rw [h2]; exact ht _ 0 (by decide)) (by rw [h2, t4]; exact ht _ 1 (by decide))).1, ?_, h3⟩
  rw [(hF.2.2 a (ha a (Nat.le_refl _) (by omega))).2]
  exact h2
theorem TextsC.frP {P : Nat → Prop} {w w' : Wd} {T : List PG} (h : TextsC w T) (hF : Fr P w w') (ht : ∀ t j, j < 2 → ¬ P (txL t + j)) (h32 : wi w' 32 2 = wi w 32 2) (h41 : ∀ k, wr w' 41 k = wr w 41 k) : TextsC w' T := by
  refine ⟨by rw [h32]; exact h.1, by rw [hF.2.1]; exact h.2.1, fun t hh => ?_⟩
  obtain ⟨u1, u2, u3, u4, u5⟩ := h.2.2 t hh
  have e := hF.2.2 (txL t) (ht t 0 (by decide))
  exact ⟨by rw [h41]; exact u1, by rw [e.1]; exact u2, u3.fr hF (ht t 0 (by decide)) (by rw [u4]; exact ht t 1 (by decide)), by rw [e.2]; exact u4, by rw [e.2]; exact u5⟩
theorem tx58 (t j : Nat) (hj : j < 2) : ¬ inH 58 (txL t + j) := by
  unfold inH txL
  split <;> omega
theorem tx32 (t j : Nat) (hj : j < 2) : ¬ (fun q => q = 32) (txL t + j) := by
  unfold txL
  split <;> (show ¬ _ = 32; omega)
def imgS (S : SS) : SS := (S.1, S.2.1, S.2.2.1, some S.1, S.2.2.2.2)
theorem RC.img {S : SS} {w w' : Wd} (h : RC S w) (hF : Fr (inH 58) w w') (hA : HutA w' 58 S.1 S.2.1) : RC (imgS S) (sI w' 32 6 1) := by
  obtain ⟨⟨⟨l1, l2, l3, l4, l5, l6, l7⟩, ⟨m1, m2, m3, m4, m5, m6, m7, m8, m9⟩, ⟨n1, n2⟩, ⟨h1, h2, h3⟩, s1⟩, a1, t1, ⟨p1, p2⟩, ⟨i1, i2⟩, c1⟩ := h
  have g : ∀ q, ¬ inH 58 q → (∀ k, wi w' q k = wi w q k) ∧ ∀ k, wr w' q k = wr w q k := hF.2.2
  have hs : ∀ a, (∀ q, a ≤ q → q < a + 8 → ¬ inH 58 q) → HutS w a → HutS w' a := by
    intro a ha ⟨x1, x2, x3, x4⟩
    exact ⟨by rw [hF.1]; exact x1, by rw [(g a (ha a (by omega) (by omega))).2]; exact x2, by rw [hF.1]; exact x3, fun b hb => ⟨by rw [(g (a + 1) (ha (a + 1) (by omega) (by omega))).2]; exact (x4 b hb).1, by rw [hF.1]; exact (x4 b hb).2⟩⟩
  have L : LayC w' := by
    refine ⟨?_, ?_, ?_, ⟨hs 42 (fun q a b z => by unfold inH at z; omega) h1, hs 50 (fun q a b z => by unfold inH at z; omega) h2, hA.1.lay⟩, fun s hs => ?_⟩
    · have e := g 32 (by unfold inH; omega)
      rw [hF.1, e.2, e.2, e.2, e.2, e.2, e.2]
      exact ⟨l1, l2, l3, l4, l5, l6, l7⟩
    · have e := g 33 (by unfold inH; omega)
      rw [hF.1, e.2, e.2, e.2, e.2, hF.1, hF.1, hF.1, hF.1]
      exact ⟨m1, m2, m3, m4, m5, m6, m7, m8, m9⟩
    · rw [hF.1, hF.1]
      exact ⟨n1, n2⟩
    · rw [(g 66 (by unfold inH; omega)).2, hF.1, (g (67 + 2 * s) (by unfold inH; omega)).2, hF.1]
      exact s1 s hs
  have A1 : HutA w' 42 S.1 S.2.1 := a1.frP t1 hF (fun q a b z => by unfold inH at z; omega) tx58
  have T1 : TextsC w' S.2.1 := t1.frP hF tx58 ((g 32 (by unfold inH; omega)).1 2) (g 41 (by unfold inH; omega)).2
  have F2 : Fr (fun q => q = 32) w' (sI w' 32 6 1) := Fr.sI rfl
  have T2 : TextsC (sI w' 32 6 1) S.2.1 := T1.frP F2 tx32 (by rw [wi_sI, if_neg (fun z => absurd z.2 (by decide))]) (fun k => rfl)
  have k2 : ∀ q, q ≠ 32 → ∀ k, wi (sI w' 32 6 1) q k = wi w' q k := fun q hq k => wi_sI_ne hq k
  refine ⟨L.same (fun _ => rfl) (fun _ => rfl), A1.frP T1 F2 (fun q a b => by omega) tx32, T2, ⟨?_, fun j b hb => ?_⟩, ⟨?_, fun c hc => ?_⟩, fun s hs => ?_⟩
  · rw [k2 33 (by decide), (g 33 (by unfold inH; omega)).1]; exact p1
  · rw [k2 34 (by decide), (g 34 (by unfold inH; omega)).1]; exact p2 j b hb
  · rw [wi_at]; rfl
  · cases hc
    exact hA.frP T1 F2 (fun q a b => by omega) tx32
  · rw [k2 _ (by omega), k2 _ (by omega), (g (67 + 2 * s) (by unfold inH; omega)).1, (g (67 + 2 * s) (by unfold inH; omega)).1]
    exact ⟨(c1 s hs).1, (c1 s hs).2.1, fun k x hx => by rw [k2 _ (by omega), (g (68 + 2 * s) (by unfold inH; omega)).1]; exact (c1 s hs).2.2 k x hx⟩
theorem image_c {S : SS} {w : Wd} (h : RC S w) : ∃ w', f5_image 32 w = some (nI S.1.2.1, w') ∧ RC (imgS S) w' ∧ OffM w w' := by
  have t' := h.2.2.1.2.2 S.1.2.2 h.2.1.2.2
  obtain ⟨w', b1, b2, b3, b4⟩ := hut_cls (a := 58) (c := 42) h.1.2.2.2.1.2.2 h.hc (by omega) (by rw [h.2.1.2.1]; exact tx58 _ 0 (by decide)) (by rw [h.2.1.2.1, t'.2.2.2.1]; exact tx58 _ 1 (by decide))
  have hA : HutA w' 58 S.1 S.2.1 := ⟨b3, by rw [b4]; exact h.2.1.2.1, h.2.1.2.2⟩
  have hR := h.img b2 hA
  refine ⟨sI w' 32 6 1, ?_, hR, (b2.offM fun q a b z => by unfold inH at z; omega).tr ((Fr.sI (P := fun q => q = 32) rfl).offM fun q a b z => by omega)⟩
  unfold f5_image lw
  rw [ck_pos h.t, h.1.1.2.2.2.2.2.1, ck_pos (tg_eq h.1.2.2.2.1.2.2.1), h.r3, b1, Option.bind_some]
  dsimp only
  have e3 : wr (sI w' 32 6 1) 32 3 = 42 := hR.r3
  have e4 : wi (sI w' 32 6 1) 42 4 = nI S.1.2.1 := hR.hc.2.2.2.2.2.1
  rw [e3, ck_pos hR.t42, e4]
/-- what the image's rows hold -/
theorem rmImg {S : SS} {w w' : Wd} (h : RM S w) (hsh : ∀ q, sh w' q = sh w q) (hwr : ∀ q, wr w' q = wr w q) (hq : ∀ q, 75 ≤ q → q < 94 → q ≠ 75 → q ≠ 83 → q ≠ 84 → ∀ k, wi w' q k = wi w q k) (h75 : ∀ k, k ≠ 11 → wi w' 75 k = wi w 75 k) (h11 : wi w' 75 11 = 1) (h1 : ∀ j, j < 18 → wi w' 83 j = wi w 78 j) (h2 : ∀ k, k < 4 → wi w' 83 (18 + k) = wi w 79 k) (h3 : wi w' 84 0 = wi w 75 0) (h4 : wi w' 84 1 = wi w 75 10) : RM (imgS S) w' := by
  obtain ⟨⟨⟨l1, l2⟩, a2, a3, a4, a5, a6, a7, a8, a9⟩, ⟨b1, b2⟩, ⟨c1, c2⟩, ⟨d1, d2⟩, e1⟩ := h
  have n : ∀ q, 75 ≤ q ∧ q < 94 ∧ q ≠ 75 ∧ q ≠ 83 ∧ q ≠ 84 → ∀ k, wi w' q k = wi w q k := fun q hh => hq q hh.1 hh.2.1 hh.2.2.1 hh.2.2.2.1 hh.2.2.2.2
  have pm : ∀ {t F B G}, ProgM w t F B G → ProgM w' t F B G := by
    intro t F B G hp
    unfold ProgM at hp ⊢
    simp only [n 82 (by decide), n 81 (by decide)]
    exact hp
  refine ⟨⟨⟨by rw [hsh]; exact l1, fun x hx => ⟨by rw [hwr]; exact (l2 x hx).1, by rw [hsh]; exact (l2 x hx).2⟩⟩, by rw [h75 0 (by decide)]; exact a2, a3, fun k hk => by rw [n 79 (by decide)]; exact a4 k hk, fun b hb => by simp only [n 76 (by decide), n 77 (by decide), n 78 (by decide)]; exact a5 b hb, by rw [h75 10 (by decide)]; exact a6, pm a7, a8, a9⟩, ⟨by rw [h75 9 (by decide)]; exact b1, fun t ht => pm (b2 t ht)⟩, ⟨by rw [h75 6 (by decide)]; exact c1, fun j b hb => by rw [n 80 (by decide)]; exact c2 j b hb⟩, ⟨h11, fun c hc => ?_⟩, fun s hs => by simp only [n 85 (by decide), n 86 (by decide), n 87 (by decide)]; exact e1 s hs⟩
  cases hc
  refine ⟨fun k hk => by rw [h2 k hk]; exact a4 k hk, fun b hb => ?_, by rw [h3]; exact a2, by rw [h4]; exact a6⟩
  have hm : S.1.2.1 ≤ 6 := a3
  have hb' : b < S.1.2.1 := hb
  rw [h1 _ (by omega), h1 _ (by omega), h1 _ (by omega)]
  exact ⟨(a5 b hb).2.2.1, (a5 b hb).2.2.2.1, (a5 b hb).2.2.2.2⟩
def IP (q : Nat) : Prop := q = 83 ∨ q = 84 ∨ q = 75
theorem image_r {S : SS} {w : Wd} (h : RM S w) : ∃ w', f6_image 75 w = some (nI S.1.2.1, w') ∧ RM (imgS S) w' ∧ OffC w w' := by
  have a1 := h.1.1
  generalize hw1 : sI w 75 11 1 = w1
  have F1 : Fr (fun q => q = 75) w w1 := by rw [← hw1]; exact Fr.sI rfl
  have e75 : ∀ k, k ≠ 11 → wi w1 75 k = wi w 75 k := fun k hk => by rw [← hw1, wi_sI, if_neg (fun z => hk z.2)]
  have e11 : wi w1 75 11 = 1 := by rw [← hw1, wi_at]
  have r1 : ∀ q, wr w1 q = wr w q := fun q => by rw [← hw1]; rfl
  have L1 : LayM w1 := ⟨by rw [F1.1]; exact a1.1, fun x hx => ⟨by rw [r1]; exact (a1.2 x hx).1, by rw [F1.1]; exact (a1.2 x hx).2⟩⟩
  have key : ∃ w', loopF b6_image_7 FU (75, (0 : Int32)) w1 = some (nI S.1.2.1, w') ∧ Fr (fun q => q = 83 ∨ q = 84) w1 w' ∧ (∀ q, wr w' q = wr w1 q) ∧ (∀ j, j < 18 → wi w' 83 j = wi w1 78 j) ∧ (∀ k, k < 4 → wi w' 83 (18 + k) = wi w1 79 k) ∧ wi w' 84 0 = wi w1 75 0 ∧ wi w' 84 1 = wi w1 75 10 := by
    refine loopE (R := fun o => ∃ w', o = some (nI S.1.2.1, w') ∧ Fr (fun q => q = 83 ∨ q = 84) w1 w' ∧ (∀ q, wr w' q = wr w1 q) ∧ (∀ j, j < 18 → wi w' 83 j = wi w1 78 j) ∧ (∀ k, k < 4 → wi w' 83 (18 + k) = wi w1 79 k) ∧ wi w' 84 0 = wi w1 75 0 ∧ wi w' 84 1 = wi w1 75 10) (I := fun i v w2 => v = (75, nI i) ∧ Fr (fun q => q = 83 ∨ q = 84) w1 w2 ∧ (∀ q, wr w2 q = wr w1 q) ∧ ∀ j, j < i → wi w2 83 j = wi w1 78 j) 18 ?_ ?_ FU _ w1 (by decide) ⟨rfl, Fr.rf, fun _ => rfl, fun j hj => absurd hj (Nat.not_lt_zero j)⟩
    · intro i v w2 hi hI
      obtain ⟨rfl, i1, i2, i3'⟩ := hI
      have b1 := L1.fr i1 (by decide)
      refine ⟨(75, nI (i + 1)), sI w2 83 i (wi w2 78 i), ⟨rfl, i1.tr (Fr.sI (Or.inl rfl)), fun q => i2 q, fun j hj => ?_⟩, fun k => ?_⟩
      · rw [wi_sI]
        by_cases e : j = i
        · rw [if_pos ⟨rfl, e⟩, (i1.2.2 78 (by decide)).1, e]
        · rw [if_neg (fun z => e z.2)]
          exact i3' j (by omega)
      · unfold b6_image_7 lw
        dsimp only
        have v18 : vp_in (nI i) 18 := vin (by omega) (by omega)
        have v22 : vp_in (nI i) 22 := vin (by omega) (by omega)
        have ci : (nI i).toNatClampNeg = i := nI_clamp (by omega)
        rw [if_neg (show ¬ (18 : Int32) ≤ nI i from nI_ge (b := 18) hi (by omega)), ck_pos b1.t, b1.r3, b1.l3, ck_pos (And.intro b1.t3 v18), b1.r12, b1.l12, ck_pos (And.intro b1.t12 v22), ci, i3_1]
    · intro v w2 hI k
      obtain ⟨rfl, i1, i2, i3'⟩ := hI
      unfold b6_image_7
      dsimp only
      rw [if_pos (by decide)]
      refine loopE (R := fun o => ∃ w', o = some (nI S.1.2.1, w') ∧ Fr (fun q => q = 83 ∨ q = 84) w1 w' ∧ (∀ q, wr w' q = wr w1 q) ∧ (∀ j, j < 18 → wi w' 83 j = wi w1 78 j) ∧ (∀ k, k < 4 → wi w' 83 (18 + k) = wi w1 79 k) ∧ wi w' 84 0 = wi w1 75 0 ∧ wi w' 84 1 = wi w1 75 10) (I := fun i v w3 => v = (75, nI i) ∧ Fr (fun q => q = 83 ∨ q = 84) w1 w3 ∧ (∀ q, wr w3 q = wr w1 q) ∧ (∀ j, j < 18 → wi w3 83 j = wi w1 78 j) ∧ ∀ j, j < i → wi w3 83 (18 + j) = wi w1 79 j) 4 ?_ ?_ FU _ w2 (by decide) ⟨rfl, i1, i2, i3', fun j hj => absurd hj (Nat.not_lt_zero j)⟩
      · intro i v w3 hi hI
        obtain ⟨rfl, j1, j2, j3, j4⟩ := hI
        have b1 := L1.fr j1 (by decide)
        refine ⟨(75, nI (i + 1)), sI w3 83 (18 + i) (wi w3 79 i), ⟨rfl, j1.tr (Fr.sI (Or.inl rfl)), fun q => j2 q, fun j hj => ?_, fun j hj => ?_⟩, fun k => ?_⟩
        · rw [wi_sI, if_neg (fun z => by omega)]
          exact j3 j hj
        · rw [wi_sI]
          by_cases e : j = i
          · rw [if_pos ⟨rfl, by rw [e]⟩, (j1.2.2 79 (by decide)).1, e]
          · rw [if_neg (fun z => e (by omega))]
            exact j4 j (by omega)
        · unfold b6_image_33 lw
          dsimp only
          have v4 : vp_in (nI i) 4 := vin (by omega) (by omega)
          have v22 : vp_in (nI (18 + i)) 22 := vin (by omega) (by omega)
          have ci : (nI i).toNatClampNeg = i := nI_clamp (by omega)
          have ci2 : (nI (18 + i)).toNatClampNeg = 18 + i := nI_clamp (by omega)
          rw [if_neg (show ¬ (4 : Int32) ≤ nI i from nI_ge (b := 4) hi (by omega)), ck_pos b1.t, b1.r4, b1.l4, ck_pos (And.intro b1.t4 v4), n18, b1.r12, b1.l12, ck_pos (And.intro b1.t12 v22), ci, ci2, i3_1]
      · intro v w3 hI k
        obtain ⟨rfl, j1, j2, j3, j4⟩ := hI
        have b1 := L1.fr j1 (by decide)
        have g75 := (j1.2.2 75 (by decide)).1
        refine ⟨sI (sI w3 84 0 (wi w3 75 0)) 84 1 (wi w3 75 10), ?_, (j1.tr (Fr.sI (Or.inr rfl))).tr (Fr.sI (Or.inr rfl)), fun q => j2 q, fun j hj => ?_, fun j hj => ?_, ?_, ?_⟩
        · unfold b6_image_33 lw
          dsimp only
          have t2 : tg (sI w3 84 0 (wi w3 75 0)) 84 = 20 := b1.t13
          have e0 : wi (sI w3 84 0 (wi w3 75 0)) 75 10 = wi w3 75 10 := wi_sI_ne (by decide) _
          have e1 : wi (sI (sI w3 84 0 (wi w3 75 0)) 84 1 (wi w3 75 10)) 75 0 = nI S.1.2.1 := by rw [wi_sI_ne (by decide), wi_sI_ne (by decide), g75, e75 0 (by decide)]; exact h.1.2.1
          rw [if_pos (by decide), ck_pos b1.t, b1.r13, b1.l13, ck_pos (And.intro b1.t13 v0_2), cl0, cl1, wr_sI, b1.r13, ln_sI, b1.l13, ck_pos (And.intro t2 v1_2), e0, e1]
        · rw [wi_sI_ne (by decide), wi_sI_ne (by decide)]; exact j3 j hj
        · rw [wi_sI_ne (by decide), wi_sI_ne (by decide)]; exact j4 j hj
        · rw [wi_sI, if_neg (fun z => absurd z.2 (by decide)), wi_at, g75]
        · rw [wi_at, g75]
  obtain ⟨w', k1, k2, k3, k4, k5, k6, k7⟩ := key
  refine ⟨w', ?_, rmImg h (fun q => (k2.1 q).trans (F1.1 q)) (fun q => (k3 q).trans (r1 q)) (fun q g1 g2 g3 g4 g5 k => ?_) (fun k hk => ?_) ?_ (fun j hj => ?_) (fun j hj => ?_) ?_ ?_, (F1.offC fun q z => by omega).tr (k2.offC fun q z => by omega)⟩
  · unfold f6_image lw
    rw [ck_pos h.1.1.t, hw1]
    exact k1
  · rw [(k2.2.2 q (by omega)).1, (F1.2.2 q (by omega)).1]
  · rw [(k2.2.2 75 (by decide)).1, e75 k hk]
  · rw [(k2.2.2 75 (by decide)).1, e11]
  · rw [k4 j hj, (F1.2.2 78 (by decide)).1]
  · rw [k5 j hj, (F1.2.2 79 (by decide)).1]
  · rw [k6, e75 0 (by decide)]
  · rw [k7, e75 10 (by decide)]
theorem image_pair : Pair (f5_image 32) (f6_image 75) := pair_of fun S hS => ⟨(nI S.1.2.1, imgS S), fun w h => image_c h, fun w h => image_r h, by
  obtain ⟨a1, a2, a3, a4, a5⟩ := hS
  exact ⟨a1, a2, a3, fun c hc => by cases hc; exact ⟨a1, Nat.le_refl _, fun b _ => ⟨rfl, rfl⟩⟩, a5⟩⟩
/-! back -/
theorem back_c {S : SS} {w : Wd} {c : CO} (h : RC S w) (hc : S.2.2.2.1 = some c) : ∃ w', f5_back 32 w = some (nI c.2.1, w') ∧ RC (c, S.2) w' ∧ OffM w w' := by
  have hA := h.2.2.2.2.1.2 c hc
  have hf : wi w 32 6 = 1 := by rw [h.2.2.2.2.1.1, hc]; rfl
  have t' := h.2.2.1.2.2 c.2.2 hA.2.2
  have tx42 : ∀ t j, j < 2 → ¬ inH 42 (txL t + j) := fun t j hj => by
    unfold inH txL
    split <;> omega
  obtain ⟨w', b1, b2, b3, b4⟩ := hut_cls (a := 42) (c := 58) h.hc.lay hA.1 (by omega) (by rw [hA.2.1]; exact tx42 _ 0 (by decide)) (by rw [hA.2.1, t'.2.2.2.1]; exact tx42 _ 1 (by decide))
  have hF : Fr NC w w' := b2.mono fun q z => Or.inl z
  obtain ⟨x1, x2, x3, x4⟩ := h.h50
  have hR : RC (c, S.2) w' := h.upd hF ⟨b3, by rw [b4]; exact hA.2.1, hA.2.2⟩ ⟨by rw [b2.1]; exact x1, by rw [(b2.2.2 50 (by unfold inH; omega)).2]; exact x2, by rw [b2.1]; exact x3, fun b hb => ⟨by rw [(b2.2.2 (50 + 1) (by unfold inH; omega)).2]; exact (x4 b hb).1, by rw [b2.1]; exact (x4 b hb).2⟩⟩
  refine ⟨w', ?_, hR, ncM hF⟩
  unfold f5_back
  rw [ck_pos h.t, hf, if_neg (show ¬ (1 : Int32) = 0 by decide), h.r3, ck_pos h.t42, h.1.1.2.2.2.2.2.1, b1, Option.bind_some]
  dsimp only
  rw [hR.r3, ck_pos hR.t42, hR.hc.2.2.2.2.2.1]
theorem back_r {S : SS} {w : Wd} {c : CO} (h : RM S w) (hc : S.2.2.2.1 = some c) (hS : SI S) : ∃ w', f6_back 75 w = some (nI c.2.1, w') ∧ RM (c, S.2) w' ∧ OffC w w' := by
  have a1 := h.1.1
  obtain ⟨d1, d2⟩ := h.2.2.2.1
  have hf : wi w 75 11 = 1 := by rw [d1, hc]; rfl
  obtain ⟨q1, q2, q3, q4⟩ := d2 c hc
  obtain ⟨s1, s2, s3⟩ := hS.2.2.2.1 c hc
  have n75 : ¬ (fun q => q = 78 ∨ q = 79) 75 := by decide
  have key : ∃ w', loopF b6_back_12 FU (75, (0 : Int32)) w = some (nI c.2.1, w') ∧ Fr (fun q => q = 78 ∨ q = 79 ∨ q = 75) w w' ∧ (∀ q, wr w' q = wr w q) ∧ (∀ j, j < 18 → wi w' 78 j = wi w 83 j) ∧ (∀ k, k < 4 → wi w' 79 k = wi w 83 (18 + k)) ∧ wi w' 75 0 = nI c.2.1 ∧ wi w' 75 10 = nI c.2.2 ∧ ∀ k, k ≠ 0 → k ≠ 10 → wi w' 75 k = wi w 75 k := by
    refine loopE (R := fun o => ∃ w', o = some (nI c.2.1, w') ∧ Fr (fun q => q = 78 ∨ q = 79 ∨ q = 75) w w' ∧ (∀ q, wr w' q = wr w q) ∧ (∀ j, j < 18 → wi w' 78 j = wi w 83 j) ∧ (∀ k, k < 4 → wi w' 79 k = wi w 83 (18 + k)) ∧ wi w' 75 0 = nI c.2.1 ∧ wi w' 75 10 = nI c.2.2 ∧ ∀ k, k ≠ 0 → k ≠ 10 → wi w' 75 k = wi w 75 k) (I := fun i v w2 => v = (75, nI i) ∧ Fr (fun q => q = 78 ∨ q = 79) w w2 ∧ (∀ q, wr w2 q = wr w q) ∧ ∀ j, j < i → wi w2 78 j = wi w 83 j) 18 ?_ ?_ FU _ w (by decide) ⟨rfl, Fr.rf, fun _ => rfl, fun j hj => absurd hj (Nat.not_lt_zero j)⟩
    · intro i v w2 hi hI
      obtain ⟨rfl, i1, i2, i3'⟩ := hI
      have b1 := a1.fr i1 n75
      refine ⟨(75, nI (i + 1)), sI w2 78 i (wi w2 83 i), ⟨rfl, i1.tr (Fr.sI (Or.inl rfl)), fun q => i2 q, fun j hj => ?_⟩, fun k => ?_⟩
      · rw [wi_sI]
        by_cases e : j = i
        · rw [if_pos ⟨rfl, e⟩, (i1.2.2 83 (by decide)).1, e]
        · rw [if_neg (fun z => e z.2)]
          exact i3' j (by omega)
      · unfold b6_back_12 lw
        dsimp only
        have v18 : vp_in (nI i) 18 := vin (by omega) (by omega)
        have v22 : vp_in (nI i) 22 := vin (by omega) (by omega)
        have ci : (nI i).toNatClampNeg = i := nI_clamp (by omega)
        rw [if_neg (show ¬ (18 : Int32) ≤ nI i from nI_ge (b := 18) hi (by omega)), ck_pos b1.t, b1.r12, b1.l12, ck_pos (And.intro b1.t12 v22), b1.r3, b1.l3, ck_pos (And.intro b1.t3 v18), ci, i3_1]
    · intro v w2 hI k
      obtain ⟨rfl, i1, i2, i3'⟩ := hI
      unfold b6_back_12
      dsimp only
      rw [if_pos (by decide)]
      refine loopE (R := fun o => ∃ w', o = some (nI c.2.1, w') ∧ Fr (fun q => q = 78 ∨ q = 79 ∨ q = 75) w w' ∧ (∀ q, wr w' q = wr w q) ∧ (∀ j, j < 18 → wi w' 78 j = wi w 83 j) ∧ (∀ k, k < 4 → wi w' 79 k = wi w 83 (18 + k)) ∧ wi w' 75 0 = nI c.2.1 ∧ wi w' 75 10 = nI c.2.2 ∧ ∀ k, k ≠ 0 → k ≠ 10 → wi w' 75 k = wi w 75 k) (I := fun i v w3 => v = (75, nI i) ∧ Fr (fun q => q = 78 ∨ q = 79) w w3 ∧ (∀ q, wr w3 q = wr w q) ∧ (∀ j, j < 18 → wi w3 78 j = wi w 83 j) ∧ ∀ j, j < i → wi w3 79 j = wi w 83 (18 + j)) 4 ?_ ?_ FU _ w2 (by decide) ⟨rfl, i1, i2, i3', fun j hj => absurd hj (Nat.not_lt_zero j)⟩
      · intro i v w3 hi hI
        obtain ⟨rfl, j1, j2, j3, j4⟩ := hI
        have b1 := a1.fr j1 n75
        refine ⟨(75, nI (i + 1)), sI w3 79 i (wi w3 83 (18 + i)), ⟨rfl, j1.tr (Fr.sI (Or.inr rfl)), fun q => j2 q, fun j hj => ?_, fun j hj => ?_⟩, fun k => ?_⟩
        · rw [wi_sI_ne (by decide)]
          exact j3 j hj
        · rw [wi_sI]
          by_cases e : j = i
          · rw [if_pos ⟨rfl, e⟩, (j1.2.2 83 (by decide)).1, e]
          · rw [if_neg (fun z => e z.2)]
            exact j4 j (by omega)
        · unfold b6_back_38 lw
          dsimp only
          have v4 : vp_in (nI i) 4 := vin (by omega) (by omega)
          have v22 : vp_in (nI (18 + i)) 22 := vin (by omega) (by omega)
          have ci : (nI i).toNatClampNeg = i := nI_clamp (by omega)
          have ci2 : (nI (18 + i)).toNatClampNeg = 18 + i := nI_clamp (by omega)
          rw [if_neg (show ¬ (4 : Int32) ≤ nI i from nI_ge (b := 4) hi (by omega)), ck_pos b1.t, n18, b1.r12, b1.l12, ck_pos (And.intro b1.t12 v22), b1.r4, b1.l4, ck_pos (And.intro b1.t4 v4), ci, ci2, i3_1]
      · intro v w3 hI k
        obtain ⟨rfl, j1, j2, j3, j4⟩ := hI
        have b1 := a1.fr j1 n75
        have g84 := (j1.2.2 84 (by decide)).1
        have g75 := (j1.2.2 75 n75).1
        have J1 : Fr (fun q => q = 78 ∨ q = 79 ∨ q = 75) w w3 := j1.mono fun q z => by omega
        refine ⟨sI (sI w3 75 0 (nI c.2.1)) 75 10 (nI c.2.2), ?_, (J1.tr (Fr.sI (Or.inr (Or.inr rfl)))).tr (Fr.sI (Or.inr (Or.inr rfl))), fun q => j2 q, fun j hj => ?_, fun j hj => ?_, ?_, ?_, fun k h0 h10 => ?_⟩
        · unfold b6_back_38 lw
          dsimp only
          have b2 : LayM (sI w3 75 0 (nI c.2.1)) := b1
          have e0 : wi w3 84 0 = nI c.2.1 := by rw [g84]; exact q3
          have e1 : wi (sI w3 75 0 (nI c.2.1)) 84 1 = nI c.2.2 := by rw [wi_sI_ne (by decide), g84]; exact q4
          have e2 : wi (sI (sI w3 75 0 (nI c.2.1)) 75 10 (nI c.2.2)) 75 0 = nI c.2.1 := by rw [wi_sI, if_neg (fun z => absurd z.2 (by decide)), wi_at]
          rw [if_pos (by decide), ck_pos b1.t, b1.r13, b1.l13, ck_pos (And.intro b1.t13 v0_2), cl0, cl1, e0, b2.r13, b2.l13, ck_pos (And.intro b2.t13 v1_2), e1, e2]
        · rw [wi_sI_ne (by decide), wi_sI_ne (by decide)]; exact j3 j hj
        · rw [wi_sI_ne (by decide), wi_sI_ne (by decide)]; exact j4 j hj
        · rw [wi_sI, if_neg (fun z => absurd z.2 (by decide)), wi_at]
        · rw [wi_at]
        · rw [wi_sI, if_neg (fun z => h10 z.2), wi_sI, if_neg (fun z => h0 z.2), g75]
  obtain ⟨w', k1, k2, k3, k4, k5, k6, k7, k8⟩ := key
  have n := fun q (hq : ¬ (q = 78 ∨ q = 79 ∨ q = 75)) => (k2.2.2 q hq).1
  have ok := hS.pg s1.2.1
  refine ⟨w', ?_, h.upd (c' := c) ⟨⟨by rw [k2.1]; exact a1.1, fun x hx => ⟨by rw [k3]; exact (a1.2 x hx).1, by rw [k2.1]; exact (a1.2 x hx).2⟩⟩, k6, s1.1, fun k hk => by rw [k5 k hk]; exact q1 k hk, fun b hb => ?_, k7, ?_, ok.1, ok.2.1⟩ (fun q h1 h2 => n q (by omega)) (fun k hk => k8 k (by omega) (by omega)), k2.offC fun q z => by omega⟩
  · unfold f6_back
    rw [ck_pos a1.t, hf, if_neg (show ¬ (1 : Int32) = 0 by decide)]
    exact k1
  · have hb6 : b < 6 := by have := s1.1; omega
    have hbS : b < S.1.2.1 := by omega
    obtain ⟨u1, u2, u3⟩ := q2 b hb
    rw [n 76 (by decide), n 77 (by decide), k4 _ (by omega), k4 _ (by omega), k4 _ (by omega), u1, u2, u3, (s3 b hb).1, (s3 b hb).2]
    exact ⟨(h.1.2.2.2.2.1 b hbS).1, (h.1.2.2.2.2.1 b hbS).2.1, rfl, rfl, rfl⟩
  · have hp := h.2.1.2 c.2.2 s1.2.1
    unfold ProgM at hp ⊢
    simp only [n 81 (by decide), n 82 (by decide)]
    exact hp
theorem back_pair : Pair (f5_back 32) (f6_back 75) := pair_of fun S hS => by
  cases hc : S.2.2.2.1 with
  | none =>
    refine ⟨(-3, S), fun w h => ⟨w, ?_, h, OffM.rf⟩, fun w h => ⟨w, ?_, h, OffC.rf⟩, hS⟩
    · have hf : wi w 32 6 = 0 := by rw [h.2.2.2.2.1.1, hc]; rfl
      unfold f5_back
      rw [ck_pos h.t, hf, if_pos rfl]
    · have hf : wi w 75 11 = 0 := by rw [h.2.2.2.1.1, hc]; rfl
      unfold f6_back
      rw [ck_pos h.1.1.t, hf, if_pos rfl]
  | some c =>
    refine ⟨(nI c.2.1, (c, S.2)), fun w h => back_c h hc, fun w h => back_r h hc hS, ?_⟩
    obtain ⟨a1, a2, a3, a4, a5⟩ := hS
    refine ⟨(a4 c hc).1, a2, a3, fun c' hc' => ?_, a5⟩
    have e : c' = c := Option.some.inj (hc'.symm.trans hc)
    subst e
    exact ⟨(a4 c' hc).1, Nat.le_refl _, fun b _ => ⟨rfl, rfl⟩⟩
