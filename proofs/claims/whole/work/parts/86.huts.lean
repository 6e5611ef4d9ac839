/-! huts and sheets are made -/
theorem OldW.rf {w : Wd} {Q : Nat} : OldW w w Q := fun _ _ => ⟨rfl, fun _ => rfl, fun _ => rfl⟩
theorem OldW.tr {a b c : Wd} {Q : Nat} (h1 : OldW a b Q) (h2 : OldW b c Q) : OldW a c Q := fun x hx => ⟨(h2 x hx).1.trans (h1 x hx).1, fun k => ((h2 x hx).2.1 k).trans ((h1 x hx).2.1 k), fun k => ((h2 x hx).2.2 k).trans ((h1 x hx).2.2 k)⟩
theorem OldW.le {a b : Wd} {Q Q' : Nat} (h : OldW a b Q) (hq : Q' ≤ Q) : OldW a b Q' := fun x hx => h x (Nat.lt_of_lt_of_le hx hq)
theorem oldN {w : Wd} {t n Q : Nat} (h : Q ≤ nx w) : OldW w (wN w t n) Q := fun a ha => ⟨by rw [sh_wN, if_neg (by omega)], fun k => by rw [wi_wN, if_neg (by omega)], fun k => by rw [wr_wN, if_neg (by omega)]⟩
theorem oldI {w : Wd} {q k Q : Nat} {v : Int32} (h : Q ≤ q) : OldW w (sI w q k v) Q := fun a ha => ⟨rfl, fun j => wi_sI_ne (by omega) j, fun _ => rfl⟩
theorem oldR {w : Wd} {q k v Q : Nat} (h : Q ≤ q) : OldW w (sR w q k v) Q := fun a ha => ⟨rfl, fun _ => rfl, fun j => wr_sR_ne (by omega) j⟩
def h0S : Nat → Int32 := fun k => if k = 1 then 200 else if k = 3 then 5 else 0
/-- a hut so far, with i bathers -/
def HI (w : Wd) (a t i : Nat) : Prop := sh w a = (1, 0) ∧ wr w a 6 = a + 1 ∧ sh w (a + 1) = (22, 6) ∧ wr w a 5 = t ∧ (∀ k, k < 4 → wi w a k = h0S k) ∧ wi w a 4 = 0 ∧ ∀ b, b < i → wr w (a + 1) b = a + 2 + b ∧ sh w (a + 2 + b) = (0, 0)
theorem hut_i {w : Wd} {a t : Nat} (ha : nx w = a) : ∃ w', f1_init a t (wN w 1 0) = some ((), w') ∧ OldW w w' a ∧ nx w' = a + 8 ∧ HI w' a t 6 := by
  have e0 : f1_init a t (wN w 1 0) = loopF b1_init_32 7 (a, (0 : Int32)) (sR (sR (wN (sI (sI (wN w 1 0) a 1 200) a 3 5) 22 6) a 6 (a + 1)) a 5 t) := by
    unfold f1_init lw
    rw [ck_pos (show tg (wN w 1 0) a = 1 by unfold tg; rw [sh_wN, ha, if_pos rfl])]
    have e1 : nx (sI (sI (wN w 1 0) a 1 200) a 3 5) = a + 1 := by rw [nx_sI, nx_sI, nx_wN, ha]
    dsimp only
    rw [e1]
  have n1 : nx (sI (sI (wN w 1 0) a 1 200) a 3 5) = a + 1 := by rw [nx_sI, nx_sI, nx_wN, ha]
  have O1 : OldW w (sR (sR (wN (sI (sI (wN w 1 0) a 1 200) a 3 5) 22 6) a 6 (a + 1)) a 5 t) a := ((((oldN (by omega)).tr (oldI (Nat.le_refl _))).tr (oldI (Nat.le_refl _))).tr (oldN (by omega))).tr ((oldR (Nat.le_refl _)).tr (oldR (Nat.le_refl _)))
  have N1 : nx (sR (sR (wN (sI (sI (wN w 1 0) a 1 200) a 3 5) 22 6) a 6 (a + 1)) a 5 t) = a + 2 + 0 := by rw [nx_sR, nx_sR, nx_wN, n1]
  have H1 : HI (sR (sR (wN (sI (sI (wN w 1 0) a 1 200) a 3 5) 22 6) a 6 (a + 1)) a 5 t) a t 0 := by
    refine ⟨?_, ?_, ?_, ?_, fun k hk => ?_, ?_, fun b hb => absurd hb (Nat.not_lt_zero b)⟩
    · rw [sh_sR, sh_sR, sh_wN, n1, if_neg (by omega), sh_sI, sh_sI, sh_wN, ha, if_pos rfl]
    · rw [wr_sR, if_neg (fun z => absurd z.2 (by decide)), wr_sR, if_pos ⟨rfl, rfl⟩]
    · rw [sh_sR, sh_sR, sh_wN, n1, if_pos rfl]
    · rw [wr_sR, if_pos ⟨rfl, rfl⟩]
    · rw [wi_sR, wi_sR, wi_wN, n1, if_neg (by omega), wi_sI, wi_sI, wi_wN, ha, if_pos rfl]
      rcases (by omega : k = 0 ∨ k = 1 ∨ k = 2 ∨ k = 3) with rfl | rfl | rfl | rfl
      · rw [if_neg (fun z => absurd z.2 (by decide)), if_neg (fun z => absurd z.2 (by decide))]; rfl
      · rw [if_neg (fun z => absurd z.2 (by decide)), if_pos ⟨rfl, rfl⟩]; rfl
      · rw [if_neg (fun z => absurd z.2 (by decide)), if_neg (fun z => absurd z.2 (by decide))]; rfl
      · rw [if_pos ⟨rfl, rfl⟩]; rfl
    · rw [wi_sR, wi_sR, wi_wN, n1, if_neg (by omega), wi_sI, wi_sI, wi_wN, ha, if_pos rfl, if_neg (fun z => absurd z.2 (by decide)), if_neg (fun z => absurd z.2 (by decide))]
  rw [e0]
  generalize sR (sR (wN (sI (sI (wN w 1 0) a 1 200) a 3 5) 22 6) a 6 (a + 1)) a 5 t = w1 at O1 N1 H1 ⊢
  refine loopE (R := fun o => ∃ w', o = some ((), w') ∧ OldW w w' a ∧ nx w' = a + 8 ∧ HI w' a t 6) (I := fun i v w2 => v = (a, nI i) ∧ OldW w w2 a ∧ nx w2 = a + 2 + i ∧ HI w2 a t i) 6 ?_ ?_ 7 _ w1 (by decide) ⟨rfl, O1, N1, H1⟩
  · intro i v w2 hi hI
    obtain ⟨rfl, i1, i2, a1, a2, a3, a4, a5, a6, a7⟩ := hI
    have s0 : ∀ q, q ≠ a + 2 + i → sh (wN w2 0 0) q = sh w2 q := fun q hq => by rw [sh_wN, i2, if_neg hq]
    have r0 : ∀ q k, q ≠ a + 2 + i → wr (wN w2 0 0) q k = wr w2 q k := fun q k hq => by rw [wr_wN, i2, if_neg hq]
    have w0 : ∀ q k, q ≠ a + 2 + i → wi (wN w2 0 0) q k = wi w2 q k := fun q k hq => by rw [wi_wN, i2, if_neg hq]
    have sn : sh (wN w2 0 0) (a + 2 + i) = (0, 0) := by rw [sh_wN, i2, if_pos rfl]
    have N0 : nx (wN w2 0 0) = a + 2 + (i + 1) := by rw [nx_wN, i2]; rfl
    have O0 : OldW w2 (wN w2 0 0) a := oldN (by omega)
    refine ⟨(a, nI (i + 1)), sR (wN w2 0 0) (a + 1) i (a + 2 + i), ⟨rfl, (i1.tr O0).tr (oldR (by omega)), N0, ?_, ?_, ?_, ?_, fun k hk => ?_, ?_, fun b hb => ?_⟩, fun k => ?_⟩
    · rw [sh_sR, s0 a (by omega)]; exact a1
    · rw [wr_sR_ne (by omega), r0 a _ (by omega)]; exact a2
    · rw [sh_sR, s0 _ (by omega)]; exact a3
    · rw [wr_sR_ne (by omega), r0 a _ (by omega)]; exact a4
    · rw [wi_sR, w0 a _ (by omega)]; exact a5 k hk
    · rw [wi_sR, w0 a _ (by omega)]; exact a6
    · rw [wr_sR, sh_sR]
      by_cases e : b = i
      · rw [if_pos ⟨rfl, e⟩, e]
        exact ⟨rfl, sn⟩
      · rw [if_neg (fun z => e z.2), r0 _ _ (by omega), s0 _ (by omega)]
        exact a7 b (by omega)
    · unfold b1_init_32 lw
      dsimp only
      have e0i : f0_init (nx w2) (wN w2 0 0) = some ((), wN w2 0 0) := by
        unfold f0_init
        rw [ck_pos]
        unfold tg
        rw [i2, sn]
      rw [ck_pos (tg_eq a1), a2, ck_pos (tg_eq a3), ln_eq a3, if_neg (show ¬ Int32.ofNat 6 ≤ nI i from nI_ge (b := 6) hi (by omega)), e0i, Option.bind_some]
      dsimp only
      have l3 : ln (wN w2 0 0) (a + 1) = 6 := by unfold ln; rw [s0 _ (by omega), a3]
      rw [l3, ck_pos (vin hi (by decide)), nI_clamp (by omega), i2, i3_1]
  · intro v w2 hI k
    obtain ⟨rfl, i1, i2, i3⟩ := hI
    refine ⟨w2, ?_, i1, by rw [i2], i3⟩
    unfold b1_init_32
    dsimp only
    rw [ck_pos (tg_eq i3.1), i3.2.1, ck_pos (tg_eq i3.2.2.1), ln_eq i3.2.2.1, if_pos (show Int32.ofNat 6 ≤ nI 6 from Int32.le_refl _)]
def HSh (w : Wd) (a : Nat) : Prop := sh w a = (2, 0) ∧ wr w a 2 = a + 1 ∧ sh w (a + 1) = (20, 40) ∧ wi w a 0 = -1 ∧ wi w a 1 = 0
theorem sheet_i {w : Wd} {a : Nat} (ha : nx w = a) : ∃ w', f2_init a (wN w 2 0) = some ((), w') ∧ OldW w w' a ∧ nx w' = a + 2 ∧ HSh w' a := by
  have n1 : nx (sI (wN w 2 0) a 0 (-1)) = a + 1 := by rw [nx_sI, nx_wN, ha]
  refine ⟨sR (wN (sI (wN w 2 0) a 0 (-1)) 20 40) a 2 (a + 1), ?_, (((oldN (by omega)).tr (oldI (Nat.le_refl _))).tr (oldN (by omega))).tr (oldR (Nat.le_refl _)), by rw [nx_sR, nx_wN, n1], ?_, ?_, ?_, ?_, ?_⟩
  · unfold f2_init lw
    rw [ck_pos (show tg (wN w 2 0) a = 2 by unfold tg; rw [sh_wN, ha, if_pos rfl])]
    dsimp only
    rw [n1]
  · rw [sh_sR, sh_wN, n1, if_neg (by omega), sh_sI, sh_wN, ha, if_pos rfl]
  · rw [wr_sR, if_pos ⟨rfl, rfl⟩]
  · rw [sh_sR, sh_wN, n1, if_pos rfl]
  · rw [wi_sR, wi_wN, n1, if_neg (by omega), wi_at]
  · rw [wi_sR, wi_wN, n1, if_neg (by omega), wi_sI, if_neg (fun z => absurd z.2 (by decide)), wi_wN, ha, if_pos rfl]
theorem HSh.old {w w' : Wd} {a Q : Nat} (h : HSh w a) (hO : OldW w w' Q) (ha : a + 1 < Q) : HSh w' a := by
  obtain ⟨h1, h2, h3, h4, h5⟩ := h
  have o1 := hO a (by omega)
  have o2 := hO (a + 1) ha
  exact ⟨by rw [o1.1]; exact h1, by rw [o1.2.2]; exact h2, by rw [o2.1]; exact h3, by rw [o1.2.1]; exact h4, by rw [o1.2.1]; exact h5⟩
theorem sheets_i {w : Wd} (h1 : sh w 32 = (5, 0)) (h2 : wr w 32 7 = 66) (h3 : sh w 66 = (23, 4)) (h4 : nx w = 67) : ∃ w', loopF b5_init_116 5 (32, (0 : Int32)) w = some ((), w') ∧ OldW w w' 66 ∧ sh w' 66 = (23, 4) ∧ nx w' = 75 ∧ ∀ s, s < 4 → wr w' 66 s = 67 + 2 * s ∧ HSh w' (67 + 2 * s) := by
  refine loopE (R := fun o => ∃ w', o = some ((), w') ∧ OldW w w' 66 ∧ sh w' 66 = (23, 4) ∧ nx w' = 75 ∧ ∀ s, s < 4 → wr w' 66 s = 67 + 2 * s ∧ HSh w' (67 + 2 * s)) (I := fun i v w2 => v = (32, nI i) ∧ OldW w w2 66 ∧ sh w2 66 = (23, 4) ∧ nx w2 = 67 + 2 * i ∧ ∀ s, s < i → wr w2 66 s = 67 + 2 * s ∧ HSh w2 (67 + 2 * s)) 4 ?_ ?_ 5 _ w (by decide) ⟨rfl, OldW.rf, h3, h4, fun s hs => absurd hs (Nat.not_lt_zero s)⟩
  · intro i v w2 hi hI
    obtain ⟨rfl, i1, i2, i3, i4⟩ := hI
    obtain ⟨w3, e3, O3, N3, S3⟩ := sheet_i i3
    have o32 := i1 32 (by decide)
    have o66 := O3 66 (by omega)
    refine ⟨(32, nI (i + 1)), sR w3 66 i (67 + 2 * i), ⟨rfl, (i1.tr (O3.le (by omega))).tr (oldR (Nat.le_refl _)), by rw [sh_sR, o66.1]; exact i2, by rw [nx_sR, N3]; omega, fun s hs => ?_⟩, fun k => ?_⟩
    · have hr : HSh w3 (67 + 2 * s) → HSh (sR w3 66 i (67 + 2 * i)) (67 + 2 * s) := fun ⟨z1, z2, z3, z4, z5⟩ => ⟨z1, by rw [wr_sR_ne (by omega)]; exact z2, z3, z4, z5⟩
      rw [wr_sR]
      by_cases e : s = i
      · rw [if_pos ⟨rfl, e⟩, e]
        exact ⟨rfl, by rw [e] at hr; exact hr S3⟩
      · rw [if_neg (fun z => e z.2), o66.2.2]
        exact ⟨(i4 s (by omega)).1, hr ((i4 s (by omega)).2.old O3 (by omega))⟩
    · unfold b5_init_116 lw
      dsimp only
      rw [ck_pos (tg_eq (o32.1.trans h1)), o32.2.2, h2, ck_pos (tg_eq i2), ln_eq i2, if_neg (show ¬ Int32.ofNat 4 ≤ nI i from nI_ge (b := 4) hi (by omega)), i3, e3, Option.bind_some]
      dsimp only
      have l3 : ln w3 66 = 4 := by unfold ln; rw [o66.1, i2]
      rw [l3, ck_pos (vin hi (by decide)), nI_clamp (by omega), i3_1]
  · intro v w2 hI k
    obtain ⟨rfl, i1, i2, i3, i4⟩ := hI
    have o32 := i1 32 (by decide)
    refine ⟨w2, ?_, i1, i2, i3, i4⟩
    unfold b5_init_116
    dsimp only
    rw [ck_pos (tg_eq (o32.1.trans h1)), o32.2.2, h2, ck_pos (tg_eq i2), ln_eq i2, if_pos (show Int32.ofNat 4 ≤ nI 4 from Int32.le_refl _)]
