/-! the reference in thought -/
theorem RM.upd {S : SS} {w w' : Wd} {c' : CO} (h : RM S w) (hM : ModC w' c'.2.1 c'.2.2 c'.1 (pgs S.2.1 c'.2.2).1 (pgs S.2.1 c'.2.2).2.1 (pgs S.2.1 c'.2.2).2.2) (hq : ∀ q, 80 ≤ q → q ≤ 87 → ∀ k, wi w' q k = wi w q k) (hk : ∀ k, k = 6 ∨ k = 9 ∨ k = 11 → wi w' 75 k = wi w 75 k) : RM (c', S.2) w' := by
  obtain ⟨a1, ⟨b1, b2⟩, ⟨c1, c2⟩, ⟨d1, d2⟩, e1⟩ := h
  have g := fun q h1 h2 => hq q h1 h2
  refine ⟨hM, ⟨by rw [hk 9 (by decide)]; exact b1, fun t ht => ?_⟩, ⟨by rw [hk 6 (by decide)]; exact c1, fun j b hb => by rw [g 80 (by decide) (by decide)]; exact c2 j b hb⟩, ⟨by rw [hk 11 (by decide)]; exact d1, fun c hc => by simp only [g 83 (by decide) (by decide), g 84 (by decide) (by decide)]; exact d2 c hc⟩, fun s hs => by simp only [g 85 (by decide) (by decide), g 86 (by decide) (by decide), g 87 (by decide) (by decide)]; exact e1 s hs⟩
  have hp := b2 t ht
  unfold ProgM at hp ⊢
  simp only [g 81 (by decide) (by decide), g 82 (by decide) (by decide)]
  exact hp
/-- what a thought of the reference writes -/
def TP (q : Nat) : Prop := q = 78 ∨ q = 79 ∨ q = 91 ∨ q = 92
def KP (q : Nat) : Prop := TP q ∨ q = 93
theorem RM.fr {S : SS} {w w' : Wd} {c' : CO} {P : Nat → Prop} (h : RM S w) (hM : ModC w' c'.2.1 c'.2.2 c'.1 (pgs S.2.1 c'.2.2).1 (pgs S.2.1 c'.2.2).2.1 (pgs S.2.1 c'.2.2).2.2) (hF : Fr P w w') (hP : ∀ q, P q → KP q) : RM (c', S.2) w' := by
  refine h.upd hM (fun q a b => (hF.2.2 q fun z => ?_).1) (fun k _ => (hF.2.2 75 fun z => ?_).1 k)
  · have := hP q z; unfold KP TP at this; omega
  · have := hP _ z; unfold KP TP at this; omega
theorem kpC {w w' : Wd} (h : Fr KP w w') : OffC w w' := h.offC fun q z => by unfold KP TP at z; omega
theorem tpC {w w' : Wd} (h : Fr TP w w') : OffC w w' := kpC (h.mono fun _ => Or.inl)
/-- the state that is kept -/
def KM (w : Wd) (many : Nat) (s : HS) : Prop := (∀ b, b < many → wi w 93 (3 * b) = s.2 b 2 ∧ wi w 93 (3 * b + 1) = s.2 b 3 ∧ wi w 93 (3 * b + 2) = s.2 b 4) ∧ ∀ k, k < 4 → wi w 93 (18 + k) = s.1 k
theorem KM.fr {w w' : Wd} {many : Nat} {s : HS} {P : Nat → Prop} (h : KM w many s) (hF : Fr P w w') (h1 : ¬ P 93) : KM w' many s := by
  unfold KM at h ⊢
  simp only [(hF.2.2 93 h1).1]
  exact h
theorem n18 (i : Nat) : (18 : Int32) + nI i = nI (18 + i) := by rw [← nI_add]; rfl
theorem keeps_ref {w : Wd} {many t : Nat} {s : HS} {F B G : List Int32} (h : ModC w many t s F B G) : ∃ w', f6_keeps 75 w = some ((), w') ∧ Fr (· = 93) w w' ∧ ModC w' many t s F B G ∧ KM w' many s := by
  have h' := id h
  obtain ⟨a1, a2, a3, a4, a5, a6, a7, a8, a9⟩ := h'
  have key : ∃ w', f6_keeps 75 w = some ((), w') ∧ Fr (· = 93) w w' ∧ (∀ j, j < 18 → wi w' 93 j = wi w 78 j) ∧ ∀ k, k < 4 → wi w' 93 (18 + k) = wi w 79 k := by
    unfold f6_keeps
    refine loopE (R := fun o => ∃ w', o = some ((), w') ∧ Fr (· = 93) w w' ∧ (∀ j, j < 18 → wi w' 93 j = wi w 78 j) ∧ ∀ k, k < 4 → wi w' 93 (18 + k) = wi w 79 k) (I := fun i v w1 => v = (75, nI i) ∧ Fr (· = 93) w w1 ∧ ∀ j, j < i → wi w1 93 j = wi w 78 j) 18 ?_ ?_ FU _ w (by decide) ⟨rfl, Fr.rf, fun j hj => absurd hj (Nat.not_lt_zero j)⟩
    · intro i v w1 hi hI
      obtain ⟨rfl, i1, i2⟩ := hI
      have b1 := a1.fr i1 (by decide)
      refine ⟨(75, nI (i + 1)), sI w1 93 i (wi w1 78 i), ⟨rfl, i1.tr (Fr.sI rfl), fun j hj => ?_⟩, fun k => ?_⟩
      · rw [wi_sI]
        by_cases e : j = i
        · rw [if_pos ⟨rfl, e⟩, (i1.2.2 78 (by decide)).1, e]
        · rw [if_neg (fun z => e z.2)]
          exact i2 j (by omega)
      · unfold b6_keeps_2
        dsimp only
        have v18 : vp_in (nI i) 18 := vin (by omega) (by omega)
        have v22 : vp_in (nI i) 22 := vin (by omega) (by omega)
        have ci : (nI i).toNatClampNeg = i := nI_clamp (by omega)
        rw [if_neg (show ¬ (18 : Int32) ≤ nI i from nI_ge (b := 18) hi (by omega)), ck_pos b1.t, b1.r3, b1.l3, ck_pos (And.intro b1.t3 v18), b1.r29, b1.l29, ck_pos (And.intro b1.t29 v22), ci, i3_1]
        rfl
    · intro v w1 hI k
      obtain ⟨rfl, i1, i2⟩ := hI
      unfold b6_keeps_2
      dsimp only
      rw [if_pos (by decide)]
      refine loopE (R := fun o => ∃ w', o = some ((), w') ∧ Fr (· = 93) w w' ∧ (∀ j, j < 18 → wi w' 93 j = wi w 78 j) ∧ ∀ k, k < 4 → wi w' 93 (18 + k) = wi w 79 k) (I := fun i v w2 => v = (75, nI i) ∧ Fr (· = 93) w w2 ∧ (∀ j, j < 18 → wi w2 93 j = wi w 78 j) ∧ ∀ j, j < i → wi w2 93 (18 + j) = wi w 79 j) 4 ?_ ?_ FU _ w1 (by decide) ⟨rfl, i1, i2, fun j hj => absurd hj (Nat.not_lt_zero j)⟩
      · intro i v w2 hi hI
        obtain ⟨rfl, i1, i2, i3'⟩ := hI
        have b1 := a1.fr i1 (by decide)
        refine ⟨(75, nI (i + 1)), sI w2 93 (18 + i) (wi w2 79 i), ⟨rfl, i1.tr (Fr.sI rfl), fun j hj => ?_, fun j hj => ?_⟩, fun k => ?_⟩
        · rw [wi_sI, if_neg (fun z => by omega)]
          exact i2 j hj
        · rw [wi_sI]
          by_cases e : j = i
          · rw [if_pos ⟨rfl, by rw [e]⟩, (i1.2.2 79 (by decide)).1, e]
          · rw [if_neg (fun z => e (by omega))]
            exact i3' j (by omega)
        · unfold b6_keeps_28
          dsimp only
          have v4 : vp_in (nI i) 4 := vin (by omega) (by omega)
          have v22 : vp_in (nI (18 + i)) 22 := vin (by omega) (by omega)
          have ci : (nI i).toNatClampNeg = i := nI_clamp (by omega)
          have ci2 : (nI (18 + i)).toNatClampNeg = 18 + i := nI_clamp (by omega)
          rw [if_neg (show ¬ (4 : Int32) ≤ nI i from nI_ge (b := 4) hi (by omega)), ck_pos b1.t, b1.r4, b1.l4, ck_pos (And.intro b1.t4 v4), n18, b1.r29, b1.l29, ck_pos (And.intro b1.t29 v22), ci, ci2, i3_1]
          rfl
      · intro v w2 hI k
        obtain ⟨rfl, i1, i2, i3'⟩ := hI
        refine ⟨w2, ?_, i1, i2, i3'⟩
        unfold b6_keeps_28
        dsimp only
        rw [if_pos (by decide)]
  obtain ⟨w', k1, k2, k3, k4⟩ := key
  refine ⟨w', k1, k2, h.fr k2 (by decide) (by decide) (by decide) (by decide) (by decide) (by decide) (by decide), fun b hb => ?_, fun k hk => by rw [k4 k hk]; exact a4 k hk⟩
  rw [k3 _ (by omega), k3 _ (by omega), k3 _ (by omega)]
  exact ⟨(a5 b hb).2.2.1, (a5 b hb).2.2.2.1, (a5 b hb).2.2.2.2⟩
theorem lays_ref {w : Wd} {many t : Nat} {s c : HS} {F B G : List Int32} (h : ModC w many t c F B G) (hK : KM w many s) (h01 : ∀ b, b < many → c.2 b 0 = s.2 b 0 ∧ c.2 b 1 = s.2 b 1) : ∃ w', f6_lays 75 w = some ((), w') ∧ Fr (fun q => q = 78 ∨ q = 79) w w' ∧ ModC w' many t s F B G := by
  have h' := id h
  obtain ⟨a1, a2, a3, a4, a5, a6, a7, a8, a9⟩ := h'
  have n75 : ¬ (fun q => q = 78 ∨ q = 79) 75 := by decide
  have key : ∃ w', f6_lays 75 w = some ((), w') ∧ Fr (fun q => q = 78 ∨ q = 79) w w' ∧ (∀ j, j < 18 → wi w' 78 j = wi w 93 j) ∧ ∀ k, k < 4 → wi w' 79 k = wi w 93 (18 + k) := by
    unfold f6_lays
    refine loopE (R := fun o => ∃ w', o = some ((), w') ∧ Fr (fun q => q = 78 ∨ q = 79) w w' ∧ (∀ j, j < 18 → wi w' 78 j = wi w 93 j) ∧ ∀ k, k < 4 → wi w' 79 k = wi w 93 (18 + k)) (I := fun i v w1 => v = (75, nI i) ∧ Fr (fun q => q = 78 ∨ q = 79) w w1 ∧ ∀ j, j < i → wi w1 78 j = wi w 93 j) 18 ?_ ?_ FU _ w (by decide) ⟨rfl, Fr.rf, fun j hj => absurd hj (Nat.not_lt_zero j)⟩
    · intro i v w1 hi hI
      obtain ⟨rfl, i1, i2⟩ := hI
      have b1 := a1.fr i1 n75
      refine ⟨(75, nI (i + 1)), sI w1 78 i (wi w1 93 i), ⟨rfl, i1.tr (Fr.sI (Or.inl rfl)), fun j hj => ?_⟩, fun k => ?_⟩
      · rw [wi_sI]
        by_cases e : j = i
        · rw [if_pos ⟨rfl, e⟩, (i1.2.2 93 (by decide)).1, e]
        · rw [if_neg (fun z => e z.2)]
          exact i2 j (by omega)
      · unfold b6_lays_2
        dsimp only
        have v18 : vp_in (nI i) 18 := vin (by omega) (by omega)
        have v22 : vp_in (nI i) 22 := vin (by omega) (by omega)
        have ci : (nI i).toNatClampNeg = i := nI_clamp (by omega)
        rw [if_neg (show ¬ (18 : Int32) ≤ nI i from nI_ge (b := 18) hi (by omega)), ck_pos b1.t, b1.r29, b1.l29, ck_pos (And.intro b1.t29 v22), b1.r3, b1.l3, ck_pos (And.intro b1.t3 v18), ci, i3_1]
        rfl
    · intro v w1 hI k
      obtain ⟨rfl, i1, i2⟩ := hI
      unfold b6_lays_2
      dsimp only
      rw [if_pos (by decide)]
      refine loopE (R := fun o => ∃ w', o = some ((), w') ∧ Fr (fun q => q = 78 ∨ q = 79) w w' ∧ (∀ j, j < 18 → wi w' 78 j = wi w 93 j) ∧ ∀ k, k < 4 → wi w' 79 k = wi w 93 (18 + k)) (I := fun i v w2 => v = (75, nI i) ∧ Fr (fun q => q = 78 ∨ q = 79) w w2 ∧ (∀ j, j < 18 → wi w2 78 j = wi w 93 j) ∧ ∀ j, j < i → wi w2 79 j = wi w 93 (18 + j)) 4 ?_ ?_ FU _ w1 (by decide) ⟨rfl, i1, i2, fun j hj => absurd hj (Nat.not_lt_zero j)⟩
      · intro i v w2 hi hI
        obtain ⟨rfl, i1, i2, i3'⟩ := hI
        have b1 := a1.fr i1 n75
        refine ⟨(75, nI (i + 1)), sI w2 79 i (wi w2 93 (18 + i)), ⟨rfl, i1.tr (Fr.sI (Or.inr rfl)), fun j hj => ?_, fun j hj => ?_⟩, fun k => ?_⟩
        · rw [wi_sI, if_neg (fun z => by omega)]
          exact i2 j hj
        · rw [wi_sI]
          by_cases e : j = i
          · rw [if_pos ⟨rfl, e⟩, (i1.2.2 93 (by decide)).1, e]
          · rw [if_neg (fun z => e z.2)]
            exact i3' j (by omega)
        · unfold b6_lays_28
          dsimp only
          have v4 : vp_in (nI i) 4 := vin (by omega) (by omega)
          have v22 : vp_in (nI (18 + i)) 22 := vin (by omega) (by omega)
          have ci : (nI i).toNatClampNeg = i := nI_clamp (by omega)
          have ci2 : (nI (18 + i)).toNatClampNeg = 18 + i := nI_clamp (by omega)
          rw [if_neg (show ¬ (4 : Int32) ≤ nI i from nI_ge (b := 4) hi (by omega)), ck_pos b1.t, n18, b1.r29, b1.l29, ck_pos (And.intro b1.t29 v22), b1.r4, b1.l4, ck_pos (And.intro b1.t4 v4), ci, ci2, i3_1]
          rfl
      · intro v w2 hI k
        obtain ⟨rfl, i1, i2, i3'⟩ := hI
        refine ⟨w2, ?_, i1, i2, i3'⟩
        unfold b6_lays_28
        dsimp only
        rw [if_pos (by decide)]
  obtain ⟨w', k1, k2, k3, k4⟩ := key
  have g := fun q (hq : ¬ (q = 78 ∨ q = 79)) => (k2.2.2 q hq).1
  obtain ⟨p1, p2, p3, p4, p5, p6, p7⟩ := a7
  refine ⟨w', k1, k2, a1.fr k2 n75, by rw [g 75 (by decide)]; exact a2, a3, fun k hk => by rw [k4 k hk]; exact hK.2 k hk, fun b hb => ?_, by rw [g 75 (by decide)]; exact a6, ⟨p1, ?_⟩, a8, a9⟩
  · rw [k3 _ (by omega), k3 _ (by omega), k3 _ (by omega), g 76 (by decide), g 77 (by decide), ← (h01 b hb).1, ← (h01 b hb).2]
    exact ⟨(a5 b hb).1, (a5 b hb).2.1, (hK.1 b hb).1, (hK.1 b hb).2.1, (hK.1 b hb).2.2⟩
  · simp only [g 82 (by decide), g 81 (by decide)]
    exact ⟨p2, p3, p4, p5, p6, p7⟩
