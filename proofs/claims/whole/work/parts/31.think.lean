/-! the thought starts as what is; the reference keeps and lays back -/
theorem frE {w : Wd} {q k : Nat} {v : Int32} : Fr (· = q) w (sI w q k v) := Fr.sI (P := (· = q)) rfl
theorem frR {w : Wd} {q k v : Nat} : Fr (· = q) w (sR w q k v) := Fr.sR (P := (· = q)) rfl
theorem bath_cls {w : Wd} {p q : Nat} (hp : tg w p = 0) (hq : tg w q = 0) (hne : p ≠ q) : ∃ w', f0_becomeAs p q w = some ((), w') ∧ Fr (· = p) w w' ∧ (∀ j, j < 5 → wi w' p j = wi w q j) ∧ ∀ a, wr w' a = wr w a := by
  refine ⟨sI (sI (sI (sI (sI w p 0 (wi w q 0)) p 1 (wi w q 1)) p 2 (wi w q 2)) p 3 (wi w q 3)) p 4 (wi w q 4), ?_, ?_, ?_, fun _ => rfl⟩
  · unfold f0_becomeAs
    rw [ck_pos hq, ck_pos hp]
    unfold lw
    dsimp only
    have e : ∀ (w : Wd) (k : Nat) (x : Int32) (j : Nat), wi (sI w p k x) q j = wi w q j := fun w k x j => wi_sI_ne (fun h => hne h.symm) j
    simp only [e]
  · exact (((frE.tr frE).tr frE).tr frE).tr frE
  · intro j hj
    rcases (by omega : j = 0 ∨ j = 1 ∨ j = 2 ∨ j = 3 ∨ j = 4) with rfl | rfl | rfl | rfl | rfl <;> simp [wi_sI]
def inH (a q : Nat) : Prop := a ≤ q ∧ q < a + 8
theorem hut_cls {w : Wd} {a c many : Nat} {s : HS} {F B G : List Int32} (hs : HutS w a) (hc : HutC w c many s F B G) (hd : a + 8 ≤ c ∨ c + 8 ≤ a) (ht : ¬ inH a (wr w c 5)) (hk : ¬ inH a (wr w (wr w c 5) 1)) :
    ∃ w', f1_becomeAs a c w = some ((), w') ∧ Fr (inH a) w w' ∧ HutC w' a many s F B G ∧ wr w' a 5 = wr w c 5 := by
  obtain ⟨s1, s2, s3, s4⟩ := hs
  have hc' := id hc
  obtain ⟨a1, a2, a3, a4, a5, a6, a7, a8, a9, a10⟩ := hc'
  have hac : c ≠ a := by omega
  have inA : inH a a := ⟨Nat.le_refl _, by omega⟩
  generalize hw0 : sR (sI (sI (sI (sI (sI w a 0 (s.1 0)) a 1 (s.1 1)) a 2 (s.1 2)) a 3 (s.1 3)) a 4 (nI many)) a 5 (wr w c 5) = w0
  have F0 : Fr (inH a) w w0 := by rw [← hw0]; exact ((((((Fr.sI inA).tr (Fr.sI inA)).tr (Fr.sI inA)).tr (Fr.sI inA)).tr (Fr.sI inA)).tr (Fr.sR inA))
  have F0' : Fr (· = a) w w0 := by rw [← hw0]; exact ((((frE.tr frE).tr frE).tr frE).tr frE).tr frR
  have h0k : ∀ k, k < 4 → wi w0 a k = s.1 k := by
    rw [← hw0]
    intro k hk
    rcases (by omega : k = 0 ∨ k = 1 ∨ k = 2 ∨ k = 3) with rfl | rfl | rfl | rfl <;> simp [wi_sI, wi_sR]
  have h04 : wi w0 a 4 = nI many := by rw [← hw0]; simp [wi_sI, wi_sR]
  have h05 : wr w0 a 5 = wr w c 5 := by rw [← hw0]; simp [wr_sR]
  have h06 : wr w0 a 6 = a + 1 := by rw [← hw0]; simp [wr_sR, wr_sI, s2]
  have loop : ∃ w', loopF b1_becomeAs_50 FU (a, c, (0 : Int32)) w0 = some ((), w') ∧ (Fr (inH a) w w' ∧ (∀ q, (a + 2 ≤ q ∧ q < a + 8) ∨ wi w' q = wi w0 q) ∧ (∀ q, wr w' q = wr w0 q)) ∧ ∀ b, b < many → ∀ j, j < 5 → wi w' (a + 2 + b) j = s.2 b j := by
    refine loopE (R := fun o => ∃ w', o = some ((), w') ∧ (Fr (inH a) w w' ∧ (∀ q, (a + 2 ≤ q ∧ q < a + 8) ∨ wi w' q = wi w0 q) ∧ (∀ q, wr w' q = wr w0 q)) ∧ ∀ b, b < many → ∀ j, j < 5 → wi w' (a + 2 + b) j = s.2 b j) (I := fun i v w1 => v = (a, c, nI i) ∧ (Fr (inH a) w w1 ∧ (∀ q, (a + 2 ≤ q ∧ q < a + 8) ∨ wi w1 q = wi w0 q) ∧ (∀ q, wr w1 q = wr w0 q)) ∧ ∀ b, b < i → ∀ j, j < 5 → wi w1 (a + 2 + b) j = s.2 b j) many ?_ ?_ FU _ w0 (by show many < 1000; omega) ⟨rfl, ⟨F0, fun q => Or.inr rfl, fun q => rfl⟩, fun b hb => absurd hb (Nat.not_lt_zero b)⟩
    · intro i v w1 hi hI
      obtain ⟨rfl, ⟨i1, i2, i3⟩, i4⟩ := hI
      have e4 : wi w1 a 4 = nI many := by rcases i2 a with h | h; omega; rw [h]; exact h04
      have e6 : wr w1 a 6 = a + 1 := by rw [i3]; exact h06
      have c1 : ¬ inH a c := fun h => by unfold inH at h; omega
      have c2 : ¬ inH a (c + 1) := fun h => by unfold inH at h; omega
      have c3 : ∀ b, b < 6 → ¬ inH a (c + 2 + b) := fun b hb h => by unfold inH at h; omega
      have ec6 : wr w1 c 6 = c + 1 := by rw [(i1.2.2 c c1).2]; exact a2
      have eca : wr w1 (c + 1) i = c + 2 + i := by rw [(i1.2.2 _ c2).2]; exact (a4 i (by omega)).1
      have eaa : wr w1 (a + 1) i = a + 2 + i := by
        rw [i3, (F0'.2.2 (a + 1) (by omega)).2]
        exact (s4 i (by omega)).1
      obtain ⟨w2, b1, b2, b3, b5⟩ := bath_cls (w := w1) (p := a + 2 + i) (q := c + 2 + i) (tg_eq ((i1.1 _).trans (s4 i (by omega)).2)) (tg_eq ((i1.1 _).trans (a4 i (by omega)).2)) (by omega)
      refine ⟨(a, c, nI (i + 1)), w2, ⟨rfl, ⟨i1.tr (b2.mono fun q hq => by subst hq; exact ⟨by omega, by omega⟩), fun q => ?_, fun q => ?_⟩, fun b hb j hj => ?_⟩, fun k => ?_⟩
      · rcases i2 q with h | h
        · exact Or.inl h
        · by_cases hq : q = a + 2 + i
          · exact Or.inl ⟨by omega, by omega⟩
          · right
            rw [← h]
            exact funext (b2.2.2 q hq).1
      · rw [b5, i3]
      · by_cases hbi : b = i
        · subst hbi
          rw [b3 j hj, (i1.2.2 _ (c3 b (by omega))).1]
          exact a8 b hi j hj
        · rw [(b2.2.2 (a + 2 + b) (by omega)).1]
          exact i4 b (by omega) j hj
      · unfold b1_becomeAs_50
        dsimp only
        have v6 : vp_in (nI i) 6 := vin (by omega) (by omega)
        have ci : (nI i).toNatClampNeg = i := nI_clamp (by omega)
        rw [ck_pos (tg_eq ((i1.1 _).trans s1)), e4, if_neg (nI_ge hi (by omega)), e6, ln_eq ((i1.1 _).trans s3), ck_pos (And.intro (tg_eq ((i1.1 _).trans s3)) v6), ck_pos (tg_eq ((i1.1 _).trans a1)), ec6, ln_eq ((i1.1 _).trans a3), ck_pos (And.intro (tg_eq ((i1.1 _).trans a3)) v6), ci, eaa, eca, ck_pos (tg_eq ((i1.1 _).trans (s4 i (by omega)).2)), b1, Option.bind_some, i3_1]
    · intro v w1 hI k
      obtain ⟨rfl, ⟨i1, i2, i3⟩, i4⟩ := hI
      have e4 : wi w1 a 4 = nI many := by rcases i2 a with h | h; omega; rw [h]; exact h04
      refine ⟨w1, ?_, ⟨i1, i2, i3⟩, i4⟩
      unfold b1_becomeAs_50
      dsimp only
      rw [ck_pos (tg_eq ((i1.1 _).trans s1)), e4, if_pos (Int32.le_refl _)]
  obtain ⟨w', l1, ⟨l2, l3, l4⟩, l5⟩ := loop
  refine ⟨w', ?_, l2, ?_, by rw [l4]; exact h05⟩
  · unfold f1_becomeAs
    rw [ck_pos (tg_eq a1), ck_pos (tg_eq s1)]
    unfold lw
    dsimp only
    have e : ∀ (w : Wd) (k : Nat) (x : Int32) (j : Nat), wi (sI w a k x) c j = wi w c j := fun w k x j => wi_sI_ne hac j
    simp only [e, wr_sI, a5 0 (by decide), a5 1 (by decide), a5 2 (by decide), a5 3 (by decide), a6]
    rw [hw0]
    exact l1
  · have ea : wi w' a = wi w0 a := by rcases l3 a with h | h; omega; exact h
    refine ⟨by rw [l2.1]; exact s1, by rw [l4]; exact h06, by rw [l2.1]; exact s3, fun b hb => ⟨by rw [l4, (F0'.2.2 (a + 1) (by omega)).2]; exact (s4 b hb).1, by rw [l2.1]; exact (s4 b hb).2⟩, fun k hk => by rw [ea]; exact h0k k hk, by rw [ea]; exact h04, a7, l5, ?_, a10⟩
    rw [l4, h05]
    exact a9.fr l2 ht hk
