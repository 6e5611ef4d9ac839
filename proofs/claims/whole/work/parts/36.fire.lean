/-! what a call changes of the hut -/
def setHS (S : SS) (k : Nat) (v : Int32) : SS := (((setr S.1.1.1 k v, S.1.1.2), S.1.2), S.2)
def setBS (S : SS) (b j : Nat) (v : Int32) : SS := (((S.1.1.1, upR S.1.1.2 b (setr (S.1.1.2 b) j v)), S.1.2), S.2)
theorem hutS_sI {w : Wd} {a q k : Nat} {v : Int32} (h : HutS w a) : HutS (sI w q k v) a := h
theorem RC.h50 {S : SS} {w : Wd} (h : RC S w) : HutS w 50 := h.1.2.2.2.1.2.1
theorem nc42 {q : Nat} (h1 : 42 ≤ q) (h2 : q < 50) : NC q := Or.inl ⟨h1, h2⟩
theorem RC.setH {S : SS} {w : Wd} {k : Nat} {v : Int32} (h : RC S w) (hk : k < 4) : RC (setHS S k v) (sI w 42 k v) :=
  h.upd (c' := ((setr S.1.1.1 k v, S.1.1.2), S.1.2)) (Fr.sI (nc42 (by decide) (by decide))) ⟨h.hc.setH hk, h.2.1.2.1, h.2.1.2.2⟩ h.h50
theorem RC.setB {S : SS} {w : Wd} {b j : Nat} {v : Int32} (h : RC S w) (hb : b < S.1.2.1) : RC (setBS S b j v) (sI w (42 + 2 + b) j v) :=
  h.upd (c' := ((S.1.1.1, upR S.1.1.2 b (setr (S.1.1.2 b) j v)), S.1.2)) (Fr.sI (nc42 (by omega) (by have := h.hc.2.2.2.2.2.2.1; omega))) ⟨h.hc.setB hb, h.2.1.2.1, h.2.1.2.2⟩ h.h50
theorem offH {w : Wd} {q k : Nat} {v : Int32} (h1 : 42 ≤ q) (h2 : q < 50) : OffM w (sI w q k v) := ncM (Fr.sI (nc42 h1 h2))
theorem RM.setH {S : SS} {w : Wd} {k : Nat} {v : Int32} (h : RM S w) (hk : k < 4) : RM (setHS S k v) (sI w 79 k v) :=
  RM.fr (S := S) (c' := ((setr S.1.1.1 k v, S.1.1.2), S.1.2)) (P := TP) h (h.1.setH hk) (Fr.sI (Or.inr (Or.inl rfl))) (fun _ => Or.inl)
theorem RM.setB {S : SS} {w : Wd} {b j : Nat} {v : Int32} (h : RM S w) (hb : b < S.1.2.1) (hj : j < 3) : RM (setBS S b (j + 2) v) (sI w 78 (3 * b + j) v) :=
  RM.fr (S := S) (c' := ((S.1.1.1, upR S.1.1.2 b (setr (S.1.1.2 b) (j + 2) v)), S.1.2)) (P := TP) h (h.1.setB hb hj) (Fr.sI (Or.inl rfl)) (fun _ => Or.inl)
theorem off78 {w : Wd} {q k : Nat} {v : Int32} (h : TP q) : OffC w (sI w q k v) := tpC (Fr.sI h)
theorem SI.upd {S : SS} {c' : CO} (h : SI S) (hc : okCO S.2.1 c') (hm : c'.2.1 = S.1.2.1) (hk : ∀ b, b < S.1.2.1 → c'.1.2 b 0 = S.1.1.2 b 0 ∧ c'.1.2 b 1 = S.1.1.2 b 1) : SI (c', S.2) := by
  obtain ⟨a1, a2, a3, a4, a5⟩ := h
  refine ⟨hc, a2, a3, fun c e => ?_, a5⟩
  obtain ⟨b1, b2, b3⟩ := a4 c e
  refine ⟨b1, by show c.2.1 ≤ c'.2.1; rw [hm]; exact b2, fun b hb => ?_⟩
  rw [(b3 b hb).1, (b3 b hb).2]
  exact ⟨(hk b (by omega)).1.symm, (hk b (by omega)).2.symm⟩
def mostK (k : Nat) : Int := if k = 0 then 999 else if k = 1 then 999 else 99
theorem setr_at (h : Nat → Int32) (k : Nat) (v : Int32) : setr h k v k = v := if_pos rfl
theorem setr_ne {h : Nat → Int32} {k j : Nat} {v : Int32} (e : j ≠ k) : setr h k v j = h j := if_neg e
theorem SI.setH {S : SS} {k : Nat} {v : Int32} (h : SI S) (hk : k < 4) (hv : rng v 0 (mostK k)) : SI (setHS S k v) := by
  obtain ⟨⟨a1, a2, ⟨a3, a4, a5⟩, a6, a7⟩, _⟩ := id h
  refine h.upd (c' := ((setr S.1.1.1 k v, S.1.1.2), S.1.2)) ⟨a1, a2, ⟨?_, ?_, a5⟩, ?_, ?_⟩ rfl fun b _ => ⟨rfl, rfl⟩
  all_goals dsimp only
  all_goals unfold setr
  all_goals split
  all_goals first | assumption | (rename_i e; subst e; exact hv)
theorem SI.setB {S : SS} {b j : Nat} {v : Int32} (h : SI S) (hj : j = 2 ∧ rng v 0 3 ∨ (j = 3 ∨ j = 4) ∧ rng v 0 999) : SI (setBS S b j v) := by
  obtain ⟨⟨a1, a2, ⟨a3, a4, a5⟩, a6, a7⟩, _⟩ := id h
  have e : ∀ i, i < 2 → ∀ x, upR S.1.1.2 b (setr (S.1.1.2 b) j v) x i = S.1.1.2 x i := by
    intro i hi x
    unfold upR
    split
    · rename_i e; subst e; exact setr_ne (by omega)
    · rfl
  refine h.upd (c' := ((S.1.1.1, upR S.1.1.2 b (setr (S.1.1.2 b) j v)), S.1.2)) ⟨a1, a2, ⟨a3, a4, ?_⟩, a6, a7⟩ rfl fun x _ => ⟨e 0 (by decide) x, e 1 (by decide) x⟩
  intro x hx
  dsimp only
  unfold upR
  split
  · rename_i ex
    subst ex
    obtain ⟨r0, r1, r2, r3, r4⟩ := a5 x hx
    unfold setr
    refine ⟨?_, ?_, ?_, ?_, ?_⟩ <;> (dsimp only; split) <;> first | assumption | (rcases hj with ⟨q, z⟩ | ⟨q, z⟩ <;> first | exact z | omega)
  · exact a5 x hx
theorem SI.hrng {S : SS} (h : SI S) {k : Nat} (hk : k < 4) : rng (S.1.1.1 k) 0 (mostK k) := by
  obtain ⟨⟨a1, a2, ⟨a3, a4, a5⟩, a6, a7⟩, _⟩ := h
  rcases (by omega : k = 0 ∨ k = 1 ∨ k = 2 ∨ k = 3) with rfl | rfl | rfl | rfl <;> assumption
/-- fire -/
theorem most_c {k : Nat} (hk : k < 4) (w : Wd) : f5_mostOf (nI k) w = some ((if k = 0 then 999 else if k = 1 then 999 else 99), w) := by
  rcases (by omega : k = 0 ∨ k = 1 ∨ k = 2 ∨ k = 3) with rfl | rfl | rfl | rfl <;> rfl
theorem most_int {k : Nat} (hk : k < 4) : (if k = 0 then (999 : Int32) else if k = 1 then 999 else 99).toInt = mostK k := by
  rcases (by omega : k = 0 ∨ k = 1 ∨ k = 2 ∨ k = 3) with rfl | rfl | rfl | rfl <;> rfl
theorem fire_pair (x v : Int32) : Pair (f5_fire 32 x v) (f6_fire 75 x v) := pair_of fun S hS => by
  by_cases hx : 0 ≤ x ∧ x ≤ 3
  · obtain ⟨k, hk, rfl⟩ := four x hx
    have hr := hS.hrng hk
    have h2 : ¬ S.1.1.1 k = -2 := fun e => by rw [e] at hr; have := hr.1; revert this; decide
    by_cases hv : rng v 0 (mostK k)
    · refine ⟨(S.1.1.1 k, setHS S k v), fun w h => ⟨sI w 42 k v, ?_, h.setH hk, offH (by decide) (by decide)⟩, fun w h => ⟨sI w 79 k v, ?_, h.setH hk, off78 (Or.inr (Or.inl rfl))⟩, hS.setH hk hv⟩
      · unfold f5_fire
        rw [ck_pos h.t, hut_c (nI k) h, Option.bind_some, hutA_k S hk, if_neg h2]
        dsimp only
        rw [if_neg (by rw [ilt, show (0 : Int32).toInt = 0 from rfl]; have := hv.1; omega), most_c hk, Option.bind_some, if_pos (by dsimp only; rw [ile, most_int hk]; exact hv.2)]
        dsimp only
        rw [h.r3, ck_pos h.t42, ck_pos h.t42, ck_pos h.t42, ck_pos h.t42]
        rcases (by omega : k = 0 ∨ k = 1 ∨ k = 2 ∨ k = 3) with rfl | rfl | rfl | rfl <;> rfl
      · unfold f6_fire
        have e0 : ∀ s, s.toInt = mostK k → j6_fire_24 75 (nI k) v s 0 v w = some (S.1.1.1 k, sI w 79 k v) := by
          intro s hs
          unfold j6_fire_24
          rcases within2 v 0 s with ⟨h1, h3⟩ | ⟨h1, h3⟩
          · rw [(h3 w).1, Option.bind_some, if_neg (show ¬ (1 : Int32) = 0 by decide)]
            dsimp only
            rw [ck_pos h.1.1.t, h.1.1.r4, h.1.1.l4, ck_pos (And.intro h.1.1.t4 (vin hk (by decide))), ck_pos (vin hk (by decide)), nI_clamp (by omega), h.1.2.2.2.1 k hk]
            rfl
          · exact absurd ⟨by rw [ile]; exact hv.1, by rw [ile, hs]; exact hv.2⟩ h1
        rcases within2 (nI k) 0 3 with ⟨h1, h3⟩ | ⟨h1, h3⟩
        · rw [(h3 w).1, Option.bind_some, if_neg (show ¬ (1 : Int32) = 0 by decide)]
          dsimp only
          by_cases h2k : (2 : Int32) ≤ nI k
          · rw [if_pos h2k]
            refine e0 99 ?_
            rcases (by omega : k = 0 ∨ k = 1 ∨ k = 2 ∨ k = 3) with rfl | rfl | rfl | rfl <;> first | rfl | exact absurd h2k (by decide)
          · rw [if_neg h2k]
            refine e0 999 ?_
            rcases (by omega : k = 0 ∨ k = 1 ∨ k = 2 ∨ k = 3) with rfl | rfl | rfl | rfl <;> first | rfl | exact absurd (by decide) h2k
        · exact absurd hx h1
    · refine ⟨(-2, S), fun w h => ⟨w, ?_, h, OffM.rf⟩, fun w h => ⟨w, ?_, h, OffC.rf⟩, hS⟩
      · unfold f5_fire
        rw [ck_pos h.t, hut_c (nI k) h, Option.bind_some, hutA_k S hk, if_neg h2]
        dsimp only
        by_cases hv0 : v < 0
        · rw [if_pos hv0]
        · rw [if_neg hv0, most_c hk, Option.bind_some, if_neg]
          dsimp only
          rw [ilt, show (0 : Int32).toInt = 0 from rfl] at hv0
          rw [ile, most_int hk]
          exact fun z => hv ⟨by omega, z⟩
      · unfold f6_fire
        have e0 : ∀ s, s.toInt = mostK k → j6_fire_24 75 (nI k) v s 0 v w = some (-2, w) := by
          intro s hs
          unfold j6_fire_24
          rcases within2 v 0 s with ⟨h1, h3⟩ | ⟨h1, h3⟩
          · rw [ile, ile, hs] at h1
            exact absurd h1 hv
          · rw [(h3 w).1, Option.bind_some, if_pos rfl]
        rcases within2 (nI k) 0 3 with ⟨h1, h3⟩ | ⟨h1, h3⟩
        · rw [(h3 w).1, Option.bind_some, if_neg (show ¬ (1 : Int32) = 0 by decide)]
          dsimp only
          by_cases h2k : (2 : Int32) ≤ nI k
          · rw [if_pos h2k]
            refine e0 99 ?_
            rcases (by omega : k = 0 ∨ k = 1 ∨ k = 2 ∨ k = 3) with rfl | rfl | rfl | rfl <;> first | rfl | exact absurd h2k (by decide)
          · rw [if_neg h2k]
            refine e0 999 ?_
            rcases (by omega : k = 0 ∨ k = 1 ∨ k = 2 ∨ k = 3) with rfl | rfl | rfl | rfl <;> first | rfl | exact absurd (by decide) h2k
        · exact absurd hx h1
  · refine ⟨(-2, S), fun w h => ⟨w, ?_, h, OffM.rf⟩, fun w h => ⟨w, ?_, h, OffC.rf⟩, hS⟩
    · unfold f5_fire
      rw [ck_pos h.t, hut_c x h, Option.bind_some, hutA_no S hx, if_pos rfl]
    · unfold f6_fire
      rcases within2 x 0 3 with ⟨h1, h3⟩ | ⟨h1, h3⟩
      · exact absurd h1 hx
      · rw [(h3 w).1, Option.bind_some, if_pos rfl]
