/-! the hut's minute, in numbers; and the class's hut -/
abbrev HS : Type := (Nat → Int32) × (Nat → Nat → Int32)
def setr (r : Nat → Int32) (k : Nat) (v : Int32) : Nat → Int32 := fun j => if j = k then v else r j
def upR (ba : Nat → Nat → Int32) (b : Nat) (r : Nat → Int32) : Nat → Nat → Int32 := fun x => if x = b then r else ba x
def syM (F B G : List Int32) (part : Int32) (env : Int32 → Int32) : Int32 := sayM part (partP F B G part) env
def feelsM (sy : Int32 → (Int32 → Int32) → Int32) (h r : Nat → Int32) : Int32 :=
  if r 0 = 5 then r 1 else if r 0 = 3 then (if h 2 ≤ 9 then sy 0 (envM h r) else 2 * sy 0 (envM h r)) else if r 0 = 2 then (if r 2 = 0 then sy 0 (envM h r) / 2 else sy 0 (envM h r)) else if r 0 = 4 then (if r 2 = 0 then sy 0 (envM h r) / 2 else sy 0 (envM h r)) - r 1 else sy 0 (envM h r)
def bearsM (sy : Int32 → (Int32 → Int32) → Int32) (h r : Nat → Int32) : Int32 :=
  if r 0 = 1 then sy 1 (envM h r) + 10 * r 1 else if r 0 = 2 then sy 1 (envM h r) / 2 else if r 0 = 3 then sy 1 (envM h r) + 10 * r 1 else if r 0 = 4 then sy 1 (envM h r) / 2 else sy 1 (envM h r)
def gladM (sy : Int32 → (Int32 → Int32) → Int32) (h r : Nat → Int32) (nin : Int32) : Int32 :=
  if r 0 = 5 ∧ ¬ h 1 ≤ 300 then 99 else if r 0 = 4 then sy 2 (envM h r) + nin else if r 0 = 1 then (if r 2 = 2 then sy 2 (envM h r) + r 1 else sy 2 (envM h r)) else if r 0 = 3 then (if r 2 = 2 then sy 2 (envM h r) + r 1 else sy 2 (envM h r)) / 2 else sy 2 (envM h r)
/-- how many are IN, of the first m -/
def inN (ba : Nat → Nat → Int32) : Nat → Nat
  | 0 => 0
  | m + 1 => if ba m 2 = 3 then inN ba m else inN ba m + 1
theorem inN_succ (ba : Nat → Nat → Int32) (m : Nat) : inN ba (m + 1) = if ba m 2 = 3 then inN ba m else inN ba m + 1 := rfl
theorem inN_le (ba : Nat → Nat → Int32) : ∀ m, inN ba m ≤ m
  | 0 => Nat.le_refl 0
  | m + 1 => by
    have := inN_le ba m
    unfold inN
    split <;> omega
def loseM (s : Int32) : Int32 := if 0 < s - 1 then s - 1 else 0
/-- one who is IN: the state behind one's minute, and whether one goes OUT -/
def outM (sy : Int32 → (Int32 → Int32) → Int32) (many : Nat) (s : HS) (b : Nat) : HS × Bool :=
  let r := s.2 b
  let r1 := setr (setr r 3 (bnd (r 3 + feelsM sy s.1 r) 0 999)) 4 (bnd (r 4 + gladM sy s.1 r (nI (inN s.2 many))) 0 999)
  if bearsM sy s.1 r1 < r1 3 then ((setr s.1 2 (loseM (s.1 2)), upR s.2 b (setr r1 2 3)), true) else ((s.1, upR s.2 b r1), false)
def stepM (sy : Int32 → (Int32 → Int32) → Int32) (many : Nat) (s : HS) (b : Nat) : HS × Bool :=
  if s.2 b 2 = 3 then ((s.1, upR s.2 b (setr (s.2 b) 3 (if 0 < s.2 b 3 - 5 then s.2 b 3 - 5 else 0))), false) else outM sy many s b
def bitI (b : Nat) : Int32 := (1 : Int32) <<< (nI b &&& 31)
def minF (sy : Int32 → (Int32 → Int32) → Int32) (many : Nat) (s : HS) : Nat → HS × Int32
  | 0 => (s, 0)
  | b + 1 => ((stepM sy many (minF sy many s b).1 b).1, if (stepM sy many (minF sy many s b).1 b).2 = true then (minF sy many s b).2 ||| bitI b else (minF sy many s b).2)
theorem minF_succ (sy : Int32 → (Int32 → Int32) → Int32) (many : Nat) (s : HS) (b : Nat) : minF sy many s (b + 1) = ((stepM sy many (minF sy many s b).1 b).1, if (stepM sy many (minF sy many s b).1 b).2 = true then (minF sy many s b).2 ||| bitI b else (minF sy many s b).2) := rfl
def endM (h : Nat → Int32) : Nat → Int32 := setr (setr (setr h 2 (loseM (h 2))) 1 (if 0 < h 1 - 2 then h 1 - 2 else 0)) 0 (h 0 + 1)
def minM (sy : Int32 → (Int32 → Int32) → Int32) (many : Nat) (s : HS) : HS := (endM (minF sy many s many).1.1, (minF sy many s many).1.2)
def goneM (sy : Int32 → (Int32 → Int32) → Int32) (many : Nat) (s : HS) : Int32 := (minF sy many s many).2
/-- a hut of the class -/
def HutC (w : Wd) (a many : Nat) (s : HS) (F B G : List Int32) : Prop :=
  sh w a = (1, 0) ∧ wr w a 6 = a + 1 ∧ sh w (a + 1) = (22, 6) ∧ (∀ b, b < 6 → wr w (a + 1) b = a + 2 + b ∧ sh w (a + 2 + b) = (0, 0)) ∧ (∀ k, k < 4 → wi w a k = s.1 k) ∧ wi w a 4 = nI many ∧ many ≤ 6 ∧ (∀ b, b < many → ∀ j, j < 5 → wi w (a + 2 + b) j = s.2 b j) ∧ TxtAt w (wr w a 5) F B G ∧ (okP F 0 ∧ okP B 0 ∧ okP G 0)
def stk (w : Wd) (a : Nat) : Nat := wr w (wr w a 5) 4
def HutP (S a : Nat) (q : Nat) : Prop := q = S ∨ (a ≤ q ∧ q < a + 8)
theorem HutC.ne {w : Wd} {a many : Nat} {s : HS} {F B G : List Int32} (h : HutC w a many s F B G) : a ≠ stk w a ∧ a + 1 ≠ stk w a ∧ (∀ b, b < 6 → a + 2 + b ≠ stk w a) ∧ wr w a 5 ≠ stk w a ∧ wr w (wr w a 5) 1 ≠ stk w a ∧ (a ≤ stk w a → a + 8 ≤ stk w a) := by
  obtain ⟨h1, h2, h3, h4, -, -, -, -, ⟨t1, t2, -, -, -, t6, t7, -⟩, -⟩ := h
  have g1 : a ≠ stk w a := fun e => by have := h1; rw [e] at this; exact absurd (this.symm.trans t6) (by decide)
  have g2 : a + 1 ≠ stk w a := fun e => by have := h3; rw [e] at this; exact absurd (this.symm.trans t6) (by decide)
  have g3 : ∀ b, b < 6 → a + 2 + b ≠ stk w a := fun b hb e => by have := (h4 b hb).2; rw [e] at this; exact absurd (this.symm.trans t6) (by decide)
  refine ⟨g1, g2, g3, fun e => ?_, t7, fun hle => ?_⟩
  · have := t1; rw [e] at this; exact absurd (this.symm.trans t6) (by decide)
  · rcases Nat.lt_or_ge (stk w a) (a + 8) with g | g
    · exfalso
      rcases Nat.lt_or_ge (stk w a) (a + 2) with g4 | g4
      · omega
      · exact g3 (stk w a - (a + 2)) (by omega) (by omega)
    · exact g
theorem TxtAt.fr {w w' : Wd} {T : Nat} {F B G : List Int32} {P : Nat → Prop} (h : TxtAt w T F B G) (hF : Fr P w w') (h1 : ¬ P T) (h2 : ¬ P (wr w T 1)) : TxtAt w' T F B G := by
  obtain ⟨t1, t2, t3, t4, t5, t6, t7, t8⟩ := h
  have e := hF.2.2 T h1
  have e2 := hF.2.2 _ h2
  unfold TxtAt
  simp only [e.2, e.1, hF.1, e2.1]
  exact ⟨t1, t2, t3, t4, t5, t6, t7, t8⟩
/-- what only writes elsewhere -/
theorem HutC.fr {w w' : Wd} {a many : Nat} {s : HS} {F B G : List Int32} {P : Nat → Prop} (h : HutC w a many s F B G) (hF : Fr P w w') (h1 : ∀ q, a ≤ q → q < a + 8 → ¬ P q) (h2 : ¬ P (wr w a 5)) (h3 : ¬ P (wr w (wr w a 5) 1)) : HutC w' a many s F B G ∧ stk w' a = stk w a := by
  obtain ⟨a1, a2, a3, a4, a5, a6, a7, a8, a9, a10⟩ := h
  have ea := hF.2.2 a (h1 a (Nat.le_refl _) (by omega))
  have ea1 := hF.2.2 (a + 1) (h1 _ (by omega) (by omega))
  refine ⟨⟨by rw [hF.1]; exact a1, by rw [ea.2]; exact a2, by rw [hF.1]; exact a3, fun b hb => ⟨by rw [ea1.2]; exact (a4 b hb).1, by rw [hF.1]; exact (a4 b hb).2⟩, fun k hk => by rw [ea.1]; exact a5 k hk, by rw [ea.1]; exact a6, a7, fun b hb j hj => by rw [(hF.2.2 (a + 2 + b) (h1 _ (by omega) (by omega))).1]; exact a8 b hb j hj, by rw [ea.2]; exact a9.fr hF h2 h3, a10⟩, ?_⟩
  unfold stk
  rw [ea.2, (hF.2.2 _ h2).2]
theorem HutC.frS {w w' : Wd} {a many : Nat} {s : HS} {F B G : List Int32} (h : HutC w a many s F B G) (hF : Fr (· = stk w a) w w') : HutC w' a many s F B G ∧ stk w' a = stk w a := by
  obtain ⟨g1, g2, g3, g4, g5, g6⟩ := h.ne
  exact h.fr hF (fun q h1 h2 e => by have := g6 (by omega); omega) g4 g5
theorem HutC.setB {w : Wd} {a many b j : Nat} {x : Int32} {s : HS} {F B G : List Int32} (h : HutC w a many s F B G) (hb : b < many) : HutC (sI w (a + 2 + b) j x) a many (s.1, upR s.2 b (setr (s.2 b) j x)) F B G := by
  obtain ⟨a1, a2, a3, a4, a5, a6, a7, a8, a9, a10⟩ := h
  have hT : wr w a 5 ≠ a + 2 + b := fun e => by have := a9.1; rw [e, (a4 b (by omega)).2] at this; exact absurd this (by decide)
  have hC : wr w (wr w a 5) 1 ≠ a + 2 + b := fun e => by have := a9.2.1; rw [e, (a4 b (by omega)).2] at this; exact absurd this (by intro h; cases h)
  refine ⟨a1, a2, a3, a4, fun k hk => by rw [wi_sI_ne (by omega)]; exact a5 k hk, by rw [wi_sI_ne (by omega)]; exact a6, a7, fun b' hb' j' hj' => ?_, a9.fr (P := (· = a + 2 + b)) (Fr.sI rfl) hT hC, a10⟩
  rw [wi_sI]
  show _ = upR s.2 b _ b' j'
  unfold upR setr
  by_cases e : b' = b
  · subst e
    rw [if_pos rfl]
    by_cases e2 : j' = j
    · rw [if_pos ⟨rfl, e2⟩, if_pos e2]
    · rw [if_neg (fun z => e2 z.2), if_neg e2]
      exact a8 b' hb' j' hj'
  · rw [if_neg (by omega), if_neg e]
    exact a8 b' hb' j' hj'
theorem HutC.setH {w : Wd} {a many k : Nat} {x : Int32} {s : HS} {F B G : List Int32} (h : HutC w a many s F B G) (hk : k < 4) : HutC (sI w a k x) a many (setr s.1 k x, s.2) F B G := by
  obtain ⟨a1, a2, a3, a4, a5, a6, a7, a8, a9, a10⟩ := h
  have hT : wr w a 5 ≠ a := fun e => by have := a9.1; rw [e, a1] at this; exact absurd this (by decide)
  have hC : wr w (wr w a 5) 1 ≠ a := fun e => by have := a9.2.1; rw [e, a1] at this; exact absurd this (by intro h; cases h)
  refine ⟨a1, a2, a3, a4, fun k' hk' => ?_, by rw [wi_sI, if_neg (by omega)]; exact a6, a7, fun b hb j hj => by rw [wi_sI_ne (by omega)]; exact a8 b hb j hj, a9.fr (P := (· = a)) (Fr.sI rfl) hT hC, a10⟩
  rw [wi_sI]
  show _ = setr s.1 k x k'
  unfold setr
  by_cases e : k' = k
  · rw [if_pos ⟨rfl, e⟩, if_pos e]
  · rw [if_neg (fun z => e z.2), if_neg e]
    exact a5 k' hk'
theorem HutC.env {w : Wd} {a many b : Nat} {s : HS} {F B G : List Int32} (h : HutC w a many s F B G) (hb : b < many) : envM (wi w a) (wi w (a + 2 + b)) = envM s.1 (s.2 b) := by
  obtain ⟨a1, a2, a3, a4, a5, a6, a7, a8, a9, a10⟩ := h
  funext c
  unfold envM
  rw [a5 1 (by decide), a5 2 (by decide), a5 0 (by decide), a8 b hb 2 (by decide), a8 b hb 3 (by decide), a8 b hb 1 (by decide)]
theorem HutC.says {w : Wd} {a many b : Nat} {s : HS} {F B G : List Int32} {part : Int32} (h : HutC w a many s F B G) (hb : b < many) (hp : part = 0 ∨ part = 1 ∨ part = 2) :
    ∃ w', f4_says (wr w a 5) part a (a + 2 + b) w = some (syM F B G part (envM s.1 (s.2 b)), w') ∧ Fr (· = stk w a) w w' ∧ HutC w' a many s F B G ∧ stk w' a = stk w a := by
  have h' := id h
  obtain ⟨a1, a2, a3, a4, a5, a6, a7, a8, a9, a10⟩ := h'
  obtain ⟨w', e1, e2⟩ := says_cls a9 hp a10 (tg_eq a1) (tg_eq (a4 b (by omega)).2)
  rw [h.env hb] at e1
  exact ⟨w', e1, e2, h.frS e2⟩
theorem HutC.row {w : Wd} {a many b j : Nat} {s : HS} {F B G : List Int32} (h : HutC w a many s F B G) (hb : b < many) (hj : j < 5) : wi w (a + 2 + b) j = s.2 b j := h.2.2.2.2.2.2.2.1 b hb j hj
theorem HutC.hut {w : Wd} {a many k : Nat} {s : HS} {F B G : List Int32} (h : HutC w a many s F B G) (hk : k < 4) : wi w a k = s.1 k := h.2.2.2.2.1 k hk
theorem HutC.tgB {w : Wd} {a many b : Nat} {s : HS} {F B G : List Int32} (h : HutC w a many s F B G) (hb : b < many) : tg w (a + 2 + b) = 0 := tg_eq (h.2.2.2.1 b (by have := h.2.2.2.2.2.2.1; omega)).2
theorem HutC.tgA {w : Wd} {a many : Nat} {s : HS} {F B G : List Int32} (h : HutC w a many s F B G) : tg w a = 1 := tg_eq h.1
theorem HutC.tgT {w : Wd} {a many : Nat} {s : HS} {F B G : List Int32} (h : HutC w a many s F B G) : tg w (wr w a 5) = 4 := tg_eq h.2.2.2.2.2.2.2.2.1.1
theorem feels_cls {w : Wd} {a many b : Nat} {s : HS} {F B G : List Int32} (h : HutC w a many s F B G) (hb : b < many) :
    ∃ w', f1_feelsOf a (a + 2 + b) w = some (feelsM (syM F B G) s.1 (s.2 b), w') ∧ Fr (· = stk w a) w w' ∧ HutC w' a many s F B G ∧ stk w' a = stk w a := by
  unfold f1_feelsOf
  rw [ck_pos (h.tgB hb), h.row hb (by decide)]
  by_cases k5 : s.2 b 0 = 5
  · exact ⟨w, by rw [if_pos k5]; unfold feelsM; rw [if_pos k5, h.row hb (by decide)], Fr.rf, h, rfl⟩
  · obtain ⟨w', e1, e2, e3, e4⟩ := h.says (part := 0) hb (Or.inl rfl)
    refine ⟨w', ?_, e2, e3, e4⟩
    rw [if_neg k5, ck_pos h.tgA, ck_pos h.tgT, e1, Option.bind_some]
    dsimp only
    unfold j1_feelsOf_67 j1_feelsOf_81 feelsM
    rw [e3.row hb (by decide), e3.row hb (by decide), e3.row hb (by decide), e3.hut (by decide), if_neg k5, ck_pos (e3.tgB hb), ck_pos (e3.tgB hb)]
    by_cases k3 : s.2 b 0 = 3
    · rw [if_pos k3, if_pos k3]; split <;> rfl
    · rw [if_neg k3, if_neg k3]
      by_cases k2 : s.2 b 0 = 2
      · rw [if_pos k2, if_pos k2, k2]
        simp only [show ¬ (2 : Int32) = 4 by decide, if_false]
        split <;> first | rfl | rw [ck_pos (e3.tgB hb)]
      · rw [if_neg k2, if_neg k2]
        by_cases k4 : s.2 b 0 = 4
        · rw [if_pos k4, if_pos k4, k4]
          simp only [if_true]
          split <;> first | rfl | rw [ck_pos (e3.tgB hb)]
        · rw [if_neg k4, if_neg k4]
theorem bears_cls {w : Wd} {a many b : Nat} {s : HS} {F B G : List Int32} (h : HutC w a many s F B G) (hb : b < many) :
    ∃ w', f1_bearsOf a (a + 2 + b) w = some (bearsM (syM F B G) s.1 (s.2 b), w') ∧ Fr (· = stk w a) w w' ∧ HutC w' a many s F B G ∧ stk w' a = stk w a := by
  obtain ⟨w', e1, e2, e3, e4⟩ := h.says (part := 1) hb (Or.inr (Or.inl rfl))
  refine ⟨w', ?_, e2, e3, e4⟩
  unfold f1_bearsOf bearsM
  rw [ck_pos h.tgA, ck_pos h.tgT, e1, Option.bind_some]
  dsimp only
  rw [ck_pos (e3.tgB hb), e3.row hb (by decide), e3.row hb (by decide)]
  repeat' split
  all_goals first | rfl | (simp_all; done)
theorem in_cls {w : Wd} {a many : Nat} {s : HS} {F B G : List Int32} (h : HutC w a many s F B G) : f1_bathersIn a w = some (nI (inN s.2 many), w) := by
  have h' := id h
  obtain ⟨a1, a2, a3, a4, a5, a6, a7, a8, a9, a10⟩ := h'
  unfold f1_bathersIn
  refine loopE (R := fun o => o = some (nI (inN s.2 many), w)) (I := fun i v w1 => w1 = w ∧ v = (a, nI (inN s.2 i), nI i)) many ?_ ?_ FU _ w (by show many < 1000; omega) ⟨rfl, rfl⟩
  · intro i v w1 hi hI
    obtain ⟨rfl, rfl⟩ := hI
    refine ⟨(a, nI (inN s.2 (i + 1)), nI (i + 1)), w1, ⟨rfl, rfl⟩, fun k => ?_⟩
    unfold b1_bathersIn_4 j1_bathersIn_28
    dsimp only
    rw [ck_pos h.tgA, a6, if_neg (nI_ge hi (by omega)), a2, ln_eq a3, ck_pos (And.intro (tg_eq a3) (vin (by omega) (by omega))), nI_clamp (by omega), (a4 i (by omega)).1, ck_pos (h.tgB hi), h.row hi (by decide), i3_1, i3_1, inN_succ]
    split <;> rfl
  · intro v w1 hI k
    obtain ⟨rfl, rfl⟩ := hI
    unfold b1_bathersIn_4
    dsimp only
    rw [ck_pos h.tgA, a6, if_pos (Int32.le_refl _)]
theorem glad_cls {w : Wd} {a many b : Nat} {s : HS} {F B G : List Int32} (h : HutC w a many s F B G) (hb : b < many) :
    ∃ w', f1_gladOf a (a + 2 + b) w = some (gladM (syM F B G) s.1 (s.2 b) (nI (inN s.2 many)), w') ∧ Fr (· = stk w a) w w' ∧ HutC w' a many s F B G ∧ stk w' a = stk w a := by
  have rest : ¬ (s.2 b 0 = 5 ∧ ¬ s.1 1 ≤ 300) → ∃ w', j1_gladOf_21 a (a + 2 + b) w = some (gladM (syM F B G) s.1 (s.2 b) (nI (inN s.2 many)), w') ∧ Fr (· = stk w a) w w' ∧ HutC w' a many s F B G ∧ stk w' a = stk w a := by
    intro hne
    obtain ⟨w', e1, e2, e3, e4⟩ := h.says (part := 2) hb (Or.inr (Or.inr rfl))
    refine ⟨w', ?_, e2, e3, e4⟩
    unfold j1_gladOf_21 gladM
    rw [if_neg hne, ck_pos h.tgA, ck_pos h.tgT, e1, Option.bind_some]
    dsimp only
    rw [ck_pos (e3.tgB hb), in_cls e3, Option.bind_some]
    unfold j1_gladOf_65 j1_gladOf_83
    rw [e3.row hb (by decide), e3.row hb (by decide), e3.row hb (by decide)]
    simp only [ck_pos (e3.tgB hb)]
    by_cases k4 : s.2 b 0 = 4
    · rw [if_pos k4, if_pos k4]
    · rw [if_neg k4, if_neg k4]
      by_cases k1 : s.2 b 0 = 1
      · rw [if_pos k1, if_pos k1, k1]
        simp only [show ¬ (1 : Int32) = 3 by decide, if_false]
        split <;> rfl
      · rw [if_neg k1, if_neg k1]
        by_cases k3 : s.2 b 0 = 3
        · rw [if_pos k3, if_pos k3, k3]
          simp only [if_true]
          split <;> rfl
        · rw [if_neg k3, if_neg k3]
  unfold f1_gladOf
  rw [ck_pos (h.tgB hb), h.row hb (by decide), h.hut (by decide), ck_pos h.tgA]
  by_cases k5 : s.2 b 0 = 5
  · rw [if_pos k5]
    by_cases k300 : s.1 1 ≤ 300
    · rw [if_pos k300]
      exact rest fun z => z.2 k300
    · rw [if_neg k300]
      refine ⟨w, ?_, Fr.rf, h, rfl⟩
      unfold gladM
      rw [if_pos ⟨k5, k300⟩]
  · rw [if_neg k5]
    exact rest fun z => k5 z.1
theorem lose_cls {w : Wd} {a many : Nat} {s : HS} {F B G : List Int32} (h : HutC w a many s F B G) :
    f1_loseSteam a w = some ((), sI w a 2 (loseM (s.1 2))) := by
  unfold f1_loseSteam loseM
  rw [ck_pos h.tgA, h.hut (by decide)]
  rfl
theorem HutC.ext {w : Wd} {a many : Nat} {s s' : HS} {F B G : List Int32} (h : HutC w a many s F B G) (h1 : ∀ k, s.1 k = s'.1 k) (h2 : ∀ b j, s.2 b j = s'.2 b j) : HutC w a many s' F B G := by
  have e : s = s' := Prod.ext (funext h1) (funext fun b => funext fun j => h2 b j)
  exact e ▸ h
theorem upR_at (ba : Nat → Nat → Int32) (b : Nat) (r : Nat → Int32) : upR ba b r b = r := if_pos rfl
theorem upR_up (ba : Nat → Nat → Int32) (b : Nat) (r r' : Nat → Int32) : upR (upR ba b r) b r' = upR ba b r' := by
  funext x
  unfold upR
  split <;> rfl
theorem stk_sI (w : Wd) (q k : Nat) (x : Int32) (a : Nat) : stk (sI w q k x) a = stk w a := rfl
theorem sweat_cls {w : Wd} {a many b : Nat} {s : HS} {F B G : List Int32} (h : HutC w a many s F B G) (hb : b < many) :
    ∃ w', f1_sweatsOut a (a + 2 + b) w = some ((if (outM (syM F B G) many s b).2 = true then 1 else 0), w') ∧ Fr (HutP (stk w a) a) w w' ∧ HutC w' a many (outM (syM F B G) many s b).1 F B G ∧ stk w' a = stk w a := by
  have hmany : many ≤ 6 := h.2.2.2.2.2.2.1
  obtain ⟨w1, p1, p2, p3, p4⟩ := feels_cls h hb
  obtain ⟨w2, q1, q2, q3, q4⟩ := glad_cls p3 hb
  have q4' : stk w2 a = stk w a := q4.trans p4
  rw [p4] at q2
  have s3 := q3.setB (j := 3) (x := bnd (s.2 b 3 + feelsM (syM F B G) s.1 (s.2 b)) 0 999) hb
  have s4 := s3.setB (j := 4) (x := bnd (s.2 b 4 + gladM (syM F B G) s.1 (s.2 b) (nI (inN s.2 many))) 0 999) hb
  have e4 : ((s.1, upR s.2 b (setr (s.2 b) 3 (bnd (s.2 b 3 + feelsM (syM F B G) s.1 (s.2 b)) 0 999))) : HS).2 b 4 = s.2 b 4 := by
    show upR s.2 b _ b 4 = _
    rw [upR_at]
    rfl
  dsimp only at s4
  rw [upR_at, upR_up] at s4
  generalize hr1 : setr (setr (s.2 b) 3 (bnd (s.2 b 3 + feelsM (syM F B G) s.1 (s.2 b)) 0 999)) 4 (bnd (s.2 b 4 + gladM (syM F B G) s.1 (s.2 b) (nI (inN s.2 many))) 0 999) = r1 at s4
  obtain ⟨w5, t1, t2, t3, t4⟩ := bears_cls s4 hb
  dsimp only at t1
  rw [upR_at] at t1
  rw [stk_sI, stk_sI, q4'] at t2 t4
  have inP : ∀ b, b < 6 → HutP (stk w a) a (a + 2 + b) := fun b hb => Or.inr ⟨by omega, by omega⟩
  have F5 : Fr (HutP (stk w a) a) w w5 := (((p2.mono fun q h => Or.inl h).tr (q2.mono fun q h => Or.inl h)).tr ((Fr.sI (inP b (by omega))).tr (Fr.sI (inP b (by omega))))).tr (t2.mono fun q h => Or.inl h)
  have out : outM (syM F B G) many s b = if bearsM (syM F B G) s.1 r1 < r1 3 then ((setr s.1 2 (loseM (s.1 2)), upR s.2 b (setr r1 2 3)), true) else ((s.1, upR s.2 b r1), false) := by
    unfold outM
    dsimp only
    rw [hr1]
  have hr3 : wi (sI (sI w2 (a + 2 + b) 3 (bnd (s.2 b 3 + feelsM (syM F B G) s.1 (s.2 b)) 0 999)) (a + 2 + b) 4 (bnd (s.2 b 4 + gladM (syM F B G) s.1 (s.2 b) (nI (inN s.2 many))) 0 999)) (a + 2 + b) 3 = r1 3 := by
    rw [s4.row hb (by decide)]
    dsimp only
    rw [upR_at]
  have run : f1_sweatsOut a (a + 2 + b) w = if bearsM (syM F B G) s.1 r1 < r1 3 then some (1, sI (sI w5 (a + 2 + b) 2 3) a 2 (loseM (s.1 2))) else some (0, w5) := by
    unfold f1_sweatsOut
    rw [ck_pos h.tgA, p1, Option.bind_some]
    dsimp only
    rw [q1, Option.bind_some]
    dsimp only
    rw [ck_pos (q3.tgB hb), q3.row hb (by decide)]
    unfold f5_bounded
    rw [Option.bind_some]
    dsimp only
    rw [bnd_cls (by decide)]
    simp only [lw]
    rw [s3.row hb (by decide), e4, Option.bind_some]
    dsimp only
    rw [bnd_cls (by decide), t1, Option.bind_some]
    dsimp only
    rw [hr3]
    split
    · have s6 := t3.setB (j := 2) (x := 3) hb
      rw [lose_cls s6]
      rfl
    · rfl
  rw [run, out]
  by_cases hc : bearsM (syM F B G) s.1 r1 < r1 3
  · rw [if_pos hc, if_pos hc]
    have s6 := t3.setB (j := 2) (x := 3) hb
    dsimp only at s6
    rw [upR_at, upR_up] at s6
    have s7 := s6.setH (k := 2) (x := loseM (s.1 2)) (by decide)
    exact ⟨_, rfl, F5.tr ((Fr.sI (inP b (by omega))).tr (Fr.sI (Or.inr ⟨by omega, by omega⟩))), s7, t4⟩
  · rw [if_neg hc, if_neg hc]
    exact ⟨_, rfl, F5, t3, t4⟩
theorem minute_cls {w : Wd} {a many : Nat} {s : HS} {F B G : List Int32} (h : HutC w a many s F B G) :
    ∃ w', f1_passMinute a w = some (goneM (syM F B G) many s, w') ∧ Fr (HutP (stk w a) a) w w' ∧ HutC w' a many (minM (syM F B G) many s) F B G ∧ stk w' a = stk w a := by
  have hmany : many ≤ 6 := h.2.2.2.2.2.2.1
  unfold f1_passMinute
  refine loopE (R := fun o => ∃ w', o = some (goneM (syM F B G) many s, w') ∧ Fr (HutP (stk w a) a) w w' ∧ HutC w' a many (minM (syM F B G) many s) F B G ∧ stk w' a = stk w a) (I := fun i v w1 => v = (a, (minF (syM F B G) many s i).2, nI i) ∧ Fr (HutP (stk w a) a) w w1 ∧ HutC w1 a many (minF (syM F B G) many s i).1 F B G ∧ stk w1 a = stk w a) many ?_ ?_ FU _ w (by show many < 1000; omega) ⟨rfl, Fr.rf, h, rfl⟩
  · intro i v w1 hi hI
    obtain ⟨rfl, i1, i2, i3⟩ := hI
    have i2' := id i2
    obtain ⟨a1, a2, a3, a4, a5, a6, a7, a8, a9, a10⟩ := i2'
    have inP : HutP (stk w a) a (a + 2 + i) := Or.inr ⟨by omega, by omega⟩
    have hb : ∀ k, b1_passMinute_4 k (a, (minF (syM F B G) many s i).2, nI i) w1 = (if (minF (syM F B G) many s i).1.2 i 2 = 3 then j1_passMinute_58 k a (minF (syM F B G) many s i).2 (nI i) (sI w1 (a + 2 + i) 3 (if 0 < (minF (syM F B G) many s i).1.2 i 3 - 5 then (minF (syM F B G) many s i).1.2 i 3 - 5 else 0)) else (f1_sweatsOut a (a + 2 + i) w1).bind fun z15 => if z15.1 = 0 then j1_passMinute_58 k a (minF (syM F B G) many s i).2 (nI i) z15.2 else j1_passMinute_58 k a ((minF (syM F B G) many s i).2 ||| ((1 : Int32) <<< (nI i &&& 31))) (nI i) z15.2) := by
      intro k
      unfold b1_passMinute_4
      dsimp only
      rw [ck_pos i2.tgA, a6, if_neg (nI_ge hi (by omega)), a2, ln_eq a3, ck_pos (And.intro (tg_eq a3) (vin (by omega) (by omega))), nI_clamp (by omega), (a4 i (by omega)).1, ck_pos (i2.tgB hi), i2.row hi (by decide), i2.row hi (by decide)]
      rfl
    unfold j1_passMinute_58 at hb
    rw [i3_1] at hb
    by_cases ho : (minF (syM F B G) many s i).1.2 i 2 = 3
    · refine ⟨_, _, ⟨?_, i1.tr (Fr.sI inP), ?_, i3⟩, fun k => by rw [hb, if_pos ho]⟩
      · show _ = (a, (minF (syM F B G) many s (i + 1)).2, nI (i + 1))
        rw [minF_succ]
        unfold stepM
        rw [if_pos ho]
        rfl
      · have := i2.setB (j := 3) (x := if 0 < (minF (syM F B G) many s i).1.2 i 3 - 5 then (minF (syM F B G) many s i).1.2 i 3 - 5 else 0) hi
        show HutC _ a many (stepM _ _ _ _).1 F B G
        unfold stepM
        rw [if_pos ho]
        exact this
    · obtain ⟨w2, b1, b2, b3, b4⟩ := sweat_cls i2 hi
      rw [i3] at b2 b4
      refine ⟨_, w2, ⟨rfl, i1.tr b2, ?_, b4⟩, fun k => ?_⟩
      · show HutC _ a many (stepM _ _ _ _).1 F B G
        unfold stepM
        rw [if_neg ho]
        exact b3
      · rw [hb, if_neg ho, b1, Option.bind_some]
        dsimp only
        show _ = k (a, (if (stepM (syM F B G) many (minF (syM F B G) many s i).1 i).2 = true then _ else _), nI (i + 1)) w2
        unfold stepM
        rw [if_neg ho]
        by_cases hg : (outM (syM F B G) many (minF (syM F B G) many s i).1 i).2 = true
        · rw [if_pos hg, if_pos hg, if_neg (by decide)]
          rfl
        · rw [if_neg hg, if_neg hg, if_pos rfl]
  · intro v w1 hI k
    obtain ⟨rfl, i1, i2, i3⟩ := hI
    have i2' := id i2
    obtain ⟨a1, a2, a3, a4, a5, a6, a7, a8, a9, a10⟩ := i2'
    have inP : HutP (stk w a) a a := Or.inr ⟨by omega, by omega⟩
    have s1 := i2.setH (k := 2) (x := loseM ((minF (syM F B G) many s many).1.1 2)) (by decide)
    have s2 := s1.setH (k := 1) (x := if 0 < (minF (syM F B G) many s many).1.1 1 - 2 then (minF (syM F B G) many s many).1.1 1 - 2 else 0) (by decide)
    have s3 := s2.setH (k := 0) (x := (minF (syM F B G) many s many).1.1 0 + 1) (by decide)
    refine ⟨_, ?_, i1.tr (((Fr.sI inP).tr (Fr.sI inP)).tr (Fr.sI inP)), s3, i3⟩
    unfold b1_passMinute_4
    dsimp only
    rw [ck_pos i2.tgA, a6, if_pos (Int32.le_refl _), lose_cls i2, Option.bind_some]
    simp only [lw]
    have g1 : wi (sI w1 a 2 (loseM ((minF (syM F B G) many s many).1.1 2))) a 1 = (minF (syM F B G) many s many).1.1 1 := by
      rw [wi_sI, if_neg (by omega)]
      exact i2.hut (by decide)
    have g0 : ∀ x, wi (sI (sI w1 a 2 (loseM ((minF (syM F B G) many s many).1.1 2))) a 1 x) a 0 = (minF (syM F B G) many s many).1.1 0 := by
      intro x
      rw [wi_sI, if_neg (by omega), wi_sI, if_neg (by omega)]
      exact i2.hut (by decide)
    rw [g1, g0]
    rfl
