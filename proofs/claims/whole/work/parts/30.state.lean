/-! the state that both hold -/
abbrev PG : Type := List Int32 × List Int32 × List Int32
/-- a hut: state, how many bathers, which text -/
abbrev CO : Type := HS × Nat × Nat
abbrev SS : Type := CO × List PG × List Int32 × Option CO × (Nat → Int32 × List Int32)
def pgs (T : List PG) (t : Nat) : PG := T.getD t ([], [], [])
def okPG (p : PG) : Prop := (okP p.1 0 ∧ okP p.2.1 0 ∧ okP p.2.2 0) ∧ (∀ c ∈ p.1 ++ p.2.1 ++ p.2.2, okC c) ∧ (p.1 ++ p.2.1 ++ p.2.2).length ≤ 200
def sySS (T : List PG) (t : Nat) : Int32 → (Int32 → Int32) → Int32 := syM (pgs T t).1 (pgs T t).2.1 (pgs T t).2.2
def okCO (T : List PG) (c : CO) : Prop := c.2.1 ≤ 6 ∧ c.2.2 < T.length ∧ Rg c.2.1 c.1 ∧ rng (c.1.1 0) 0 999 ∧ rng (c.1.1 3) 0 99
/-- what always holds of the state -/
def SI (S : SS) : Prop := okCO S.2.1 S.1 ∧ (1 ≤ S.2.1.length ∧ S.2.1.length ≤ 6 ∧ ∀ t, t < S.2.1.length → okPG (pgs S.2.1 t)) ∧ (S.2.2.1.length ≤ 160 ∧ ∀ b ∈ S.2.2.1, rng b 0 255) ∧
  (∀ c, S.2.2.2.1 = some c → okCO S.2.1 c ∧ c.2.1 ≤ S.1.2.1 ∧ ∀ b, b < c.2.1 → c.1.2 b 0 = S.1.1.2 b 0 ∧ c.1.2 b 1 = S.1.1.2 b 1) ∧
  ∀ s, s < 4 → rng (S.2.2.2.2 s).1 (-1) 2 ∧ (S.2.2.2.2 s).2.length ≤ 40 ∧ ((S.2.2.2.2 s).1 = -1 → (S.2.2.2.2 s).2 = [])
def txL (t : Nat) : Nat := if t = 0 then 38 else 91 + 3 * t
def HutS (w : Wd) (a : Nat) : Prop := sh w a = (1, 0) ∧ wr w a 6 = a + 1 ∧ sh w (a + 1) = (22, 6) ∧ ∀ b, b < 6 → wr w (a + 1) b = a + 2 + b ∧ sh w (a + 2 + b) = (0, 0)
/-- the class's cells -/
def LayC (w : Wd) : Prop := (sh w 32 = (5, 0) ∧ wr w 32 0 = 33 ∧ wr w 32 1 = 41 ∧ wr w 32 3 = 42 ∧ wr w 32 4 = 50 ∧ wr w 32 5 = 58 ∧ wr w 32 7 = 66) ∧
  (sh w 33 = (3, 0) ∧ wr w 33 0 = 34 ∧ wr w 33 2 = 35 ∧ wr w 33 3 = 36 ∧ wr w 33 6 = 37 ∧ sh w 34 = (20, 160) ∧ sh w 35 = (20, 160) ∧ sh w 36 = (20, 160) ∧ sh w 37 = (20, 160)) ∧
  (sh w 41 = (21, 6) ∧ sh w 66 = (23, 4)) ∧ (HutS w 42 ∧ HutS w 50 ∧ HutS w 58) ∧ ∀ s, s < 4 → wr w 66 s = 67 + 2 * s ∧ sh w (67 + 2 * s) = (2, 0) ∧ wr w (67 + 2 * s) 2 = 68 + 2 * s ∧ sh w (68 + 2 * s) = (20, 40)
def HutA (w : Wd) (a : Nat) (c : CO) (T : List PG) : Prop := HutC w a c.2.1 c.1 (pgs T c.2.2).1 (pgs T c.2.2).2.1 (pgs T c.2.2).2.2 ∧ wr w a 5 = txL c.2.2 ∧ c.2.2 < T.length
def TextsC (w : Wd) (T : List PG) : Prop := wi w 32 2 = nI T.length ∧ nx w = 91 + 3 * T.length ∧ ∀ t, t < T.length → wr w 41 t = txL t ∧ wi w (txL t) 0 = nI t ∧ TxtAt w (txL t) (pgs T t).1 (pgs T t).2.1 (pgs T t).2.2 ∧ wr w (txL t) 1 = txL t + 1 ∧ wr w (txL t) 4 = txL t + 2
def TapeC (w : Wd) (tp : List Int32) : Prop := wi w 33 1 = nI tp.length ∧ ∀ j b, tp[j]? = some b → wi w 34 j = b
def ImgC (w : Wd) (i : Option CO) (T : List PG) : Prop := wi w 32 6 = (if i.isSome then 1 else 0) ∧ ∀ c, i = some c → HutA w 58 c T
def ShC (w : Wd) (f : Nat → Int32 × List Int32) : Prop := ∀ s, s < 4 → wi w (67 + 2 * s) 0 = (f s).1 ∧ wi w (67 + 2 * s) 1 = nI (f s).2.length ∧ ∀ k x, (f s).2[k]? = some x → wi w (68 + 2 * s) k = x
def RC (S : SS) (w : Wd) : Prop := LayC w ∧ HutA w 42 S.1 S.2.1 ∧ TextsC w S.2.1 ∧ TapeC w S.2.2.1 ∧ ImgC w S.2.2.2.1 S.2.1 ∧ ShC w S.2.2.2.2
def TapeM (w : Wd) (tp : List Int32) : Prop := wi w 75 6 = nI tp.length ∧ ∀ j b, tp[j]? = some b → wi w 80 j = b
def ImgM (w : Wd) (i : Option CO) : Prop := wi w 75 11 = (if i.isSome then 1 else 0) ∧ ∀ c, i = some c → (∀ k, k < 4 → wi w 83 (18 + k) = c.1.1 k) ∧ (∀ b, b < c.2.1 → wi w 83 (3 * b) = c.1.2 b 2 ∧ wi w 83 (3 * b + 1) = c.1.2 b 3 ∧ wi w 83 (3 * b + 2) = c.1.2 b 4) ∧ wi w 84 0 = nI c.2.1 ∧ wi w 84 1 = nI c.2.2
def ShM (w : Wd) (f : Nat → Int32 × List Int32) : Prop := ∀ s, s < 4 → wi w 85 s = (f s).1 ∧ wi w 86 s = nI (f s).2.length ∧ ∀ k x, (f s).2[k]? = some x → wi w 87 (40 * s + k) = x
def RM (S : SS) (w : Wd) : Prop := ModC w S.1.2.1 S.1.2.2 S.1.1 (pgs S.2.1 S.1.2.2).1 (pgs S.2.1 S.1.2.2).2.1 (pgs S.2.1 S.1.2.2).2.2 ∧ (wi w 75 9 = nI S.2.1.length ∧ ∀ t, t < S.2.1.length → ProgM w t (pgs S.2.1 t).1 (pgs S.2.1 t).2.1 (pgs S.2.1 t).2.2) ∧ TapeM w S.2.2.1 ∧ ImgM w S.2.2.2.1 ∧ ShM w S.2.2.2.2
/-- the class's calls leave the reference's cells alone, and the other way round -/
def OffM (w w' : Wd) : Prop := ∀ q, 75 ≤ q → q < 94 → sh w' q = sh w q ∧ (∀ k, wi w' q k = wi w q k) ∧ ∀ k, wr w' q k = wr w q k
def OffC (w w' : Wd) : Prop := nx w' = nx w ∧ ∀ q, ¬ (75 ≤ q ∧ q < 94 ∧ q ≠ 89) → sh w' q = sh w q ∧ (∀ k, wi w' q k = wi w q k) ∧ ∀ k, wr w' q k = wr w q k
theorem OffM.rf {w : Wd} : OffM w w := fun _ _ _ => ⟨rfl, fun _ => rfl, fun _ => rfl⟩
theorem OffC.rf {w : Wd} : OffC w w := ⟨rfl, fun _ _ => ⟨rfl, fun _ => rfl, fun _ => rfl⟩⟩
theorem OffM.tr {a b c : Wd} (h1 : OffM a b) (h2 : OffM b c) : OffM a c := fun q x y => ⟨(h2 q x y).1.trans (h1 q x y).1, fun k => ((h2 q x y).2.1 k).trans ((h1 q x y).2.1 k), fun k => ((h2 q x y).2.2 k).trans ((h1 q x y).2.2 k)⟩
theorem OffC.tr {a b c : Wd} (h1 : OffC a b) (h2 : OffC b c) : OffC a c := ⟨h2.1.trans h1.1, fun q x => ⟨(h2.2 q x).1.trans (h1.2 q x).1, fun k => ((h2.2 q x).2.1 k).trans ((h1.2 q x).2.1 k), fun k => ((h2.2 q x).2.2 k).trans ((h1.2 q x).2.2 k)⟩⟩
theorem Fr.offM {P : Nat → Prop} {w w' : Wd} (h : Fr P w w') (hP : ∀ q, 75 ≤ q → q < 94 → ¬ P q) : OffM w w' := fun q x y => ⟨h.1 q, (h.2.2 q (hP q x y)).1, (h.2.2 q (hP q x y)).2⟩
theorem Fr.offC {P : Nat → Prop} {w w' : Wd} (h : Fr P w w') (hP : ∀ q, P q → 75 ≤ q ∧ q < 94 ∧ q ≠ 89) : OffC w w' := ⟨h.2.1, fun q x => ⟨h.1 q, (h.2.2 q (fun z => x (hP q z))).1, (h.2.2 q (fun z => x (hP q z))).2⟩⟩
theorem RM.keep {S : SS} {w w' : Wd} (h : RM S w) (hO : OffM w w') : RM S w' := by
  obtain ⟨⟨⟨l1, l2⟩, a2, a3, a4, a5, a6, a7, a8, a9⟩, ⟨b1, b2⟩, ⟨c1, c2⟩, ⟨d1, d2⟩, e1⟩ := h
  have g75 := hO 75 (by decide) (by decide)
  have g76 := hO 76 (by decide) (by decide)
  have g77 := hO 77 (by decide) (by decide)
  have g78 := hO 78 (by decide) (by decide)
  have g79 := hO 79 (by decide) (by decide)
  have g80 := hO 80 (by decide) (by decide)
  have g81 := hO 81 (by decide) (by decide)
  have g82 := hO 82 (by decide) (by decide)
  have g83 := hO 83 (by decide) (by decide)
  have g84 := hO 84 (by decide) (by decide)
  have g85 := hO 85 (by decide) (by decide)
  have g86 := hO 86 (by decide) (by decide)
  have g87 := hO 87 (by decide) (by decide)
  have pm : ∀ {t F B G}, ProgM w t F B G → ProgM w' t F B G := by
    intro t F B G hp
    unfold ProgM at hp ⊢
    simp only [g82.2.1, g81.2.1]
    exact hp
  have lay : LayM w' := by
    refine ⟨by rw [g75.1]; exact l1, fun x hx => ⟨by rw [g75.2.2]; exact (l2 x hx).1, ?_⟩⟩
    have hb : 75 ≤ x.2.1 ∧ x.2.1 < 94 := (by decide : ∀ x ∈ mTab, 75 ≤ x.2.1 ∧ x.2.1 < 94) x hx
    rw [(hO x.2.1 hb.1 hb.2).1]
    exact (l2 x hx).2
  refine ⟨⟨lay, by rw [g75.2.1]; exact a2, a3, fun k hk => by rw [g79.2.1]; exact a4 k hk, fun b hb => by simp only [g76.2.1, g77.2.1, g78.2.1]; exact a5 b hb, by rw [g75.2.1]; exact a6, pm a7, a8, a9⟩, ⟨by rw [g75.2.1]; exact b1, fun t ht => pm (b2 t ht)⟩, ⟨by rw [g75.2.1]; exact c1, fun j b hb => by rw [g80.2.1]; exact c2 j b hb⟩, ⟨by rw [g75.2.1]; exact d1, fun c hc => by simp only [g83.2.1, g84.2.1]; exact d2 c hc⟩, fun s hs => by simp only [g85.2.1, g86.2.1, g87.2.1]; exact e1 s hs⟩
theorem txL_out {t : Nat} (n : Nat) (h : n < 3) : ¬ (75 ≤ txL t + n ∧ txL t + n < 94 ∧ txL t + n ≠ 89) := by
  unfold txL
  split <;> omega
theorem TxtAt.off {w w' : Wd} {t : Nat} {F B G : List Int32} (h : TxtAt w (txL t) F B G) (h1 : wr w (txL t) 1 = txL t + 1) (h4 : wr w (txL t) 4 = txL t + 2) (hO : OffC w w') : TxtAt w' (txL t) F B G := by
  have g0 := hO.2 (txL t) (txL_out 0 (by decide))
  have g1 := hO.2 (txL t + 1) (txL_out 1 (by decide))
  have g2 := hO.2 (txL t + 2) (txL_out 2 (by decide))
  unfold TxtAt at h ⊢
  rw [h1, h4] at h
  rw [g0.2.2, g0.2.2, h1, h4, g0.1, g1.1, g2.1]
  simp only [g0.2.1, g1.2.1]
  exact h
theorem HutA.off {w w' : Wd} {a : Nat} {c : CO} {T : List PG} (h : HutA w a c T) (hT : TextsC w T) (ha : a = 42 ∨ a = 50 ∨ a = 58) (hO : OffC w w') : HutA w' a c T := by
  obtain ⟨⟨a1, a2, a3, a4, a5, a6, a7, a8, a9, a10⟩, b1, b2⟩ := h
  obtain ⟨t1, t2, t3, t4, t5⟩ := hT.2.2 c.2.2 b2
  have g : ∀ j, j < 8 → sh w' (a + j) = sh w (a + j) ∧ (∀ k, wi w' (a + j) k = wi w (a + j) k) ∧ ∀ k, wr w' (a + j) k = wr w (a + j) k := fun j hj => hO.2 (a + j) (by omega)
  have g0 := g 0 (by decide)
  have g1 := g 1 (by decide)
  rw [Nat.add_zero] at g0
  refine ⟨⟨by rw [g0.1]; exact a1, by rw [g0.2.2]; exact a2, by rw [g1.1]; exact a3, fun b hb => ?_, fun k hk => by rw [g0.2.1]; exact a5 k hk, by rw [g0.2.1]; exact a6, a7, fun b hb j hj => ?_, ?_, a10⟩, by rw [g0.2.2]; exact b1, b2⟩
  · have := g (2 + b) (by omega)
    rw [← Nat.add_assoc] at this
    exact ⟨by rw [g1.2.2]; exact (a4 b hb).1, by rw [this.1]; exact (a4 b hb).2⟩
  · have := g (2 + b) (by omega)
    rw [← Nat.add_assoc] at this
    rw [this.2.1]
    exact a8 b hb j hj
  · rw [g0.2.2, b1]
    exact t3.off t4 t5 hO
theorem RC.keep {S : SS} {w w' : Wd} (h : RC S w) (hO : OffC w w') : RC S w' := by
  obtain ⟨⟨⟨l1, l2, l3, l4, l5, l6, l7⟩, ⟨m1, m2, m3, m4, m5, m6, m7, m8, m9⟩, ⟨n1, n2⟩, ⟨h1, h2, h3⟩, s1⟩, a1, t1, ⟨p1, p2⟩, ⟨i1, i2⟩, c1⟩ := h
  have g : ∀ q, (32 ≤ q ∧ q < 75) → sh w' q = sh w q ∧ (∀ k, wi w' q k = wi w q k) ∧ ∀ k, wr w' q k = wr w q k := fun q hq => hO.2 q (by omega)
  have hs : ∀ a, 32 ≤ a → a + 8 ≤ 75 → HutS w a → HutS w' a := by
    intro a x y ⟨h1, h2, h3, h4⟩
    refine ⟨by rw [(g a (by omega)).1]; exact h1, by rw [(g a (by omega)).2.2]; exact h2, by rw [(g (a + 1) (by omega)).1]; exact h3, fun b hb => ⟨by rw [(g (a + 1) (by omega)).2.2]; exact (h4 b hb).1, by rw [(g (a + 2 + b) (by omega)).1]; exact (h4 b hb).2⟩⟩
  refine ⟨⟨?_, ?_, ?_, ⟨hs 42 (by decide) (by decide) h1, hs 50 (by decide) (by decide) h2, hs 58 (by decide) (by decide) h3⟩, fun s hs => ?_⟩, a1.off t1 (Or.inl rfl) hO, ?_, ?_, ⟨?_, fun c hc => (i2 c hc).off t1 (Or.inr (Or.inr rfl)) hO⟩, fun s hs => ?_⟩
  · have e := g 32 (by decide)
    rw [e.1, e.2.2, e.2.2, e.2.2, e.2.2, e.2.2, e.2.2]
    exact ⟨l1, l2, l3, l4, l5, l6, l7⟩
  · have e := g 33 (by decide)
    rw [e.1, e.2.2, e.2.2, e.2.2, e.2.2, (g 34 (by decide)).1, (g 35 (by decide)).1, (g 36 (by decide)).1, (g 37 (by decide)).1]
    exact ⟨m1, m2, m3, m4, m5, m6, m7, m8, m9⟩
  · rw [(g 41 (by decide)).1, (g 66 (by decide)).1]
    exact ⟨n1, n2⟩
  · rw [(g 66 (by decide)).2.2, (g (67 + 2 * s) (by omega)).1, (g (67 + 2 * s) (by omega)).2.2, (g (68 + 2 * s) (by omega)).1]
    exact s1 s hs
  · refine ⟨by rw [(g 32 (by decide)).2.1]; exact t1.1, by rw [hO.1]; exact t1.2.1, fun t ht => ?_⟩
    obtain ⟨u1, u2, u3, u4, u5⟩ := t1.2.2 t ht
    have e := hO.2 (txL t) (txL_out 0 (by decide))
    exact ⟨by rw [(g 41 (by decide)).2.2]; exact u1, by rw [e.2.1]; exact u2, u3.off u4 u5 hO, by rw [e.2.2]; exact u4, by rw [e.2.2]; exact u5⟩
  · exact ⟨by rw [(g 33 (by decide)).2.1]; exact p1, fun j b hb => by rw [(g 34 (by decide)).2.1]; exact p2 j b hb⟩
  · rw [(g 32 (by decide)).2.1]; exact i1
  · rw [(g (67 + 2 * s) (by omega)).2.1, (g (67 + 2 * s) (by omega)).2.1]
    exact ⟨(c1 s hs).1, (c1 s hs).2.1, fun k x hx => by rw [(g (68 + 2 * s) (by omega)).2.1]; exact (c1 s hs).2.2 k x hx⟩
