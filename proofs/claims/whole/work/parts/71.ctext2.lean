/-! text(): the class's call -/
def pgT (m : Bool × List Int32 × List Int32 × List Int32 × List Int32) : PG := (m.2.2.1, m.2.2.2.1.drop m.2.2.1.length, m.2.2.2.2.drop m.2.2.2.1.length)
theorem pg_ok {c1 c2 c3 : List Int32} (h1 : stD 0 0 [] c1) (h2 : stD 0 0 c1 c2) (h3 : stD 0 0 c2 c3) (hl : c3.length < 160) : okPG (pgT (true, [], c1, c2, c3)) ∧ (pgT (true, [], c1, c2, c3)).1 ++ (pgT (true, [], c1, c2, c3)).2.1 ++ (pgT (true, [], c1, c2, c3)).2.2 = c3 ∧ (pgT (true, [], c1, c2, c3)).1 = c1 ∧ (pgT (true, [], c1, c2, c3)).1 ++ (pgT (true, [], c1, c2, c3)).2.1 = c2 := by
  obtain ⟨d1, e1, a1, a2⟩ := h1
  obtain ⟨d2, e2, b1, b2⟩ := h2
  obtain ⟨d3, e3, f1, f2⟩ := h3
  rw [List.nil_append] at e1
  subst e1
  subst e2
  subst e3
  have p : pgT (true, [], c1, c1 ++ d2, c1 ++ d2 ++ d3) = (c1, d2, d3) := by
    unfold pgT
    dsimp only
    rw [List.drop_left, List.drop_left]
  rw [p]
  have ok0 : ∀ d, (∀ k rest, k + (5 * (5 - 0) + (6 - 0)) ≤ 40 → okP rest (k + 1) → okP (d ++ rest) k) → okP d 0 := fun d hd => by
    have := hd 0 [] (by decide) (by unfold okP; rfl)
    rw [List.append_nil] at this
    exact this
  refine ⟨⟨⟨ok0 _ a2, ok0 _ b2, ok0 _ f2⟩, fun c hc => ?_, ?_⟩, rfl, rfl, rfl⟩
  · rcases List.mem_append.mp hc with hc | hc
    · rcases List.mem_append.mp hc with hc | hc
      · exact a1 c hc
      · exact b1 c hc
    · exact f1 c hc
  · show (c1 ++ d2 ++ d3).length ≤ 200
    omega
theorem LayC.old {w w' : Wd} (h : LayC w) (h1 : ∀ a, a < 75 → sh w' a = sh w a) (h2 : ∀ a, a < 75 → a ≠ 41 → ∀ k, wr w' a k = wr w a k) : LayC w' := by
  obtain ⟨⟨l1, l2, l3, l4, l5, l6, l7⟩, ⟨m1, m2, m3, m4, m5, m6, m7, m8, m9⟩, ⟨n1, n2⟩, ⟨x1, x2, x3⟩, s1⟩ := h
  have hs : ∀ a, 42 ≤ a → a + 8 ≤ 75 → HutS w a → HutS w' a := by
    intro a y z ⟨g1, g2, g3, g4⟩
    exact ⟨by rw [h1 a (by omega)]; exact g1, by rw [h2 a (by omega) (by omega)]; exact g2, by rw [h1 (a + 1) (by omega)]; exact g3, fun b hb => ⟨by rw [h2 (a + 1) (by omega) (by omega)]; exact (g4 b hb).1, by rw [h1 (a + 2 + b) (by omega)]; exact (g4 b hb).2⟩⟩
  refine ⟨?_, ?_, ?_, ⟨hs 42 (by decide) (by decide) x1, hs 50 (by decide) (by decide) x2, hs 58 (by decide) (by decide) x3⟩, fun s hs => ?_⟩
  · have e := h2 32 (by decide) (by decide)
    rw [h1 32 (by decide), e, e, e, e, e, e]
    exact ⟨l1, l2, l3, l4, l5, l6, l7⟩
  · have e := h2 33 (by decide) (by decide)
    rw [h1 33 (by decide), e, e, e, e, h1 34 (by decide), h1 35 (by decide), h1 36 (by decide), h1 37 (by decide)]
    exact ⟨m1, m2, m3, m4, m5, m6, m7, m8, m9⟩
  · rw [h1 41 (by decide), h1 66 (by decide)]
    exact ⟨n1, n2⟩
  · rw [h2 66 (by decide) (by decide), h1 (67 + 2 * s) (by omega), h2 (67 + 2 * s) (by omega) (by omega), h1 (68 + 2 * s) (by omega)]
    exact s1 s hs
theorem pgs_old {T : List PG} {p : PG} {t : Nat} (h : t < T.length) : pgs (T ++ [p]) t = pgs T t := by
  unfold pgs
  rw [List.getD_eq_getElem?_getD, List.getD_eq_getElem?_getD, List.getElem?_append_left h]
theorem pgs_new (T : List PG) (p : PG) : pgs (T ++ [p]) T.length = p := by
  unfold pgs
  rw [List.getD_eq_getElem?_getD, List.getElem?_append_right (Nat.le_refl _), Nat.sub_self]
  rfl
def newT (S : SS) (p : PG) : SS := (S.1, S.2.1 ++ [p], S.2.2.1, S.2.2.2.1, S.2.2.2.2)
theorem rcText {S : SS} {w w' : Wd} {p : PG} (h : RC S w) (hn : 1 ≤ S.2.1.length) (hp : okPG p) (hsh : ∀ a, a < nx w → sh w' a = sh w a) (hwi : ∀ a, a < nx w → ∀ k, (a = 32 ∧ k = 2) ∨ wi w' a k = wi w a k) (hwr : ∀ a, a < nx w → ∀ k, (a = 41 ∧ k = S.2.1.length) ∨ wr w' a k = wr w a k)
    (h2 : wi w' 32 2 = nI (S.2.1.length + 1)) (h41 : wr w' 41 S.2.1.length = nx w) (hx : nx w' = nx w + 3) (n1 : sh w' (nx w) = (4, 0)) (n2 : wr w' (nx w) 1 = nx w + 1) (n3 : wr w' (nx w) 4 = nx w + 2) (n4 : wi w' (nx w) 0 = nI S.2.1.length) (n5 : wi w' (nx w) 2 = nI p.1.length) (n6 : wi w' (nx w) 3 = nI (p.1 ++ p.2.1).length) (n7 : sh w' (nx w + 1) = (20, (p.1 ++ p.2.1 ++ p.2.2).length)) (n8 : ∀ j x, (p.1 ++ p.2.1 ++ p.2.2)[j]? = some x → wi w' (nx w + 1) j = x) (n9 : sh w' (nx w + 2) = (20, 40)) : RC (newT S p) w' := by
  obtain ⟨L, a1, t1, ⟨p1, p2⟩, ⟨i1, i2⟩, c1⟩ := h
  have hq : nx w = 91 + 3 * S.2.1.length := t1.2.1
  have g : ∀ a, a < nx w → a ≠ 32 → ∀ k, wi w' a k = wi w a k := fun a ha h32 k => (hwi a ha k).resolve_left fun z => h32 z.1
  have r : ∀ a, a < nx w → a ≠ 41 → ∀ k, wr w' a k = wr w a k := fun a ha h41 k => (hwr a ha k).resolve_left fun z => h41 z.1
  have txl : ∀ t, t < S.2.1.length → txL t + 2 < nx w ∧ txL t ≠ 32 ∧ txL t ≠ 41 ∧ txL t + 1 ≠ 32 ∧ txL t + 1 ≠ 41 ∧ txL t + 2 ≠ 32 ∧ txL t + 2 ≠ 41 := fun t ht => by
    rw [hq]
    unfold txL
    split <;> omega
  have txt : ∀ t, t < S.2.1.length → TxtAt w' (txL t) (pgs (S.2.1 ++ [p]) t).1 (pgs (S.2.1 ++ [p]) t).2.1 (pgs (S.2.1 ++ [p]) t).2.2 ∧ wr w' (txL t) 1 = txL t + 1 ∧ wr w' (txL t) 4 = txL t + 2 ∧ wi w' (txL t) 0 = nI t := fun t ht => by
    obtain ⟨x1, x2, x3, x4, x5, x6, x7⟩ := txl t ht
    obtain ⟨u1, u2, u3, u4, u5⟩ := t1.2.2 t ht
    have e := g (txL t) (by omega) x2
    have er := r (txL t) (by omega) x3
    rw [pgs_old ht]
    refine ⟨?_, by rw [er]; exact u4, by rw [er]; exact u5, by rw [e]; exact u2⟩
    unfold TxtAt at u3 ⊢
    rw [u4, u5] at u3
    rw [er, er, u4, u5, hsh (txL t) (by omega), hsh (txL t + 1) (by omega), hsh (txL t + 2) (by omega)]
    simp only [e, g (txL t + 1) (by omega) x4]
    exact u3
  have hut : ∀ a c, 42 ≤ a → a + 8 ≤ 75 → HutA w a c S.2.1 → HutA w' a c (S.2.1 ++ [p]) := by
    intro a c y z ⟨⟨k1, k2, k3, k4, k5, k6, k7, k8, k9, k10⟩, k11, k12⟩
    obtain ⟨v1, v2, v3, v4⟩ := txt c.2.2 k12
    have e := fun j (hj : j < 8) => g (a + j) (by omega) (by omega)
    have er := fun j (hj : j < 8) => r (a + j) (by omega) (by omega)
    have es := fun j (hj : j < 8) => hsh (a + j) (by omega)
    refine ⟨⟨by rw [← Nat.add_zero a, es 0 (by decide)]; exact k1, ?_, by rw [es 1 (by decide)]; exact k3, fun b hb => ⟨by rw [er 1 (by decide)]; exact (k4 b hb).1, by rw [Nat.add_assoc, es (2 + b) (by omega), ← Nat.add_assoc]; exact (k4 b hb).2⟩, fun k hk => ?_, ?_, k7, fun b hb j hj => by rw [Nat.add_assoc, e (2 + b) (by omega), ← Nat.add_assoc]; exact k8 b hb j hj, ?_, ?_⟩, ?_, ?_⟩
    · have := er 0 (by decide) 6
      rw [Nat.add_zero] at this
      rw [this]; exact k2
    · have := e 0 (by decide) k
      rw [Nat.add_zero] at this
      rw [this]; exact k5 k hk
    · have := e 0 (by decide) 4
      rw [Nat.add_zero] at this
      rw [this]; exact k6
    · have := er 0 (by decide) 5
      rw [Nat.add_zero] at this
      rw [this, k11]
      exact v1
    · rw [pgs_old k12]
      exact k10
    · have := er 0 (by decide) 5
      rw [Nat.add_zero] at this
      rw [this]; exact k11
    · rw [List.length_append]
      omega
  refine ⟨L.old (fun a ha => hsh a (by omega)) (fun a ha h => r a (by omega) h), hut 42 S.1 (by decide) (by decide) a1, ⟨?_, ?_, fun t ht => ?_⟩, ⟨?_, fun j b hb => ?_⟩, ⟨?_, fun c hc => hut 58 c (by decide) (by decide) (i2 c hc)⟩, fun s hs => ?_⟩
  · show wi w' 32 2 = nI (S.2.1 ++ [p]).length
    rw [List.length_append]
    exact h2
  · show nx w' = 91 + 3 * (S.2.1 ++ [p]).length
    rw [List.length_append, hx, hq]
    show 91 + 3 * S.2.1.length + 3 = 91 + 3 * (S.2.1.length + 1)
    omega
  · have ht' : t < S.2.1.length + 1 := by
      have : t < (S.2.1 ++ [p]).length := ht
      rw [List.length_append] at this
      exact this
    rcases (by omega : t < S.2.1.length ∨ t = S.2.1.length) with e | e
    · obtain ⟨v1, v2, v3, v4⟩ := txt t e
      obtain ⟨u1, u2, u3, u4, u5⟩ := t1.2.2 t e
      refine ⟨?_, v4, v1, v2, v3⟩
      rw [(hwr 41 (by omega) t).resolve_left fun z => by omega]
      exact u1
    · subst e
      have ex : txL S.2.1.length = nx w := by
        rw [hq]
        unfold txL
        rw [if_neg (by omega)]
      show wr w' 41 S.2.1.length = txL S.2.1.length ∧ wi w' (txL S.2.1.length) 0 = nI S.2.1.length ∧ TxtAt w' (txL S.2.1.length) (pgs (S.2.1 ++ [p]) S.2.1.length).1 (pgs (S.2.1 ++ [p]) S.2.1.length).2.1 (pgs (S.2.1 ++ [p]) S.2.1.length).2.2 ∧ wr w' (txL S.2.1.length) 1 = txL S.2.1.length + 1 ∧ wr w' (txL S.2.1.length) 4 = txL S.2.1.length + 2
      rw [pgs_new, ex]
      refine ⟨h41, n4, ⟨n1, by rw [n2]; exact n7, fun j c hj => by rw [n2]; exact n8 j c hj, n5, n6, by rw [n3]; exact n9, by rw [n2, n3]; omega, hp.2.2⟩, n2, n3⟩
  · rw [g 33 (by omega) (by decide)]; exact p1
  · rw [g 34 (by omega) (by decide)]; exact p2 j b hb
  · rw [(hwi 32 (by omega) 6).resolve_left fun z => absurd z.2 (by decide)]; exact i1
  · rw [g (67 + 2 * s) (by omega) (by omega), g (67 + 2 * s) (by omega) (by omega)]
    exact ⟨(c1 s hs).1, (c1 s hs).2.1, fun k x hx => by rw [g (68 + 2 * s) (by omega) (by omega)]; exact (c1 s hs).2.2 k x hx⟩
def txA (S : SS) : Int32 × SS := if S.2.1.length = 6 then (-4, S) else if (mT (tkV S.2.2.1)).1 = true then (nI S.2.1.length, newT (tpS S []) (pgT (mT (tkV S.2.2.1)))) else (-100 - nI (plR S.2.2.1 (mT (tkV S.2.2.1)).2.1), tpS S [])
