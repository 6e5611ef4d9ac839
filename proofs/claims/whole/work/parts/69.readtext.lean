/-! the class reads a text -/
def mP (key : Int32) (ts c : List Int32) : Bool × List Int32 × List Int32 := match ts with
  | [] => (false, [], c)
  | t :: ts' => if t = key then mE ts' 2 [] 0 c else (false, t :: ts', c)
theorem mP_no {key : Int32} {ts c : List Int32} (h : ts.head? ≠ some key) : mP key ts c = (false, ts, c) := by
  cases ts with
  | nil => rfl
  | cons t ts =>
    unfold mP
    dsimp only
    rw [if_neg (fun z => h (by rw [z]; rfl))]
theorem mP_y {key : Int32} {ts c : List Int32} : mP key (key :: ts) c = mE ts 2 [] 0 c := by
  unfold mP
  dsimp only
  rw [if_pos rfl]
/-- frames of the whole reading -/
def PR9 (w w' : Wd) : Prop := Fr (fun q => q = 33 ∨ q = 37) w w' ∧ (∀ q, wr w' q = wr w q) ∧ ∀ k, k < 5 → wi w' 33 k = wi w 33 k
theorem PR.p9 {w w' : Wd} (h : PR w w') : PR9 w w' := ⟨h.1, h.2.1, fun k hk => h.2.2 k (by omega) (by omega)⟩
theorem PR9.tr {a b c : Wd} (h1 : PR9 a b) (h2 : PR9 b c) : PR9 a c := ⟨h1.1.tr h2.1, fun q => (h2.2.1 q).trans (h1.2.1 q), fun k x => (h2.2.2 k x).trans (h1.2.2 k x)⟩
def GoodP (T : List Int32) (key : Int32) (i : Nat) (c : List Int32) (r : Bool) (i' : Nat) (c' : List Int32) : Prop :=
  if r = true then mP key (T.drop i) c = (true, T.drop i', c') ∧ stD 0 0 c c' ∧ c'.length + (T.length - i') + 2 ≤ c.length + (T.length - i) else (mP key (T.drop i) c).1 = false ∧ (mP key (T.drop i) c).2.1 = T.drop i'
theorem part_c {T c : List Int32} {w : Wd} {i : Nat} {key : Int32} (hT : noEnd T) (hk : key ≠ 10040) (h : CS T w i c) (hl : c.length + (T.length - i) ≤ 160) : ∃ r i' c' w', f3_readPart 33 key w = some ((if r = true then (1 : Int32) else 0), w') ∧ CS T w' i' c' ∧ PR w w' ∧ GoodP T key i c r i' c' := by
  have hi := h.2.2.1.2
  unfold f3_readPart
  rw [ck_pos h.1.1]
  by_cases h1 : (T.drop i).head? = some key
  · obtain ⟨d1, d2⟩ := drop_cons h1
    obtain ⟨w1, a1, a2, a3⟩ := go_y h h1
    obtain ⟨r, i2, c2, w2, b1, b2, b3, g⟩ := rec_ok hT 45 0 0 (i + 1) c w1 (by decide) (by decide) (by decide) a2 (by omega)
    have b1' : loopF recB 45 (0, 33, (0 : Int32)) w1 = some ((if r = true then (1 : Int32) else 0), w2) := b1
    have hi2 := b2.2.2.1.2
    rw [a1, Option.bind_some, if_neg n10]
    dsimp only
    rw [b1', Option.bind_some]
    dsimp only
    cases r with
    | true =>
      obtain ⟨g1, g2, g3, g4⟩ := g.t (by decide)
      rw [if_pos rfl, if_neg n10]
      by_cases h2 : (T.drop i2).head? = some 10022
      · obtain ⟨q1, q2⟩ := drop_cons h2
        obtain ⟨w3, s1, s2, s3⟩ := go_y b2 h2
        rw [s1, Option.bind_some, if_neg n10]
        refine ⟨true, i2 + 1, c2, w3, rfl, s2, (a3.tr b3).tr s3, ?_⟩
        unfold GoodP
        rw [if_pos rfl, d1, mP_y]
        rw [q1] at g1
        exact ⟨e_ok g1, g2, by omega⟩
      · rw [go_n b2 h2 (by decide), Option.bind_some, if_pos rfl]
        refine ⟨false, i2, c2, w2, rfl, b2, a3.tr b3, ?_⟩
        unfold GoodP
        rw [if_neg (by decide), d1, mP_y]
        exact e_F1 g1 h2
    | false =>
      rw [ff01, if_pos rfl]
      refine ⟨false, i2, c2, w2, rfl, b2, a3.tr b3, ?_⟩
      unfold GoodP
      rw [if_neg (by decide), d1, mP_y]
      exact e_F2 g.f
  · rw [go_n h h1 hk, Option.bind_some, if_pos rfl]
    refine ⟨false, i, c, w, rfl, h, PR.rf, ?_⟩
    unfold GoodP
    rw [if_neg (by decide), mP_no h1]
    exact ⟨rfl, rfl⟩
/-- a whole text, on tokens: whether it has no fault, what is left where it has one; the code up to each part -/
def mT (ts : List Int32) : Bool × List Int32 × List Int32 × List Int32 × List Int32 :=
  if (mP 10030 ts []).1 = true then
    if (mP 10031 (mP 10030 ts []).2.1 (mP 10030 ts []).2.2).1 = true then
      if (mP 10032 (mP 10031 (mP 10030 ts []).2.1 (mP 10030 ts []).2.2).2.1 (mP 10031 (mP 10030 ts []).2.1 (mP 10030 ts []).2.2).2.2).1 = true then
        ((mP 10032 (mP 10031 (mP 10030 ts []).2.1 (mP 10030 ts []).2.2).2.1 (mP 10031 (mP 10030 ts []).2.1 (mP 10030 ts []).2.2).2.2).2.1.isEmpty, (mP 10032 (mP 10031 (mP 10030 ts []).2.1 (mP 10030 ts []).2.2).2.1 (mP 10031 (mP 10030 ts []).2.1 (mP 10030 ts []).2.2).2.2).2.1, (mP 10030 ts []).2.2, (mP 10031 (mP 10030 ts []).2.1 (mP 10030 ts []).2.2).2.2, (mP 10032 (mP 10031 (mP 10030 ts []).2.1 (mP 10030 ts []).2.2).2.1 (mP 10031 (mP 10030 ts []).2.1 (mP 10030 ts []).2.2).2.2).2.2)
      else (false, (mP 10032 (mP 10031 (mP 10030 ts []).2.1 (mP 10030 ts []).2.2).2.1 (mP 10031 (mP 10030 ts []).2.1 (mP 10030 ts []).2.2).2.2).2.1, [], [], [])
    else (false, (mP 10031 (mP 10030 ts []).2.1 (mP 10030 ts []).2.2).2.1, [], [], [])
  else (false, (mP 10030 ts []).2.1, [], [], [])
theorem mT_3 {ts t1 c1 t2 c2 t3 c3 : List Int32} (h1 : mP 10030 ts [] = (true, t1, c1)) (h2 : mP 10031 t1 c1 = (true, t2, c2)) (h3 : mP 10032 t2 c2 = (true, t3, c3)) : mT ts = (t3.isEmpty, t3, c1, c2, c3) := by
  unfold mT
  rw [h1]
  dsimp only
  rw [h2]
  dsimp only
  rw [h3]
  rfl
theorem mT_f3 {ts t1 c1 t2 c2 : List Int32} (h1 : mP 10030 ts [] = (true, t1, c1)) (h2 : mP 10031 t1 c1 = (true, t2, c2)) (h3 : (mP 10032 t2 c2).1 = false) : mT ts = (false, (mP 10032 t2 c2).2.1, [], [], []) := by
  unfold mT
  rw [h1]
  dsimp only
  rw [h2]
  dsimp only
  rw [h3]
  rfl
theorem mT_f2 {ts t1 c1 : List Int32} (h1 : mP 10030 ts [] = (true, t1, c1)) (h2 : (mP 10031 t1 c1).1 = false) : mT ts = (false, (mP 10031 t1 c1).2.1, [], [], []) := by
  unfold mT
  rw [h1]
  dsimp only
  rw [h2]
  rfl
theorem mT_f1 {ts : List Int32} (h1 : (mP 10030 ts []).1 = false) : mT ts = (false, (mP 10030 ts []).2.1, [], [], []) := by
  unfold mT
  rw [h1]
  rfl
theorem CS.set {T c : List Int32} {w : Wd} {i k : Nat} {v : Int32} (h : CS T w i c) (hk : k = 8 ∨ k = 9) : CS T (sI w 33 k v) i c ∧ PR9 w (sI w 33 k v) := by
  obtain ⟨a, ⟨b1, b2, b3⟩, ⟨c1, c2⟩, d1, d2, d3⟩ := h
  have n : ∀ j, j ≠ k → wi (sI w 33 k v) 33 j = wi w 33 j := fun j hj => by rw [wi_sI, if_neg (fun z => hj z.2)]
  exact ⟨⟨a, ⟨by rw [n 4 (by omega)]; exact b1, b2, fun j x hx => by rw [wi_sI_ne (by decide)]; exact b3 j x hx⟩, ⟨by rw [n 5 (by omega)]; exact c1, c2⟩, by rw [n 7 (by omega)]; exact d1, fun j x hx => by rw [wi_sI_ne (by decide)]; exact d2 j x hx, d3⟩, ⟨Fr.sI (Or.inl rfl), fun _ => rfl, fun j hj => n j (by omega)⟩⟩
/-- read without a fault: the steps, and where the parts begin -/
def GoodT (T : List Int32) (w' : Wd) (r : Bool) (i' : Nat) (c' : List Int32) : Prop :=
  if r = true then ∃ c1 c2, mT T = (true, [], c1, c2, c') ∧ stD 0 0 [] c1 ∧ stD 0 0 c1 c2 ∧ stD 0 0 c2 c' ∧ c'.length < 160 ∧ wi w' 33 8 = nI c1.length ∧ wi w' 33 9 = nI c2.length else (mT T).1 = false ∧ (mT T).2.1 = T.drop i'
theorem drop_none {T : List Int32} {i : Nat} (h : (T.drop i).head? = none) : T.drop i = [] := by
  cases hd : T.drop i with
  | nil => rfl
  | cons a b => rw [hd] at h; cases h
theorem readText_c {T : List Int32} {w : Wd} (hT : noEnd T) (h : CS T w 0 []) : ∃ r i' c' w', f3_readText 33 w = some ((if r = true then (1 : Int32) else 0), w') ∧ CS T w' i' c' ∧ PR9 w w' ∧ GoodT T w' r i' c' := by
  have hl := h.2.1.2.1
  unfold f3_readText
  rw [ck_pos h.1.1]
  obtain ⟨r1, i1, c1, w1, a1, a2, a3, g1⟩ := part_c (key := 10030) hT (by decide) h (by show 0 + _ ≤ 160; omega)
  rw [a1, Option.bind_some]
  dsimp only
  cases r1 with
  | false =>
    rw [ff01, if_pos rfl]
    unfold GoodP at g1
    rw [if_neg (by decide), List.drop_zero] at g1
    refine ⟨false, i1, c1, w1, rfl, a2, a3.p9, ?_⟩
    unfold GoodT
    rw [if_neg (by decide), mT_f1 g1.1]
    exact ⟨rfl, g1.2⟩
  | true =>
    unfold GoodP at g1
    rw [if_pos rfl, List.drop_zero] at g1
    obtain ⟨p1, p2, p3⟩ := g1
    have p3' : c1.length + (T.length - i1) + 2 ≤ 160 := by
      have : ([] : List Int32).length + (T.length - 0) ≤ 160 := by show 0 + _ ≤ 160; omega
      omega
    rw [if_pos rfl, if_neg n10]
    unfold lw
    dsimp only
    rw [a2.2.2.2.1]
    obtain ⟨a4, a5⟩ := a2.set (k := 8) (v := nI c1.length) (Or.inl rfl)
    obtain ⟨r2, i2, c2, w2, b1, b2, b3, g2⟩ := part_c (key := 10031) hT (by decide) a4 (by omega)
    have e8 : wi w2 33 8 = nI c1.length := by rw [b3.2.2 8 (by decide) (by decide), wi_at]
    rw [b1, Option.bind_some]
    dsimp only
    cases r2 with
    | false =>
      rw [ff01, if_pos rfl]
      unfold GoodP at g2
      rw [if_neg (by decide)] at g2
      refine ⟨false, i2, c2, w2, rfl, b2, (a3.p9.tr a5).tr b3.p9, ?_⟩
      unfold GoodT
      rw [if_neg (by decide), mT_f2 p1 g2.1]
      exact ⟨rfl, g2.2⟩
    | true =>
      unfold GoodP at g2
      rw [if_pos rfl] at g2
      obtain ⟨q1, q2, q3⟩ := g2
      rw [if_pos rfl, if_neg n10]
      rw [b2.2.2.2.1]
      obtain ⟨b4, b5⟩ := b2.set (k := 9) (v := nI c2.length) (Or.inr rfl)
      obtain ⟨r3, i3, c3, w3, f1, f2, f3, g3⟩ := part_c (key := 10032) hT (by decide) b4 (by omega)
      have e8' : wi w3 33 8 = nI c1.length := by rw [f3.2.2 8 (by decide) (by decide), wi_sI, if_neg (fun z => absurd z.2 (by decide)), e8]
      have e9' : wi w3 33 9 = nI c2.length := by rw [f3.2.2 9 (by decide) (by decide), wi_at]
      have FF := ((((a3.p9.tr a5).tr b3.p9).tr b5).tr f3.p9)
      rw [f1, Option.bind_some]
      dsimp only
      cases r3 with
      | false =>
        rw [ff01, if_pos rfl]
        unfold GoodP at g3
        rw [if_neg (by decide)] at g3
        refine ⟨false, i3, c3, w3, rfl, f2, FF, ?_⟩
        unfold GoodT
        rw [if_neg (by decide), mT_f3 p1 q1 g3.1]
        exact ⟨rfl, g3.2⟩
      | true =>
        unfold GoodP at g3
        rw [if_pos rfl] at g3
        obtain ⟨v1, v2, v3⟩ := g3
        have hm := mT_3 p1 q1 v1
        rw [if_pos rfl, if_neg n10, tok_c f2, Option.bind_some]
        dsimp only
        cases hd : (T.drop i3).head? with
        | none =>
          rw [Option.getD_none, if_pos rfl]
          refine ⟨true, i3, c3, w3, rfl, f2, FF, ?_⟩
          unfold GoodT
          rw [if_pos rfl]
          have e := drop_none hd
          rw [e] at hm
          exact ⟨c1, c2, hm, p2, q2, v2, by omega, e8', e9'⟩
        | some t =>
          obtain ⟨d1, d2⟩ := drop_cons hd
          have ht : t ∈ T := List.mem_of_mem_drop (i := i3) (by rw [d1]; exact List.mem_cons_self)
          rw [Option.getD_some, if_neg (hT t ht).1]
          refine ⟨false, i3, c3, w3, rfl, f2, FF, ?_⟩
          unfold GoodT
          rw [if_neg (by decide), hm]
          refine ⟨?_, rfl⟩
          rw [d1]
          rfl
