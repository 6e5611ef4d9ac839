/-! reading a text: the reference's stack reading on tokens, and what a recursive reader must do against it -/
def rkC (x : Int32) : Nat := if x = 0 then 0 else if x = 10010 then 1 else if x = 10011 then 2 else if x = 10012 then 3 else if x = 10014 then 4 else if x = 10015 then 4 else if x = 10016 then 5 else if x = 10017 then 5 else if x = 10018 then 6 else 7
def pop (r : Nat) : List Int32 → List Int32 × List Int32
  | [] => ([], [])
  | x :: h => if r ≤ rkC x then (x :: (pop r h).1, (pop r h).2) else ([], x :: h)
def nU : List Int32 → Nat
  | [] => 0
  | x :: h => if x = 10012 ∨ x = 10013 then nU h + 1 else nU h
def top4 : List Int32 → Bool
  | [] => false
  | x :: _ => rkC x == 4
abbrev isSg (t : Int32) : Prop := t = 10010 ∨ t = 10011 ∨ t = 10014 ∨ t = 10015 ∨ t = 10016 ∨ t = 10017 ∨ t = 10018
def rSg (t : Int32) : Nat := if rkC t = 4 then 5 else rkC t
/-- s: 0 behind a ONE, 1 ahead of one, 2 ahead of one where a NOT may stand -/
def mE : List Int32 → Nat → List Int32 → Nat → List Int32 → Bool × List Int32 × List Int32
  | [], _, _, _, out => (false, [], out)
  | t :: ts, s, h, op, out =>
    if s = 0 then
      if t = 10022 then (if (pop 1 h).2 = [] then (true, ts, out ++ (pop 1 h).1) else (false, t :: ts, out))
      else if t = 10021 then (match (pop 1 h).2 with
        | [] => (false, t :: ts, out)
        | _ :: h2 => mE ts 0 (pop 7 h2).2 (op - nU (pop 1 h).1 - 1 - nU (pop 7 h2).1) (out ++ (pop 1 h).1 ++ (pop 7 h2).1))
      else if isSg t then (if rkC t = 4 ∧ top4 (pop (rSg t) h).2 = true then (false, t :: ts, out) else mE ts (if t = 10010 ∨ t = 10011 then 2 else 1) (t :: (pop (rSg t) h).2) (op - nU (pop (rSg t) h).1) (out ++ (pop (rSg t) h).1))
      else (false, t :: ts, out)
    else if t ≤ 10005 then mE ts 0 (pop 7 h).2 (op - nU (pop 7 h).1) (out ++ [t] ++ (pop 7 h).1)
    else if t = 10012 ∧ s = 2 then (if op = 5 then (false, t :: ts, out) else mE ts 2 (10012 :: h) (op + 1) out)
    else if t = 10017 then (if op = 5 then (false, t :: ts, out) else mE ts 1 (10013 :: h) (op + 1) out)
    else if t = 10020 then (if op = 5 then (false, t :: ts, out) else mE ts 2 (0 :: h) (op + 1) out)
    else (false, t :: ts, out)
theorem mE_0 (t : Int32) (ts : List Int32) (h : List Int32) (op : Nat) (out : List Int32) : mE (t :: ts) 0 h op out =
      if t = 10022 then (if (pop 1 h).2 = [] then (true, ts, out ++ (pop 1 h).1) else (false, t :: ts, out))
      else if t = 10021 then (match (pop 1 h).2 with
        | [] => (false, t :: ts, out)
        | _ :: h2 => mE ts 0 (pop 7 h2).2 (op - nU (pop 1 h).1 - 1 - nU (pop 7 h2).1) (out ++ (pop 1 h).1 ++ (pop 7 h2).1))
      else if isSg t then (if rkC t = 4 ∧ top4 (pop (rSg t) h).2 = true then (false, t :: ts, out) else mE ts (if t = 10010 ∨ t = 10011 then 2 else 1) (t :: (pop (rSg t) h).2) (op - nU (pop (rSg t) h).1) (out ++ (pop (rSg t) h).1))
      else (false, t :: ts, out) := by
  rw [mE, if_pos rfl]
theorem mE_1 (t : Int32) (ts : List Int32) (s : Nat) (h : List Int32) (op : Nat) (out : List Int32) (hs : s ≠ 0) : mE (t :: ts) s h op out =
    if t ≤ 10005 then mE ts 0 (pop 7 h).2 (op - nU (pop 7 h).1) (out ++ [t] ++ (pop 7 h).1)
    else if t = 10012 ∧ s = 2 then (if op = 5 then (false, t :: ts, out) else mE ts 2 (10012 :: h) (op + 1) out)
    else if t = 10017 then (if op = 5 then (false, t :: ts, out) else mE ts 1 (10013 :: h) (op + 1) out)
    else if t = 10020 then (if op = 5 then (false, t :: ts, out) else mE ts 2 (0 :: h) (op + 1) out)
    else (false, t :: ts, out) := by
  rw [mE, if_neg hs]
def hOK (r : Nat) : List Int32 → Prop
  | [] => True
  | x :: _ => rkC x < r
theorem hOK.le {r q : Nat} {h : List Int32} (hh : hOK r h) (hq : r ≤ q) : hOK q h := by
  cases h with
  | nil => trivial
  | cons x h => exact Nat.lt_of_lt_of_le hh hq
theorem pop_app {r : Nat} {h : List Int32} (hh : hOK r h) : ∀ p : List Int32, (∀ x ∈ p, r ≤ rkC x) → pop r (p ++ h) = (p, h)
  | [], _ => by
    cases h with
    | nil => rfl
    | cons x h =>
      show pop r (x :: h) = _
      have h' : rkC x < r := hh
      rw [pop, if_neg (by omega)]
  | x :: p, hp => by
    show pop r (x :: (p ++ h)) = _
    rw [pop, if_pos (hp x List.mem_cons_self), pop_app hh p fun y hy => hp y (List.mem_cons_of_mem _ hy)]
theorem pop_all {r : Nat} {h : List Int32} (hh : hOK r h) : pop r h = ([], h) := pop_app hh [] (fun x hx => absurd hx (List.not_mem_nil))
def cmpIn (p : List Int32) : Prop := top4 (pop 5 p).2 = true
theorem cmpIn.app {p h : List Int32} (hp : cmpIn p) : cmpIn (p ++ h) := by
  unfold cmpIn at hp ⊢
  induction p with
  | nil => simp [pop, top4] at hp
  | cons x p ih =>
    show top4 (pop 5 (x :: (p ++ h))).2 = true
    rw [pop] at hp ⊢
    by_cases h5 : 5 ≤ rkC x
    · rw [if_pos h5] at hp ⊢
      exact ih hp
    · rw [if_neg h5] at hp ⊢
      exact hp
theorem nU_app (p h : List Int32) : nU (p ++ h) = nU p + nU h := by
  induction p with
  | nil => show nU h = 0 + nU h; omega
  | cons x p ih =>
    show nU (x :: (p ++ h)) = nU (x :: p) + nU h
    rw [nU, nU, ih]
    split <;> omega
def RR (m : Nat) : Nat := if m = 0 then 1 else if m = 1 then 2 else if m = 2 then 3 else if m = 3 then 5 else 6
def HH (m : Nat) : Nat := if m = 0 then 1 else if m = 1 then 2 else if m = 2 then 4 else if m = 3 then 5 else 6
def mnO (m s : Nat) (ts : List Int32) : Prop := if m ≤ 2 then s = 2 else s = 1 ∨ (s = 2 ∧ ts.head? ≠ some 10012)
theorem mnO.ne {m s : Nat} {ts : List Int32} (h : mnO m s ts) : s ≠ 0 := by
  unfold mnO at h
  split at h
  · omega
  · rcases h with h | h <;> omega
def stopC (m : Nat) (ts : List Int32) (p : List Int32) : Prop := ∀ t, ts.head? = some t → (m ≤ 4 → t ≠ 10018) ∧ (m ≤ 3 → t ≠ 10016 ∧ t ≠ 10017) ∧ (m ≤ 2 → (t = 10014 ∨ t = 10015) → cmpIn p) ∧ (m ≤ 1 → t ≠ 10011) ∧ (m = 0 → t ≠ 10010)
/-- read well, from level m, stopped as of level k -/
def simO (m k o : Nat) (ts c ts' c' : List Int32) : Prop := ∀ s h, hOK (HH m) h → mnO m s ts → ∃ p u, c' = u ++ p ∧ (∀ x ∈ p, RR m ≤ rkC x) ∧ stopC k ts' p ∧ mE ts s h o c = mE ts' 0 (p ++ h) (o + nU p) u
def sim1 (o : Nat) (ts c ts' c' : List Int32) : Prop := ∀ s h, mnO 5 s ts → mE ts s h o c = mE ts' 0 (pop 7 h).2 (o - nU (pop 7 h).1) (c' ++ (pop 7 h).1)
def simF (m o : Nat) (ts c ts' : List Int32) : Prop := ∀ s h, (m ≤ 4 → hOK (HH m) h) → mnO m s ts → (mE ts s h o c).1 = false ∧ (mE ts s h o c).2.1 = ts'
/-- what is emitted keeps to the stack -/
def stD (m o : Nat) (c c' : List Int32) : Prop := ∃ d, c' = c ++ d ∧ (∀ x ∈ d, okC x) ∧ ∀ k rest, k + (5 * (5 - o) + (6 - m)) ≤ 40 → okP rest (k + 1) → okP (d ++ rest) k
theorem stD.up {m m' o : Nat} {c c' : List Int32} (h : stD m o c c') (hm : m' ≤ m) : stD m' o c c' := by
  obtain ⟨d, h1, h2, h3⟩ := h
  exact ⟨d, h1, h2, fun k rest hk hr => h3 k rest (by omega) hr⟩
theorem okP_op {x : Int32} {p : List Int32} {k : Nat} (h : ¬ x < 10010) (h12 : ¬ (x = 10012 ∨ x = 10013)) (hk : 2 ≤ k) (hp : okP p (k - 1)) : okP (x :: p) k := by
  rw [okP, if_neg h, if_neg h12]
  exact ⟨hk, hp⟩
theorem okP_u {x : Int32} {p : List Int32} {k : Nat} (h12 : x = 10012 ∨ x = 10013) (hk : 1 ≤ k) (hp : okP p k) : okP (x :: p) k := by
  have h : ¬ x < 10010 := by rcases h12 with rfl | rfl <;> decide
  rw [okP, if_neg h, if_pos h12]
  exact ⟨hk, hp⟩
theorem stD.bin {m o : Nat} {x : Int32} {c c1 c2 : List Int32} (h1 : stD m o c c1) (h2 : stD (m + 1) o c1 c2) (hm : m ≤ 4) (hx : isSg x) : stD m o c (c2 ++ [x]) := by
  obtain ⟨d1, rfl, a2, a3⟩ := h1
  obtain ⟨d2, rfl, b2, b3⟩ := h2
  have hx1 : ¬ x < 10010 := by rcases hx with rfl | rfl | rfl | rfl | rfl | rfl | rfl <;> decide
  have hx2 : ¬ (x = 10012 ∨ x = 10013) := by rcases hx with rfl | rfl | rfl | rfl | rfl | rfl | rfl <;> decide
  have hx3 : okC x := by rcases hx with rfl | rfl | rfl | rfl | rfl | rfl | rfl <;> exact ⟨by decide, by decide, by decide⟩
  refine ⟨d1 ++ d2 ++ [x], by simp, fun y hy => ?_, fun k rest hk hr => ?_⟩
  · rcases List.mem_append.mp hy with hy | hy
    · rcases List.mem_append.mp hy with hy | hy
      · exact a2 y hy
      · exact b2 y hy
    · have : y = x := by simpa using hy
      rw [this]; exact hx3
  · have e : d1 ++ d2 ++ [x] ++ rest = d1 ++ (d2 ++ (x :: rest)) := by simp
    rw [e]
    exact a3 k _ hk (b3 (k + 1) _ (by omega) (okP_op hx1 hx2 (by omega) hr))
theorem stD.un {m o : Nat} {x : Int32} {c c1 : List Int32} (h1 : stD m (o + 1) c c1) (hx : x = 10012 ∨ x = 10013) : stD m o c (c1 ++ [x]) := by
  obtain ⟨d1, rfl, a2, a3⟩ := h1
  refine ⟨d1 ++ [x], by simp, fun y hy => ?_, fun k rest hk hr => ?_⟩
  · rcases List.mem_append.mp hy with hy | hy
    · exact a2 y hy
    · have : y = x := by simpa using hy
      rw [this]
      rcases hx with rfl | rfl <;> exact ⟨by decide, by decide, by decide⟩
  · have e : d1 ++ [x] ++ rest = d1 ++ (x :: rest) := by simp
    rw [e]
    exact a3 k _ (by omega) (okP_u hx (by omega) hr)
theorem stD.par {o : Nat} {c c1 : List Int32} (h1 : stD 0 (o + 1) c c1) (ho : o < 5) : stD 5 o c c1 := by
  obtain ⟨d1, h1, a2, a3⟩ := h1
  exact ⟨d1, h1, a2, fun k rest hk hr => a3 k rest (by omega) hr⟩
theorem stD.val {o : Nat} {t : Int32} {c : List Int32} (ht : t ≤ 10005) (h0 : 0 ≤ t) : stD 5 o c (c ++ [t]) := by
  rw [ile] at ht h0
  rw [show (10005 : Int32).toInt = 10005 from rfl] at ht
  refine ⟨[t], rfl, fun y hy => ?_, fun k rest hk hr => ?_⟩
  · have : y = t := by simpa using hy
    rw [this]
    refine ⟨?_, ?_, ?_⟩
    · rw [ile]; exact h0
    · rw [ile, show (10018 : Int32).toInt = 10018 from rfl]; omega
    · rw [ilt, show (10005 : Int32).toInt = 10005 from rfl]; omega
  · show okP (t :: rest) k
    rw [okP, if_pos (by rw [ilt, show (10010 : Int32).toInt = 10010 from rfl]; omega)]
    exact ⟨by omega, hr⟩
/-! the readers' steps -/
theorem one_val {o : Nat} {t : Int32} {ts c : List Int32} (ht : t ≤ 10005) : sim1 o (t :: ts) c ts (c ++ [t]) := by
  intro s h hs
  rw [mE_1 t ts s h o c hs.ne, if_pos ht]
theorem one_neg {o : Nat} {ts c ts' c1 : List Int32} (h : sim1 (o + 1) ts c ts' c1) (ho : o < 5) : sim1 o (10017 :: ts) c ts' (c1 ++ [10013]) := by
  intro s hh hs
  rw [mE_1 _ ts s hh o c hs.ne, if_neg (by decide), if_neg (fun z => absurd z.1 (by decide)), if_pos rfl, if_neg (by omega), h 1 (10013 :: hh) (by unfold mnO; rw [if_neg (by decide)]; exact Or.inl rfl)]
  have e : pop 7 (10013 :: hh) = (10013 :: (pop 7 hh).1, (pop 7 hh).2) := by rw [pop, if_pos (by decide)]
  rw [e]
  have e2 : nU (10013 :: (pop 7 hh).1) = nU (pop 7 hh).1 + 1 := by rw [nU, if_pos (Or.inr rfl)]
  dsimp only
  rw [e2, show o + 1 - (nU (pop 7 hh).1 + 1) = o - nU (pop 7 hh).1 by omega, List.append_assoc]
  rfl
theorem one_negF {o : Nat} {ts c ts' : List Int32} (h : simF 5 (o + 1) ts c ts') (ho : o < 5) : simF 5 o (10017 :: ts) c ts' := by
  intro s hh _ hs
  rw [mE_1 _ ts s hh o c hs.ne, if_neg (by decide), if_neg (fun z => absurd z.1 (by decide)), if_pos rfl, if_neg (by omega)]
  exact h 1 _ (fun z => absurd z (by decide)) (by unfold mnO; rw [if_neg (by decide)]; exact Or.inl rfl)
theorem one_par {o : Nat} {ts c ts' c' : List Int32} (h : simO 0 0 (o + 1) ts c (10021 :: ts') c') (ho : o < 5) : sim1 o (10020 :: ts) c ts' c' := by
  intro s hh hs
  rw [mE_1 _ ts s hh o c hs.ne, if_neg (by decide), if_neg (fun z => absurd z.1 (by decide)), if_neg (by decide), if_pos rfl, if_neg (by omega)]
  obtain ⟨p, u, e1, e2, e3, e4⟩ := h 2 (0 :: hh) (show rkC 0 < 1 by decide) (by unfold mnO; rw [if_pos (by decide)])
  rw [e4, mE_0, if_neg (by decide), if_pos rfl, pop_app (show hOK 1 (0 :: hh) from (show rkC 0 < 1 by decide)) p e2, e1]
  show mE ts' 0 (pop 7 hh).2 (o + 1 + nU p - nU p - 1 - nU (pop 7 hh).1) (u ++ p ++ (pop 7 hh).1) = _
  rw [show o + 1 + nU p - nU p - 1 - nU (pop 7 hh).1 = o - nU (pop 7 hh).1 by omega]
/-- nothing goes on there -/
theorem stuck {ts p h u : List Int32} {op : Nat} (hh : hOK 1 h) (hp : ∀ x ∈ p, 1 ≤ rkC x) (hs : stopC 0 ts p) (h1 : ts.head? = some 10022 → h ≠ []) (h2 : ts.head? = some 10021 → h = []) : (mE ts 0 (p ++ h) op u).1 = false ∧ (mE ts 0 (p ++ h) op u).2.1 = ts := by
  cases ts with
  | nil => rw [mE]; exact ⟨rfl, rfl⟩
  | cons t ts =>
    rw [mE_0]
    by_cases t1 : t = 10022
    · rw [if_pos t1, pop_app hh p hp, if_neg (h1 (by rw [t1]; rfl))]
      exact ⟨rfl, rfl⟩
    rw [if_neg t1]
    by_cases t2 : t = 10021
    · rw [if_pos t2, pop_app hh p hp, h2 (by rw [t2]; rfl)]
      exact ⟨rfl, rfl⟩
    rw [if_neg t2]
    by_cases t3 : isSg t
    · obtain ⟨s1, s2, s3, s4, s5⟩ := hs t rfl
      rw [if_pos t3]
      rcases t3 with e | e | e | e | e | e | e
      · exact absurd e (s5 rfl)
      · exact absurd e (s4 (by decide))
      · have hc := (s3 (by decide) (Or.inl e)).app (h := h)
        subst e
        rw [if_pos ⟨by decide, hc⟩]
        exact ⟨rfl, rfl⟩
      · have hc := (s3 (by decide) (Or.inr e)).app (h := h)
        subst e
        rw [if_pos ⟨by decide, hc⟩]
        exact ⟨rfl, rfl⟩
      · exact absurd e (s2 (by decide)).1
      · exact absurd e (s2 (by decide)).2
      · exact absurd e (s1 (by decide))
    · rw [if_neg t3]
      exact ⟨rfl, rfl⟩
theorem one_parF1 {o : Nat} {ts c ts' c' : List Int32} (h : simO 0 0 (o + 1) ts c ts' c') (ho : o < 5) (hne : ts'.head? ≠ some 10021) : simF 5 o (10020 :: ts) c ts' := by
  intro s hh _ hs
  rw [mE_1 _ ts s hh o c hs.ne, if_neg (by decide), if_neg (fun z => absurd z.1 (by decide)), if_neg (by decide), if_pos rfl, if_neg (by omega)]
  obtain ⟨p, u, e1, e2, e3, e4⟩ := h 2 (0 :: hh) (show rkC 0 < 1 by decide) (by unfold mnO; rw [if_pos (by decide)])
  rw [e4]
  exact stuck (show hOK 1 (0 :: hh) from (show rkC 0 < 1 by decide)) e2 e3 (fun _ z => by cases z) (fun z => absurd z hne)
theorem one_parF2 {o : Nat} {ts c ts' : List Int32} (h : simF 0 (o + 1) ts c ts') (ho : o < 5) : simF 5 o (10020 :: ts) c ts' := by
  intro s hh _ hs
  rw [mE_1 _ ts s hh o c hs.ne, if_neg (by decide), if_neg (fun z => absurd z.1 (by decide)), if_neg (by decide), if_pos rfl, if_neg (by omega)]
  exact h 2 (0 :: hh) (fun _ => (show rkC 0 < 1 by decide)) (by unfold mnO; rw [if_pos (by decide)])
theorem one_full {t : Int32} {ts c : List Int32} (ht : t = 10017 ∨ t = 10020) : simF 5 5 (t :: ts) c (t :: ts) := by
  intro s hh _ hs
  rw [mE_1 t ts s hh 5 c hs.ne]
  rcases ht with rfl | rfl
  · rw [if_neg (by decide), if_neg (fun z => absurd z.1 (by decide)), if_pos rfl, if_pos rfl]
    exact ⟨rfl, rfl⟩
  · rw [if_neg (by decide), if_neg (fun z => absurd z.1 (by decide)), if_neg (by decide), if_pos rfl, if_pos rfl]
    exact ⟨rfl, rfl⟩
theorem one_no {o : Nat} {ts c : List Int32} (ht : ∀ t, ts.head? = some t → ¬ t ≤ 10005 ∧ t ≠ 10017 ∧ t ≠ 10020) : simF 5 o ts c ts := by
  intro s hh _ hs
  cases ts with
  | nil => rw [mE]; exact ⟨rfl, rfl⟩
  | cons t ts =>
    obtain ⟨t1, t2, t3⟩ := ht t rfl
    rw [mE_1 t ts s hh o c hs.ne, if_neg t1, if_neg, if_neg t2, if_neg t3]
    · exact ⟨rfl, rfl⟩
    · rintro ⟨e, es⟩
      unfold mnO at hs
      rw [if_neg (by decide)] at hs
      rcases hs with hs | ⟨_, hs⟩
      · omega
      · exact hs (by rw [e]; rfl)
theorem mnO.up {m m' s : Nat} {ts : List Int32} (h : mnO m s ts) (hm : m ≤ m') (h12 : m' ≤ 2 ∨ 3 ≤ m ∨ ts.head? ≠ some 10012) : mnO m' s ts := by
  unfold mnO at h ⊢
  by_cases h1 : m ≤ 2
  · rw [if_pos h1] at h
    by_cases h2 : m' ≤ 2
    · rw [if_pos h2]; exact h
    · rw [if_neg h2]
      rcases h12 with z | z | z
      · omega
      · omega
      · exact Or.inr ⟨h, z⟩
  · rw [if_neg h1] at h
    rw [if_neg (by omega)]
    exact h
/-- the first of several -/
theorem bin_0 {m o : Nat} {ts c ts' c' : List Int32} (hm : m = 0 ∨ m = 1 ∨ m = 3) (h : simO (m + 1) (m + 1) o ts c ts' c') : simO m (m + 1) o ts c ts' c' := by
  intro s hh h1 h2
  have hH : HH m ≤ HH (m + 1) := by rcases hm with rfl | rfl | rfl <;> decide
  have hR : RR m ≤ RR (m + 1) := by rcases hm with rfl | rfl | rfl <;> decide
  obtain ⟨p, u, e1, e2, e3, e4⟩ := h s hh (h1.le hH) (h2.up (by omega) (by omega))
  exact ⟨p, u, e1, fun x hx => Nat.le_trans hR (e2 x hx), e3, e4⟩
theorem bin_04 {o : Nat} {ts c ts' c' : List Int32} (h : sim1 o ts c ts' c') : simO 4 5 o ts c ts' c' := by
  intro s hh h1 h2
  refine ⟨[], c', by simp, fun x hx => absurd hx List.not_mem_nil, fun t ht => ⟨fun z => absurd z (by decide), fun z => absurd z (by decide), fun z => absurd z (by decide), fun z => absurd z (by decide), fun z => absurd z (by decide)⟩, ?_⟩
  have e : pop 7 hh = ([], hh) := pop_all (h1.le (by decide))
  rw [h s hh (h2.up (by decide) (Or.inr (Or.inl (by decide)))), e]
  show mE ts' 0 hh (o - 0) (c' ++ []) = mE ts' 0 hh (o + 0) c'
  rw [List.append_nil]
  rfl
theorem bin_F0 {m o : Nat} {ts c ts' : List Int32} (hm : m = 0 ∨ m = 1 ∨ m = 3 ∨ m = 4) (h : simF (m + 1) o ts c ts') : simF m o ts c ts' := by
  intro s hh h1 h2
  have hH : HH m ≤ HH (m + 1) := by rcases hm with rfl | rfl | rfl | rfl <;> decide
  exact h s hh (fun z => (h1 (by omega)).le hH) (h2.up (by omega) (by omega))
/-- the signs of a level -/
def sgL (m : Nat) (t : Int32) : Prop := (m = 0 ∧ t = 10010) ∨ (m = 1 ∧ t = 10011) ∨ (m = 3 ∧ (t = 10016 ∨ t = 10017)) ∨ (m = 4 ∧ t = 10018)
theorem sgL.sg {m : Nat} {t : Int32} (h : sgL m t) : isSg t ∧ rSg t = RR m ∧ rkC t = RR m ∧ HH m = RR m ∧ ¬ rkC t = 4 ∧ ¬ t = 10022 ∧ ¬ t = 10021 ∧ (m ≤ 4) ∧ ¬ (t = 10012 ∨ t = 10013) := by
  unfold isSg
  rcases h with ⟨rfl, rfl⟩ | ⟨rfl, rfl⟩ | ⟨rfl, rfl | rfl⟩ | ⟨rfl, rfl⟩ <;> decide
theorem sgL.nxt {m : Nat} {t : Int32} (h : sgL m t) (ts : List Int32) (hh : List Int32) : mnO (m + 1) (if t = 10010 ∨ t = 10011 then 2 else 1) ts ∧ (m + 1 ≤ 4 → hOK (HH (m + 1)) (t :: hh)) := by
  rcases h with ⟨rfl, rfl⟩ | ⟨rfl, rfl⟩ | ⟨rfl, rfl | rfl⟩ | ⟨rfl, rfl⟩
  · exact ⟨by unfold mnO; rw [if_pos (by decide)]; decide, fun _ => (show rkC 10010 < 2 by decide)⟩
  · exact ⟨by unfold mnO; rw [if_pos (by decide)]; decide, fun _ => (show rkC 10011 < 4 by decide)⟩
  · exact ⟨by unfold mnO; rw [if_neg (by decide)]; exact Or.inl (by decide), fun _ => (show rkC 10016 < 6 by decide)⟩
  · exact ⟨by unfold mnO; rw [if_neg (by decide)]; exact Or.inl (by decide), fun _ => (show rkC 10017 < 6 by decide)⟩
  · exact ⟨by unfold mnO; rw [if_neg (by decide)]; exact Or.inl (by decide), fun z => absurd z (by decide)⟩
/-- the sign is read: all that waits comes -/
theorem bin_sg {m o : Nat} {t : Int32} {ts c ts1 c1 : List Int32} (h : simO m (m + 1) o ts c (t :: ts1) c1) (ht : sgL m t) {s : Nat} {hh : List Int32} (h1 : hOK (HH m) hh) (h2 : mnO m s ts) : mE ts s hh o c = mE ts1 (if t = 10010 ∨ t = 10011 then 2 else 1) (t :: hh) o c1 := by
  obtain ⟨p, u, e1, e2, e3, e4⟩ := h s hh h1 h2
  obtain ⟨g1, g2, g3, g4, g5, g6, g7, _, _⟩ := ht.sg
  have e : pop (rSg t) (p ++ hh) = (p, hh) := by
    rw [g2]
    exact pop_app (by rw [← g4]; exact h1) p e2
  rw [e4, mE_0, if_neg g6, if_neg g7, if_pos g1, if_neg (fun z => g5 z.1), e, e1]
  dsimp only
  rw [Nat.add_sub_cancel]
theorem nU_1 {x : Int32} (h : ¬ (x = 10012 ∨ x = 10013)) (p : List Int32) : nU (p ++ [x]) = nU p := by
  rw [nU_app, nU, if_neg h]
  rfl
theorem bin_1 {m o : Nat} {t : Int32} {ts c ts1 c1 ts2 c2 : List Int32} (h : simO m (m + 1) o ts c (t :: ts1) c1) (ht : sgL m t) (hm : m ≤ 3) (h2 : simO (m + 1) (m + 1) o ts1 c1 ts2 c2) : simO m (m + 1) o ts c ts2 (c2 ++ [t]) := by
  intro s hh q1 q2
  obtain ⟨n1, n2⟩ := ht.nxt ts1 hh
  obtain ⟨g1, g2, g3, g4, g5, g6, g7, g8, g9⟩ := ht.sg
  obtain ⟨p, u, e1, e2, e3, e4⟩ := h2 _ (t :: hh) (n2 (by omega)) n1
  have hR : RR m ≤ RR (m + 1) := by rcases ht with ⟨rfl, _⟩ | ⟨rfl, _⟩ | ⟨rfl, _⟩ | ⟨rfl, _⟩ <;> decide
  refine ⟨p ++ [t], u, by rw [e1, List.append_assoc], fun x hx => ?_, fun y hy => ?_, ?_⟩
  · rcases List.mem_append.mp hx with hx | hx
    · exact Nat.le_trans hR (e2 x hx)
    · have : x = t := by simpa using hx
      rw [this, g3]
      exact Nat.le_refl _
  · obtain ⟨s1, s2, s3, s4, s5⟩ := e3 y hy
    exact ⟨s1, s2, fun z1 z2 => (s3 z1 z2).app, s4, s5⟩
  · rw [bin_sg h ht q1 q2, e4, nU_1 g9, List.append_assoc]
    rfl
theorem bin_14 {o : Nat} {ts c ts1 c1 ts2 c2 : List Int32} (h : simO 4 5 o ts c (10018 :: ts1) c1) (h2 : sim1 o ts1 c1 ts2 c2) : simO 4 5 o ts c ts2 (c2 ++ [10018]) := by
  intro s hh q1 q2
  have ht : sgL 4 10018 := Or.inr (Or.inr (Or.inr ⟨rfl, rfl⟩))
  obtain ⟨n1, n2⟩ := ht.nxt ts1 hh
  refine ⟨[10018], c2, rfl, fun x hx => ?_, fun t ht => ⟨fun z => absurd z (by decide), fun z => absurd z (by decide), fun z => absurd z (by decide), fun z => absurd z (by decide), fun z => absurd z (by decide)⟩, ?_⟩
  · have : x = 10018 := by simpa using hx
    rw [this]
    decide
  · have e : pop 7 (10018 :: hh) = ([], 10018 :: hh) := pop_all (show rkC 10018 < 7 by decide)
    rw [bin_sg h ht q1 q2, h2 _ (10018 :: hh) n1, e]
    show mE ts2 0 (10018 :: hh) (o - 0) (c2 ++ []) = mE ts2 0 (10018 :: hh) (o + 0) c2
    rw [List.append_nil]
    rfl
theorem bin_1F {m o : Nat} {t : Int32} {ts c ts1 c1 ts2 : List Int32} (h : simO m (m + 1) o ts c (t :: ts1) c1) (ht : sgL m t) (h2 : simF (m + 1) o ts1 c1 ts2) : simF m o ts c ts2 := by
  intro s hh q1 q2
  obtain ⟨n1, n2⟩ := ht.nxt ts1 hh
  obtain ⟨g1, g2, g3, g4, g5, g6, g7, g8, g9⟩ := ht.sg
  rw [bin_sg h ht (q1 (by omega)) q2]
  exact h2 _ (t :: hh) (fun z => n2 z) n1
theorem bin_end {m o : Nat} {ts c ts' c' : List Int32} (hm : m = 0 ∨ m = 1 ∨ m = 3 ∨ m = 4) (h : simO m (m + 1) o ts c ts' c') (hn : ∀ t, ts'.head? = some t → ¬ sgL m t) : simO m m o ts c ts' c' := by
  intro s hh q1 q2
  obtain ⟨p, u, e1, e2, e3, e4⟩ := h s hh q1 q2
  refine ⟨p, u, e1, e2, fun t ht => ?_, e4⟩
  obtain ⟨s1, s2, s3, s4, s5⟩ := e3 t ht
  have := hn t ht
  unfold sgL at this
  rcases hm with rfl | rfl | rfl | rfl
  · exact ⟨fun _ => s1 (by decide), fun _ => s2 (by decide), fun _ => s3 (by decide), fun _ => s4 (by decide), fun _ z => this (Or.inl ⟨rfl, z⟩)⟩
  · exact ⟨fun _ => s1 (by decide), fun _ => s2 (by decide), fun _ => s3 (by decide), fun _ z => this (Or.inr (Or.inl ⟨rfl, z⟩)), fun z => absurd z (by decide)⟩
  · exact ⟨fun _ => s1 (by decide), fun _ => ⟨fun z => this (Or.inr (Or.inr (Or.inl ⟨rfl, Or.inl z⟩))), fun z => this (Or.inr (Or.inr (Or.inl ⟨rfl, Or.inr z⟩)))⟩, fun z => absurd z (by decide), fun z => absurd z (by decide), fun z => absurd z (by decide)⟩
  · exact ⟨fun _ z => this (Or.inr (Or.inr (Or.inr ⟨rfl, z⟩))), fun z => absurd z (by decide), fun z => absurd z (by decide), fun z => absurd z (by decide), fun z => absurd z (by decide)⟩
/-! NOT -/
theorem not_sum {o : Nat} {ts c ts' c' : List Int32} (h : simO 3 3 o ts c ts' c') (h0 : ts.head? ≠ some 10012) (hn : ts'.head? ≠ some 10014 ∧ ts'.head? ≠ some 10015) : simO 2 2 o ts c ts' c' := by
  intro s hh q1 q2
  obtain ⟨p, u, e1, e2, e3, e4⟩ := h s hh (q1.le (by decide)) (q2.up (by decide) (Or.inr (Or.inr h0)))
  refine ⟨p, u, e1, fun x hx => Nat.le_trans (by decide) (e2 x hx), fun t ht => ?_, e4⟩
  obtain ⟨s1, s2, s3, s4, s5⟩ := e3 t ht
  refine ⟨fun _ => s1 (by decide), fun _ => s2 (by decide), fun _ z => ?_, fun z => absurd z (by decide), fun z => absurd z (by decide)⟩
  rcases z with z | z
  · rw [z] at ht; exact absurd ht hn.1
  · rw [z] at ht; exact absurd ht hn.2
theorem not_sumF {o : Nat} {ts c ts' : List Int32} (h : simF 3 o ts c ts') (h0 : ts.head? ≠ some 10012) : simF 2 o ts c ts' := fun s hh q1 q2 => h s hh (fun _ => (q1 (by decide)).le (by decide)) (q2.up (by decide) (Or.inr (Or.inr h0)))
theorem not_sg {o : Nat} {t : Int32} {ts c ts1 c1 : List Int32} (h : simO 3 3 o ts c (t :: ts1) c1) (h0 : ts.head? ≠ some 10012) (ht : t = 10014 ∨ t = 10015) {s : Nat} {hh : List Int32} (q1 : hOK (HH 2) hh) (q2 : mnO 2 s ts) : mE ts s hh o c = mE ts1 1 (t :: hh) o c1 := by
  obtain ⟨p, u, e1, e2, e3, e4⟩ := h s hh (q1.le (by decide)) (q2.up (by decide) (Or.inr (Or.inr h0)))
  have g : isSg t ∧ rSg t = 5 ∧ rkC t = 4 ∧ ¬ t = 10022 ∧ ¬ t = 10021 ∧ ¬ (t = 10010 ∨ t = 10011) := by
    unfold isSg
    rcases ht with rfl | rfl <;> decide
  obtain ⟨g1, g2, g3, g4, g5, g6⟩ := g
  have e : pop (rSg t) (p ++ hh) = (p, hh) := by
    rw [g2]
    exact pop_app (q1.le (by decide)) p e2
  have h4 : top4 hh = false := by
    cases hh with
    | nil => rfl
    | cons x hh =>
      have : rkC x < 4 := q1
      unfold top4
      simp
      omega
  rw [e4, mE_0, if_neg g4, if_neg g5, if_pos g1, e, if_neg (fun z => by rw [h4] at z; exact absurd z.2 (by decide)), if_neg g6, e1]
  dsimp only
  rw [Nat.add_sub_cancel]
theorem not_cmp {o : Nat} {t : Int32} {ts c ts1 c1 ts2 c2 : List Int32} (h : simO 3 3 o ts c (t :: ts1) c1) (h0 : ts.head? ≠ some 10012) (ht : t = 10014 ∨ t = 10015) (h2 : simO 3 3 o ts1 c1 ts2 c2) : simO 2 2 o ts c ts2 (c2 ++ [t]) := by
  intro s hh q1 q2
  have r4 : rkC t = 4 := by rcases ht with rfl | rfl <;> decide
  obtain ⟨p, u, e1, e2, e3, e4⟩ := h2 1 (t :: hh) (show rkC t < 5 by omega) (by unfold mnO; rw [if_neg (by decide)]; exact Or.inl rfl)
  refine ⟨p ++ [t], u, by rw [e1, List.append_assoc], fun x hx => ?_, fun y hy => ?_, ?_⟩
  · rcases List.mem_append.mp hx with hx | hx
    · exact Nat.le_trans (by decide) (e2 x hx)
    · have : x = t := by simpa using hx
      rw [this, r4]
      decide
  · obtain ⟨s1, s2, s3, s4, s5⟩ := e3 y hy
    refine ⟨fun _ => s1 (by decide), fun _ => s2 (by decide), fun _ _ => ?_, fun z => absurd z (by decide), fun z => absurd z (by decide)⟩
    unfold cmpIn
    rw [pop_app (show hOK 5 [t] from (show rkC t < 5 by omega)) p e2]
    show (rkC t == 4) = true
    rw [r4]
    rfl
  · have g9 : ¬ (t = 10012 ∨ t = 10013) := by rcases ht with rfl | rfl <;> decide
    rw [not_sg h h0 ht q1 q2, e4, nU_1 g9, List.append_assoc]
    rfl
theorem not_cmpF {o : Nat} {t : Int32} {ts c ts1 c1 ts2 : List Int32} (h : simO 3 3 o ts c (t :: ts1) c1) (h0 : ts.head? ≠ some 10012) (ht : t = 10014 ∨ t = 10015) (h2 : simF 3 o ts1 c1 ts2) : simF 2 o ts c ts2 := by
  intro s hh q1 q2
  have r4 : rkC t = 4 := by rcases ht with rfl | rfl <;> decide
  rw [not_sg h h0 ht (q1 (by decide)) q2]
  exact h2 1 (t :: hh) (fun _ => (show rkC t < 5 by omega)) (by unfold mnO; rw [if_neg (by decide)]; exact Or.inl rfl)
theorem not_not {o : Nat} {ts c ts' c1 : List Int32} (h : simO 2 2 (o + 1) ts c ts' c1) (ho : o < 5) : simO 2 2 o (10012 :: ts) c ts' (c1 ++ [10012]) := by
  intro s hh q1 q2
  have hs : s = 2 := by unfold mnO at q2; rw [if_pos (by decide)] at q2; exact q2
  obtain ⟨p, u, e1, e2, e3, e4⟩ := h 2 (10012 :: hh) (show rkC 10012 < 4 by decide) (by unfold mnO; rw [if_pos (by decide)])
  refine ⟨p ++ [10012], u, by rw [e1, List.append_assoc], fun x hx => ?_, fun y hy => ?_, ?_⟩
  · rcases List.mem_append.mp hx with hx | hx
    · exact e2 x hx
    · have : x = 10012 := by simpa using hx
      rw [this]
      decide
  · obtain ⟨s1, s2, s3, s4, s5⟩ := e3 y hy
    exact ⟨s1, s2, fun z1 z2 => (s3 z1 z2).app, s4, s5⟩
  · have en : nU (p ++ [10012]) = nU p + 1 := by rw [nU_app]; rfl
    rw [mE_1 _ ts s hh o c q2.ne, if_neg (by decide), if_pos ⟨rfl, hs⟩, if_neg (by omega), e4, en, List.append_assoc, show o + 1 + nU p = o + (nU p + 1) by omega]
    rfl
theorem not_notF {o : Nat} {ts c ts' : List Int32} (h : simF 2 (o + 1) ts c ts') (ho : o < 5) : simF 2 o (10012 :: ts) c ts' := by
  intro s hh q1 q2
  have hs : s = 2 := by unfold mnO at q2; rw [if_pos (by decide)] at q2; exact q2
  rw [mE_1 _ ts s hh o c q2.ne, if_neg (by decide), if_pos ⟨rfl, hs⟩, if_neg (by omega)]
  exact h 2 (10012 :: hh) (fun _ => (show rkC 10012 < 4 by decide)) (by unfold mnO; rw [if_pos (by decide)])
theorem not_full {ts c : List Int32} : simF 2 5 (10012 :: ts) c (10012 :: ts) := by
  intro s hh q1 q2
  have hs : s = 2 := by unfold mnO at q2; rw [if_pos (by decide)] at q2; exact q2
  rw [mE_1 _ ts s hh 5 c q2.ne, if_neg (by decide), if_pos ⟨rfl, hs⟩, if_pos rfl]
  exact ⟨rfl, rfl⟩
/-! an E -/
theorem e_ok {ts c ts' c' : List Int32} (h : simO 0 0 0 ts c (10022 :: ts') c') : mE ts 2 [] 0 c = (true, ts', c') := by
  obtain ⟨p, u, e1, e2, e3, e4⟩ := h 2 [] trivial (by unfold mnO; rw [if_pos (by decide)])
  rw [e4, mE_0, if_pos rfl, pop_app (show hOK 1 [] from trivial) p e2, if_pos rfl, e1]
theorem e_F1 {ts c ts' c' : List Int32} (h : simO 0 0 0 ts c ts' c') (hn : ts'.head? ≠ some 10022) : (mE ts 2 [] 0 c).1 = false ∧ (mE ts 2 [] 0 c).2.1 = ts' := by
  obtain ⟨p, u, e1, e2, e3, e4⟩ := h 2 [] trivial (by unfold mnO; rw [if_pos (by decide)])
  rw [e4]
  exact stuck (h := []) trivial e2 e3 (fun z => absurd z hn) (fun _ => rfl)
theorem e_F2 {ts c ts' : List Int32} (h : simF 0 0 ts c ts') : (mE ts 2 [] 0 c).1 = false ∧ (mE ts 2 [] 0 c).2.1 = ts' := h 2 [] (fun _ => trivial) (by unfold mnO; rw [if_pos (by decide)])
