/-! programs of texts, and how the class says them -/
def bin2 (c u v : Int32) : Int32 := if c = 10010 then (if u = 0 then (if v = 0 then 0 else 1) else 1) else if c = 10011 then (if u = 0 then 0 else if v = 0 then 0 else 1) else if c = 10014 then (if v ≤ u then 0 else 1) else if c = 10015 then (if u = v then 1 else 0) else if c = 10016 then u + v else if c = 10017 then u - v else u * v
def step1 (env : Int32 → Int32) (st : List Int32) (c : Int32) : List Int32 :=
  if c < 10010 then (if 10000 ≤ c then env c else c) :: st
  else if c = 10012 then (match st with | v :: r => (if v = 0 then 1 else 0) :: r | [] => [])
  else if c = 10013 then (match st with | v :: r => (-v) :: r | [] => [])
  else match st with
    | v :: u :: r => bin2 c u v :: r
    | r => r
def runP (env : Int32 → Int32) (p : List Int32) (st : List Int32) : List Int32 := p.foldl (step1 env) st
/-- a program keeps to a stack of 40, and leaves one value -/
def okP : List Int32 → Nat → Prop
  | [], k => k = 1
  | c :: p, k => if c < 10010 then k < 40 ∧ okP p (k + 1) else if c = 10012 ∨ c = 10013 then 1 ≤ k ∧ okP p k else 2 ≤ k ∧ okP p (k - 1)
def envM (h r : Nat → Int32) (c : Int32) : Int32 := if c = 10000 then h 1 else if c = 10001 then h 2 else if c = 10002 then (if r 2 = 3 then 0 else r 2) else if c = 10003 then h 0 else if c = 10004 then r 3 else r 1
def sayM (part : Int32) (p : List Int32) (env : Int32 → Int32) : Int32 := if part = 1 then bnd ((runP env p []).headD 0) 0 999 else bnd ((runP env p []).headD 0) (-99) 99
def Stk (w : Wd) (S : Nat) : List Int32 → Prop
  | [] => True
  | v :: r => wi w S r.length = v ∧ Stk w S r
/-- what may change: ints and references of some cells -/
def Fr (P : Nat → Prop) (w w' : Wd) : Prop := (∀ q, sh w' q = sh w q) ∧ nx w' = nx w ∧ ∀ q, ¬ P q → (∀ k, wi w' q k = wi w q k) ∧ ∀ k, wr w' q k = wr w q k
theorem Fr.rf {P : Nat → Prop} {w : Wd} : Fr P w w := ⟨fun _ => rfl, rfl, fun _ _ => ⟨fun _ => rfl, fun _ => rfl⟩⟩
theorem Fr.tr {P : Nat → Prop} {a b c : Wd} (h1 : Fr P a b) (h2 : Fr P b c) : Fr P a c := ⟨fun q => (h2.1 q).trans (h1.1 q), h2.2.1.trans h1.2.1, fun q hq => ⟨fun k => ((h2.2.2 q hq).1 k).trans ((h1.2.2 q hq).1 k), fun k => ((h2.2.2 q hq).2 k).trans ((h1.2.2 q hq).2 k)⟩⟩
theorem Fr.mono {P Q : Nat → Prop} {a b : Wd} (h : Fr P a b) (hPQ : ∀ q, P q → Q q) : Fr Q a b := ⟨h.1, h.2.1, fun q hq => h.2.2 q fun z => hq (hPQ q z)⟩
theorem Fr.sI {P : Nat → Prop} {w : Wd} {q k : Nat} {v : Int32} (h : P q) : Fr P w (sI w q k v) := ⟨fun _ => rfl, rfl, fun a ha => ⟨fun b => wi_sI_ne (fun (e : a = q) => ha (by rw [e]; exact h)) b, fun _ => rfl⟩⟩
theorem Fr.sR {P : Nat → Prop} {w : Wd} {q k : Nat} {v : Nat} (h : P q) : Fr P w (sR w q k v) := ⟨fun _ => rfl, rfl, fun a ha => ⟨fun _ => rfl, fun b => wr_sR_ne (fun (e : a = q) => ha (by rw [e]; exact h)) b⟩⟩
theorem Stk.set {w : Wd} {S k : Nat} {x : Int32} : ∀ {st : List Int32}, st.length ≤ k → Stk w S st → Stk (sI w S k x) S st := by
  intro st
  induction st with
  | nil => intro _ _; trivial
  | cons v r ih =>
    intro h1 h2
    simp only [List.length_cons] at h1
    exact ⟨by rw [wi_sI, if_neg (by omega)]; exact h2.1, ih (by omega) h2.2⟩
theorem Stk.push {w : Wd} {S : Nat} {x : Int32} {st : List Int32} (h : Stk w S st) : Stk (sI w S st.length x) S (x :: st) := ⟨by rw [wi_sI, if_pos ⟨rfl, rfl⟩], h.set (Nat.le_refl _)⟩
theorem ni1 (k : Nat) : nI (k + 1) - 1 = nI k := nI_pred k
theorem ni2 (k : Nat) : nI (k + 2) - 2 = nI k := by
  rw [← nI_add k 2]
  show nI k + 2 - 2 = nI k
  exact Int32.add_sub_cancel _ _
theorem ni2' (k : Nat) : nI (k + 2) - 1 = nI (k + 1) := nI_pred (k + 1)
theorem work_cls {w : Wd} {T S : Nat} {c : Int32} {st : List Int32} (env : Int32 → Int32) (h4 : sh w T = (4, 0)) (hS : wr w T 4 = S) (hs : sh w S = (20, 40)) (hc : ¬ c < 10010) (hk : st.length ≤ 40) (h1 : 1 ≤ st.length) (h2 : ¬ (c = 10012 ∨ c = 10013) → 2 ≤ st.length) (hst : Stk w S st) :
    ∃ w', f4_work T c (nI st.length) w = some (nI (step1 env st c).length, w') ∧ Stk w' S (step1 env st c) ∧ Fr (· = S) w w' := by
  match st, h1 with
  | v :: r, _ =>
    simp only [List.length_cons] at hk h2 ⊢
    obtain ⟨hv, hr⟩ := hst
    have n0 : ¬ nI r.length < 0 := nI_pos (by omega)
    have n1 : nI r.length < Int32.ofNat 40 := nI_lt (by omega) (by omega)
    have v1 : vp_in (nI r.length) 40 := vin (by omega) (by omega)
    have c1 : (nI r.length).toNatClampNeg = r.length := nI_clamp (by omega)
    unfold f4_work
    rw [ni1, if_neg n0, ck_pos (tg_eq h4), hS, ck_pos (tg_eq hs), ln_eq hs, if_pos n1, ck_pos v1, c1, hv]
    have un : ∀ x : Int32, Stk (sI w S r.length x) S (x :: r) := fun x => hr.push
    by_cases e12 : c = 10012
    · subst e12
      rw [if_pos rfl]
      unfold j4_work_49
      rw [ck_pos (tg_eq h4), if_neg (by decide), hS, ln_eq hs, c1]
      by_cases hz : v = 0
      · refine ⟨sI w S r.length 1, ?_, ?_, Fr.sI rfl⟩
        · rw [if_pos hz, ck_pos ⟨tg_eq hs, v1⟩]
          simp only [lw, step1]
          rfl
        · have := un 1
          simpa [step1, hz] using this
      · refine ⟨sI w S r.length 0, ?_, ?_, Fr.sI rfl⟩
        · rw [if_neg hz, ck_pos ⟨tg_eq hs, v1⟩]
          simp only [lw, step1]
          rfl
        · have := un 0
          simpa [step1, hz] using this
    by_cases e13 : c = 10013
    · subst e13
      rw [if_neg (by decide), if_pos rfl]
      unfold j4_work_49
      rw [ck_pos (tg_eq h4), if_pos rfl, hS, ln_eq hs, c1, ck_pos ⟨tg_eq hs, v1⟩]
      refine ⟨sI w S r.length (-v), ?_, ?_, Fr.sI rfl⟩
      · simp only [lw, step1]
        rfl
      · have := un (-v)
        simpa [step1] using this
    rw [if_neg e12, if_neg e13]
    have h2' := h2 (fun z => z.elim e12 e13)
    match r, h2' with
    | u :: r, _ =>
      simp only [List.length_cons] at hk ⊢
      obtain ⟨hu, hr⟩ := hr
      have n0 : (0 : Int32) ≤ nI r.length := nI_pos' (by omega)
      have v1 : vp_in (nI r.length) 40 := vin (by omega) (by omega)
      have c1 : (nI r.length).toNatClampNeg = r.length := nI_clamp (by omega)
      have go : ∀ x : Int32, x = bin2 c u v → ∃ w', some (nI (r.length + 1), sI w S r.length x) = some (nI (step1 env (v :: u :: r) c).length, w') ∧ Stk w' S (step1 env (v :: u :: r) c) ∧ Fr (· = S) w w' := by
        intro x hx
        have es : step1 env (v :: u :: r) c = x :: r := by
          unfold step1
          rw [if_neg hc, if_neg e12, if_neg e13, hx]
        rw [es]
        exact ⟨_, rfl, hr.push, Fr.sI rfl⟩
      rw [show r.length + 1 + 1 = r.length + 2 from rfl, ni2, if_pos n0, ck_pos v1, c1, hu]
      unfold bin2 at go
      simp only [lw, ck_pos v1]
      repeat' split
      all_goals first | (refine go _ ?_; simp_all; done) | skip
def TxtAt (w : Wd) (T : Nat) (F B G : List Int32) : Prop := sh w T = (4, 0) ∧ sh w (wr w T 1) = (20, (F ++ B ++ G).length) ∧ (∀ j c, (F ++ B ++ G)[j]? = some c → wi w (wr w T 1) j = c) ∧ wi w T 2 = nI F.length ∧ wi w T 3 = nI (F ++ B).length ∧ sh w (wr w T 4) = (20, 40) ∧ wr w T 1 ≠ wr w T 4 ∧ (F ++ B ++ G).length ≤ 200
theorem named_cls {w : Wd} {c : Int32} {hut one : Nat} (hh : tg w hut = 1) (ho : tg w one = 0) (hc : 10000 ≤ c) (hc2 : c < 10010) : f4_named c hut one w = some (envM (wi w hut) (wi w one) c, w) := by
  unfold f4_named envM
  rw [ck_pos hh, ck_pos hh, ck_pos hh, ck_pos ho, ck_pos ho, ck_pos ho]
  repeat' split
  all_goals first | rfl | (exfalso; simp_all; done)
theorem okP_un {c : Int32} {p : List Int32} {k : Nat} (h : okP (c :: p) k) : (c < 10010 ∧ k < 40 ∧ okP p (k + 1)) ∨ (¬ c < 10010 ∧ 1 ≤ k ∧ (¬ (c = 10012 ∨ c = 10013) → 2 ≤ k) ∧ ∀ env st, st.length = k → okP p (step1 env st c).length) := by
  unfold okP at h
  by_cases h1 : c < 10010
  · rw [if_pos h1] at h
    exact Or.inl ⟨h1, h⟩
  · rw [if_neg h1] at h
    by_cases h2 : c = 10012 ∨ c = 10013
    · rw [if_pos h2] at h
      refine Or.inr ⟨h1, h.1, fun z => absurd h2 z, fun env st hs => ?_⟩
      match st, hs with
      | [], hs => simp at hs; omega
      | v :: r, hs =>
        have e : (step1 env (v :: r) c).length = k := by
          unfold step1
          rw [if_neg h1]
          rcases h2 with rfl | rfl
          · simpa using hs
          · rw [if_neg (by decide), if_pos rfl]
            simpa using hs
        rw [e]
        exact h.2
    · rw [if_neg h2] at h
      refine Or.inr ⟨h1, by omega, fun _ => h.1, fun env st hs => ?_⟩
      match st, hs with
      | [], hs => simp at hs; omega
      | [v], hs => simp at hs; omega
      | v :: u :: r, hs =>
        have e : (step1 env (v :: u :: r) c).length = k - 1 := by
          unfold step1
          rw [if_neg h1, if_neg fun z => h2 (Or.inl z), if_neg fun z => h2 (Or.inr z)]
          simp at hs ⊢
          omega
        rw [e]
        exact h.2
theorem step1_len {env : Int32 → Int32} {c : Int32} (h : ¬ c < 10010) (st : List Int32) : (step1 env st c).length ≤ st.length := by
  unfold step1
  rw [if_neg h]
  split
  · split <;> simp
  · split
    · split <;> simp
    · split
      · simp
      · exact Nat.le_refl _
/-- one round of the loop -/
theorem says_step {w : Wd} {T C S hut one : Nat} {part to : Int32} {n i : Nat} {c : Int32} {st : List Int32} {p : List Int32} {env : Int32 → Int32}
    (h4 : sh w T = (4, 0)) (hC : wr w T 1 = C) (hS : wr w T 4 = S) (hc : sh w C = (20, n)) (hs : sh w S = (20, 40)) (hh : tg w hut = 1) (ho : tg w one = 0) (henv : ∀ c, env c = envM (wi w hut) (wi w one) c)
    (hto : nI i < to) (hi : i < n) (hn : n ≤ 200) (hci : wi w C i = c) (hok : okP (c :: p) st.length) (hk : st.length ≤ 40) (hst : Stk w S st) :
    ∃ w', Stk w' S (step1 env st c) ∧ Fr (· = S) w w' ∧ okP p (step1 env st c).length ∧ (step1 env st c).length ≤ 40 ∧ ∀ k, b4_says_63 k (T, part, hut, one, to, nI st.length, nI i) w = k (T, part, hut, one, to, nI (step1 env st c).length, nI (i + 1)) w' := by
  have n1 : ¬ to ≤ nI i := fun z => Int32.lt_irrefl (Int32.lt_of_lt_of_le hto z)
  have n2 : ¬ Int32.ofNat n ≤ nI i := nI_ge hi (by omega)
  have v1 : vp_in (nI i) n := vin hi (by omega)
  have c1 : (nI i).toNatClampNeg = i := nI_clamp (by omega)
  have hd : ∀ k, b4_says_63 k (T, part, hut, one, to, nI st.length, nI i) w = (if c < 10010 then (ck (tg w S = 20) (if Int32.ofNat (ln w S) ≤ nI st.length then j4_says_150 k T part hut one to (nI st.length) (nI i) w else (if 10000 ≤ c then ((f4_named c hut one w).bind fun z => j4_says_146 k T part hut one to (nI st.length) (nI i) z.1 (nI st.length) S z.2) else j4_says_146 k T part hut one to (nI st.length) (nI i) c (nI st.length) S w))) else ((f4_work T c (nI st.length) w).bind fun z => j4_says_150 k T part hut one to z.1 (nI i) z.2)) := by
    intro k
    unfold b4_says_63
    dsimp only
    rw [if_neg n1, ck_pos (tg_eq h4), hC, ck_pos (tg_eq hc), ln_eq hc, if_neg n2, ck_pos v1, c1, hci, hS]
  rcases okP_un hok with ⟨g1, g2, g3⟩ | ⟨g1, g2, g3, g4⟩
  · have n3 : ¬ Int32.ofNat 40 ≤ nI st.length := nI_ge g2 (by omega)
    have es : step1 env st c = (if 10000 ≤ c then env c else c) :: st := by unfold step1; rw [if_pos g1]
    have v2 : vp_in (nI st.length) 40 := vin g2 (by omega)
    have c2 : (nI st.length).toNatClampNeg = st.length := nI_clamp (by omega)
    refine ⟨sI w S st.length (if 10000 ≤ c then env c else c), by rw [es]; exact hst.push, Fr.sI rfl, by rw [es]; exact g3, by rw [es]; exact g2, fun k => ?_⟩
    rw [hd, if_pos g1, ck_pos (tg_eq hs), ln_eq hs, if_neg n3, es]
    have pushed : ∀ x : Int32, j4_says_146 k T part hut one to (nI st.length) (nI i) x (nI st.length) S w = k (T, part, hut, one, to, nI (x :: st).length, nI (i + 1)) (sI w S st.length x) := by
      intro x
      unfold j4_says_146
      rw [ln_eq hs, ck_pos ⟨tg_eq hs, v2⟩, c2]
      simp only [lw]
      unfold j4_says_150
      rw [i3_1, i3_1]
      rfl
    by_cases h5 : 10000 ≤ c
    · rw [if_pos h5, if_pos h5, named_cls hh ho h5 g1, Option.bind_some, henv]
      exact pushed _
    · rw [if_neg h5, if_neg h5]
      exact pushed _
  · obtain ⟨w', e1, e2, e3⟩ := work_cls env h4 hS hs g1 hk g2 g3 hst
    refine ⟨w', e2, e3, g4 env st rfl, Nat.le_trans (step1_len g1 st) hk, fun k => ?_⟩
    rw [hd, if_neg g1, e1, Option.bind_some]
    unfold j4_says_150
    rw [i3_1]
theorem take_snoc {α : Type} (p : List α) (i : Nat) {c : α} {q : List α} (h : p.drop i = c :: q) : p.take (i + 1) = p.take i ++ [c] ∧ p.drop (i + 1) = q ∧ p[i]? = some c ∧ i < p.length := by
  have hi : i < p.length := by
    rcases Nat.lt_or_ge i p.length with h1 | h1
    · exact h1
    · rw [List.drop_eq_nil_iff.mpr h1] at h; cases h
  have h2 : p.drop i = p[i] :: p.drop (i + 1) := List.drop_eq_getElem_cons hi
  rw [h2] at h
  obtain ⟨h3, h4⟩ := List.cons.inj h
  exact ⟨by rw [List.take_succ_eq_append_getElem hi, h3], h4, by rw [List.getElem?_eq_getElem hi, h3], hi⟩
theorem says_loop {w : Wd} {T C S hut one : Nat} {part : Int32} {n from0 : Nat} {p : List Int32} {env : Int32 → Int32}
    (h4 : sh w T = (4, 0)) (hC : wr w T 1 = C) (hS : wr w T 4 = S) (hc : sh w C = (20, n)) (hs : sh w S = (20, 40)) (hCS : C ≠ S) (hTS : T ≠ S) (hh : tg w hut = 1) (ho : tg w one = 0) (henv : ∀ c, env c = envM (wi w hut) (wi w one) c)
    (hn : n ≤ 200) (hp : ∀ j c, p[j]? = some c → wi w C (from0 + j) = c) (hle : from0 + p.length ≤ n) (hok : okP p 0) :
    ∃ w', loopF b4_says_63 FU (T, part, hut, one, nI (from0 + p.length), 0, nI from0) w = some (sayM part p env, w') ∧ Fr (· = S) w w' := by
  have hutS : hut ≠ S := fun e => by have h1 := tg_eq hs; rw [← e, hh] at h1; cases h1
  have oneS : one ≠ S := fun e => by have h1 := tg_eq hs; rw [← e, ho] at h1; cases h1
  refine loopE (R := fun o => ∃ w', o = some (sayM part p env, w') ∧ Fr (· = S) w w') (I := fun i v w1 => Fr (· = S) w w1 ∧ ∃ st, st = runP env (p.take i) [] ∧ v = (T, part, hut, one, nI (from0 + p.length), nI st.length, nI (from0 + i)) ∧ Stk w1 S st ∧ st.length ≤ 40 ∧ okP (p.drop i) st.length) p.length ?_ ?_ FU _ w (by show p.length < 1000; omega) ?_
  · intro i v w1 hi hI
    obtain ⟨hF, st, e1, rfl, hst, hk, hok1⟩ := hI
    obtain ⟨c, q, hd⟩ : ∃ c q, p.drop i = c :: q := by
      cases hd : p.drop i with
      | nil => have := List.drop_eq_nil_iff.mp hd; omega
      | cons c q => exact ⟨c, q, rfl⟩
    obtain ⟨t1, t2, t3, t4⟩ := take_snoc p i hd
    rw [hd] at hok1
    obtain ⟨w2, a1, a2, a3, a4, a5⟩ := says_step (w := w1) (T := T) (C := C) (S := S) (hut := hut) (one := one) (part := part) (to := nI (from0 + p.length)) (n := n) (i := from0 + i) (c := c) (st := st) (p := q) (env := env) (by rw [hF.1]; exact h4) (by rw [(hF.2.2 T hTS).2]; exact hC) (by rw [(hF.2.2 T hTS).2]; exact hS) (by rw [hF.1]; exact hc) (by rw [hF.1]; exact hs) (by unfold tg; rw [hF.1]; exact hh) (by unfold tg; rw [hF.1]; exact ho)
      (fun c => by rw [henv]; unfold envM; simp only [(hF.2.2 hut hutS).1, (hF.2.2 one oneS).1]) (nI_lt (by omega) (by omega)) (by omega) hn (by rw [(hF.2.2 C hCS).1]; exact hp i c t3) hok1 hk hst
    refine ⟨_, w2, ⟨hF.tr a2, step1 env st c, ?_, rfl, a1, a4, by rw [t2]; exact a3⟩, fun k => ?_⟩
    · rw [t1]
      show _ = List.foldl (step1 env) [] (List.take i p ++ [c])
      rw [List.foldl_append]
      show step1 env st c = step1 env (runP env (p.take i) []) c
      rw [← e1]
    · exact a5 k
  · intro v w1 hI k
    obtain ⟨hF, st, e1, rfl, hst, hk, hok1⟩ := hI
    rw [List.take_length] at e1
    rw [List.drop_length] at hok1
    unfold okP at hok1
    match st, hok1 with
    | [x], _ =>
      obtain ⟨hx, -⟩ := hst
      refine ⟨w1, ?_, hF⟩
      unfold b4_says_63
      dsimp only
      have n0 : (0 : Int32).toNatClampNeg = 0 := by decide
      have hx' : wi w1 S 0 = x := hx
      have v0 : vp_in (0 : Int32) 40 := by unfold vp_in; decide
      rw [if_pos (Int32.le_refl _)]
      unfold j4_says_156
      have nn : ¬ nI [x].length ≤ 0 := (by decide : ¬ nI 1 ≤ 0)
      rw [if_neg nn, ck_pos (tg_eq (by rw [hF.1]; exact h4)), (hF.2.2 T hTS).2, hS, ln_eq (n := 40) (t := 20) (by rw [hF.1]; exact hs), ck_pos ⟨tg_eq (by rw [hF.1]; exact hs), v0⟩, n0, hx']
      unfold j4_says_171 f5_bounded sayM
      simp only [Option.bind_some]
      rw [bnd_cls (by decide), bnd_cls (by decide), ← e1]
      simp only [List.headD_cons]
      split <;> rfl
  · exact ⟨Fr.rf, [], rfl, rfl, trivial, Nat.zero_le _, hok⟩
def partP (F B G : List Int32) (part : Int32) : List Int32 := if part = 0 then F else if part = 1 then B else G
/-- what a text says -/
theorem says_cls {w : Wd} {T hut one : Nat} {part : Int32} {F B G : List Int32} (ht : TxtAt w T F B G) (hp : part = 0 ∨ part = 1 ∨ part = 2) (hok : okP F 0 ∧ okP B 0 ∧ okP G 0) (hh : tg w hut = 1) (ho : tg w one = 0) :
    ∃ w', f4_says T part hut one w = some (sayM part (partP F B G part) (envM (wi w hut) (wi w one)), w') ∧ Fr (· = wr w T 4) w w' := by
  obtain ⟨h4, hc, hp', h2, h3, hs, hne, hn⟩ := ht
  have hTS : T ≠ wr w T 4 := fun e => by
    have h1 := tg_eq hs
    rw [← e, tg_eq h4] at h1
    cases h1
  simp only [List.length_append] at hc h3 hn
  rcases hp with rfl | rfl | rfl
  · obtain ⟨w', e1, e2⟩ := says_loop (part := 0) (from0 := 0) (p := F) (env := envM (wi w hut) (wi w one)) h4 rfl rfl hc hs hne hTS hh ho (fun _ => rfl) hn (fun j c h => by rw [Nat.zero_add]; refine hp' j c ?_; rw [List.append_assoc, List.getElem?_append_left (List.getElem?_eq_some_iff.mp h).1]; exact h) (by omega) hok.1
    refine ⟨w', ?_, e2⟩
    unfold f4_says j4_says_24 j4_says_54
    rw [if_pos rfl, if_pos rfl, ck_pos (tg_eq h4), h2]
    rw [Nat.zero_add] at e1
    exact e1
  · obtain ⟨w', e1, e2⟩ := says_loop (part := 1) (from0 := F.length) (p := B) (env := envM (wi w hut) (wi w one)) h4 rfl rfl hc hs hne hTS hh ho (fun _ => rfl) hn (fun j c h => by refine hp' _ c ?_; rw [List.append_assoc, List.getElem?_append_right (by omega), Nat.add_sub_cancel_left, List.getElem?_append_left (List.getElem?_eq_some_iff.mp h).1]; exact h) (by omega) hok.2.1
    refine ⟨w', ?_, e2⟩
    unfold f4_says j4_says_24 j4_says_54
    rw [if_neg (by decide), if_pos rfl, ck_pos (tg_eq h4), h2, if_neg (by decide), if_pos rfl, ck_pos (tg_eq h4), h3]
    exact e1
  · obtain ⟨w', e1, e2⟩ := says_loop (part := 2) (from0 := F.length + B.length) (p := G) (env := envM (wi w hut) (wi w one)) h4 rfl rfl hc hs hne hTS hh ho (fun _ => rfl) hn (fun j c h => by refine hp' _ c ?_; rw [List.getElem?_append_right (by simp), List.length_append, Nat.add_sub_cancel_left]; exact h) (by omega) hok.2.2
    refine ⟨w', ?_, e2⟩
    unfold f4_says j4_says_24 j4_says_54
    rw [if_neg (by decide), if_neg (by decide), ck_pos (tg_eq h4), h3, if_neg (by decide), if_neg (by decide), ck_pos (tg_eq h4), ck_pos (tg_eq hc), ln_eq hc]
    exact e1
