/-! a part of a text: the reference -/
theorem mE_app : ∀ (ts : List Int32) (s : Nat) (h : List Int32) (op : Nat) (out : List Int32), ∃ d, (mE ts s h op out).2.2 = out ++ d
  | [], s, h, op, out => ⟨[], by rw [mE, List.append_nil]⟩
  | t :: ts, s, h, op, out => by
    have ih := mE_app ts
    have out2 : ∀ a b : List Int32, (∃ d, (out ++ a ++ b) ++ d = out ++ d) ∨ True := fun _ _ => Or.inr trivial
    by_cases hs : s = 0
    · rw [hs, mE_0]
      by_cases h1 : t = 10022
      · rw [if_pos h1]
        by_cases h2 : (pop 1 h).2 = []
        · rw [if_pos h2]
          exact ⟨_, rfl⟩
        · rw [if_neg h2]
          exact ⟨[], (List.append_nil _).symm⟩
      rw [if_neg h1]
      by_cases h2 : t = 10021
      · rw [if_pos h2]
        cases hp : (pop 1 h).2 with
        | nil => exact ⟨[], (List.append_nil _).symm⟩
        | cons y q =>
          obtain ⟨d, hd⟩ := ih 0 (pop 7 q).2 (op - nU (pop 1 h).1 - 1 - nU (pop 7 q).1) (out ++ (pop 1 h).1 ++ (pop 7 q).1)
          exact ⟨(pop 1 h).1 ++ ((pop 7 q).1 ++ d), by
            show (mE ts 0 (pop 7 q).2 (op - nU (pop 1 h).1 - 1 - nU (pop 7 q).1) (out ++ (pop 1 h).1 ++ (pop 7 q).1)).2.2 = _
            rw [hd, List.append_assoc, List.append_assoc]⟩
      rw [if_neg h2]
      by_cases h3 : isSg t
      · rw [if_pos h3]
        by_cases h4 : rkC t = 4 ∧ top4 (pop (rSg t) h).2 = true
        · rw [if_pos h4]
          exact ⟨[], (List.append_nil _).symm⟩
        · rw [if_neg h4]
          obtain ⟨d, hd⟩ := ih (if t = 10010 ∨ t = 10011 then 2 else 1) (t :: (pop (rSg t) h).2) (op - nU (pop (rSg t) h).1) (out ++ (pop (rSg t) h).1)
          exact ⟨(pop (rSg t) h).1 ++ d, by rw [hd, List.append_assoc]⟩
      · rw [if_neg h3]
        exact ⟨[], (List.append_nil _).symm⟩
    · rw [mE_1 t ts s h op out hs]
      by_cases h1 : t ≤ 10005
      · rw [if_pos h1]
        obtain ⟨d, hd⟩ := ih 0 (pop 7 h).2 (op - nU (pop 7 h).1) (out ++ [t] ++ (pop 7 h).1)
        exact ⟨[t] ++ ((pop 7 h).1 ++ d), by rw [hd, List.append_assoc, List.append_assoc]⟩
      rw [if_neg h1]
      by_cases h2 : t = 10012 ∧ s = 2
      · rw [if_pos h2]
        by_cases h5 : op = 5
        · rw [if_pos h5]
          exact ⟨[], (List.append_nil _).symm⟩
        · rw [if_neg h5]
          exact ih _ _ _ _
      rw [if_neg h2]
      by_cases h3 : t = 10017
      · rw [if_pos h3]
        by_cases h5 : op = 5
        · rw [if_pos h5]
          exact ⟨[], (List.append_nil _).symm⟩
        · rw [if_neg h5]
          exact ih _ _ _ _
      rw [if_neg h3]
      by_cases h4 : t = 10020
      · rw [if_pos h4]
        by_cases h5 : op = 5
        · rw [if_pos h5]
          exact ⟨[], (List.append_nil _).symm⟩
        · rw [if_neg h5]
          exact ih _ _ _ _
      rw [if_neg h4]
      exact ⟨[], (List.append_nil _).symm⟩
theorem mP_app (key : Int32) (ts c : List Int32) : ∃ d, (mP key ts c).2.2 = c ++ d := by
  unfold mP
  cases ts with
  | nil => exact ⟨[], (List.append_nil _).symm⟩
  | cons t ts =>
    dsimp only
    by_cases h : t = key
    · rw [if_pos h]
      exact mE_app _ _ _ _ _
    · rw [if_neg h]
      exact ⟨[], (List.append_nil _).symm⟩
def RO (n : Nat) (w : Wd) (out : List Int32) : Prop := (LayM w ∧ wi w 75 9 = nI n ∧ n < 6) ∧ wi w 75 26 = nI out.length ∧ ∀ j x, out[j]? = some x → wi w 81 (200 * n + j) = mcode x
theorem eRead_r {l : List Int32} {n p : Nat} {w : Wd} {K : List (Int32 × Nat)} {out : List Int32} (hA : At l n w p K) (hO : RO n w out) (hlen : out.length + K.length ≤ 160) : ∃ w', f6_eRead 75 w = some (if (mE (K.map fun x => x.1) 2 [] 0 out).1 = true then 1 else 0, w') ∧ EF n w w' ∧ ER l n w' (mE (K.map fun x => x.1) 2 [] 0 out) := by
  obtain ⟨⟨a1, a2, a3⟩, b1, b2⟩ := hO
  have hF : HF n w (sI (sI w 75 24 0) 75 25 0) := (hf75 ⟨by decide, by decide⟩).tr (hf75 ⟨by decide, by decide⟩)
  have hR : RH n (sI (sI w 75 24 0) 75 25 0) [] 0 out := by
    refine ⟨⟨a1.same hF.1.1 hF.2.1, by rw [hF.2.2.1 9 (by decide)]; exact a2, a3⟩, ⟨?_, fun j x hx => by simp at hx, fun x hx => absurd hx List.not_mem_nil⟩, ⟨wi_at _ _ _ _, by decide⟩, ⟨?_, fun j x hx => ?_⟩, by show 0 + out.length ≤ 160; omega⟩
    · rw [wi_sI, if_neg (fun z => absurd z.2 (by decide)), wi_at]
      rfl
    · rw [wi_sI, if_neg (fun z => absurd z.2 (by decide)), wi_sI, if_neg (fun z => absurd z.2 (by decide))]
      exact b1
    · rw [wi_sI_ne (by decide), wi_sI_ne (by decide)]
      exact b2 j x hx
  obtain ⟨w', q1, q2, q3⟩ := er_go l n K 2 [] 0 out _ p FU 1 1 ⟨hA.1.hf hF, hA.2⟩ hR rfl (by show 0 + out.length + K.length ≤ 160; omega) (Or.inr (Or.inr ⟨rfl, rfl, rfl⟩)) (by show K.length < 1000; omega)
  refine ⟨w', ?_, hF.ef.tr q2, q3⟩
  unfold f6_eRead lw
  rw [ck_pos a1.t]
  exact q1
def TF (n : Nat) (w w' : Wd) : Prop := Fr (fun q => q = 75 ∨ q = 81 ∨ q = 90 ∨ q = 82) w w' ∧ (∀ q, wr w' q = wr w q) ∧ (∀ k, ¬ (18 ≤ k ∧ k ≤ 21) → ¬ (24 ≤ k ∧ k ≤ 26) → wi w' 75 k = wi w 75 k) ∧ (∀ j, j < 200 * n → wi w' 81 j = wi w 81 j) ∧ ∀ j, j < 4 * n → wi w' 82 j = wi w 82 j
theorem TF.rf {n : Nat} {w : Wd} : TF n w w := ⟨Fr.rf, fun _ => rfl, fun _ _ _ => rfl, fun _ _ => rfl, fun _ _ => rfl⟩
theorem TF.tr {n : Nat} {a b c : Wd} (h1 : TF n a b) (h2 : TF n b c) : TF n a c := ⟨h1.1.tr h2.1, fun q => (h2.2.1 q).trans (h1.2.1 q), fun k x y => (h2.2.2.1 k x y).trans (h1.2.2.1 k x y), fun j x => (h2.2.2.2.1 j x).trans (h1.2.2.2.1 j x), fun j x => (h2.2.2.2.2 j x).trans (h1.2.2.2.2 j x)⟩
theorem EF.tf {n : Nat} {w w' : Wd} (h : EF n w w') : TF n w w' := ⟨h.1.mono fun q z => by omega, h.2.1, h.2.2.1, h.2.2.2, fun j _ => (h.1.2.2 82 (by decide)).1 j⟩
theorem tf82 {n k : Nat} {w : Wd} {v : Int32} (h : 4 * n ≤ k) : TF n w (sI w 82 k v) := ⟨Fr.sI (Or.inr (Or.inr (Or.inr rfl))), fun _ => rfl, fun j _ _ => wi_sI_ne (by decide) j, fun j _ => wi_sI_ne (by decide) j, fun j hj => by rw [wi_sI, if_neg (fun z => by have := z.2; omega)]⟩
theorem tf75 {n k : Nat} {w : Wd} {v : Int32} (h : (18 ≤ k ∧ k ≤ 21) ∨ (24 ≤ k ∧ k ≤ 26)) : TF n w (sI w 75 k v) := ⟨Fr.sI (Or.inl rfl), fun _ => rfl, fun j x y => by rw [wi_sI, if_neg (fun z => by have := z.2; omega)], fun j _ => wi_sI_ne (by decide) j, fun j _ => wi_sI_ne (by decide) j⟩
theorem MS.s82 {l : List Int32} {n p k : Nat} {w : Wd} {v : Int32} (h : MS l n w p) : MS l n (sI w 82 k v) p := by
  obtain ⟨a1, ⟨a2, a3, a4⟩, a5, ⟨a6, a7⟩, a8, a9⟩ := h
  exact ⟨a1.same (fun _ => rfl) (fun _ => rfl), ⟨by rw [wi_sI_ne (by decide)]; exact a2, a3, fun j b hb => by rw [wi_sI_ne (by decide)]; exact a4 j b hb⟩, fun k hk => by rw [wi_sI_ne (by decide)]; exact a5 k hk, ⟨by rw [wi_sI_ne (by decide)]; exact a6, a7⟩, by rw [wi_sI_ne (by decide)]; exact a8, a9⟩
theorem RO.s82 {n k : Nat} {w : Wd} {v : Int32} {out : List Int32} (h : RO n w out) : RO n (sI w 82 k v) out := by
  obtain ⟨⟨a1, a2, a3⟩, b1, b2⟩ := h
  exact ⟨⟨a1.same (fun _ => rfl) (fun _ => rfl), by rw [wi_sI_ne (by decide)]; exact a2, a3⟩, by rw [wi_sI_ne (by decide)]; exact b1, fun j x hx => by rw [wi_sI_ne (by decide)]; exact b2 j x hx⟩
theorem RO.nf {n : Nat} {w w' : Wd} {out : List Int32} (h : RO n w out) (hF : NF w w') : RO n w' out := by
  obtain ⟨⟨a1, a2, a3⟩, b1, b2⟩ := h
  exact ⟨⟨a1.same hF.1.1 hF.2.1, by rw [hF.2.2 9 (by decide)]; exact a2, a3⟩, by rw [hF.2.2 26 (by decide)]; exact b1, fun j x hx => by rw [(hF.1.2.2 81 (by decide)).1]; exact b2 j x hx⟩
theorem RH.ro {n op : Nat} {w : Wd} {h out : List Int32} (hR : RH n w h op out) : RO n w out := ⟨hR.1, hR.2.2.2.1⟩
/-- the key of a part -/
theorem key_f {t : Int32} {j : Nat} (hj : j < 3) : (cvT t = 3 ∧ cvV t = nI j) ↔ t = 10030 + nI j := by
  obtain ⟨_, _, _, _, _, _, _, c3, _, _⟩ := cvF t
  constructor
  · rintro ⟨z1, z2⟩
    rcases c3.mp z1 with rfl | rfl | rfl <;> rcases (by omega : j = 0 ∨ j = 1 ∨ j = 2) with rfl | rfl | rfl <;> first | rfl | exact absurd z2 (by decide)
  · intro e
    rw [e]
    rcases (by omega : j = 0 ∨ j = 1 ∨ j = 2) with rfl | rfl | rfl <;> decide
theorem part_r {l : List Int32} {n p j : Nat} {w : Wd} {K : List (Int32 × Nat)} {out : List Int32} (hj : j < 3) (hA : At l n w p K) (hO : RO n w out) (hlen : out.length + K.length ≤ 160) : ∃ w', (∀ k, b6_text_26 k (75, (1 : Int32), nI j) w = k (75, (if (mP (10030 + nI j) (K.map fun x => x.1) out).1 = true then (1 : Int32) else 0), nI (j + 1)) w') ∧ TF n w w' ∧ ER l n w' (mP (10030 + nI j) (K.map fun x => x.1) out) ∧ wi w' 82 (4 * n + j) = nI out.length ∧ ∀ i, i ≠ 4 * n + j → wi w' 82 i = wi w 82 i := by
  obtain ⟨hM, hB, hK, pre, hpre⟩ := hA
  obtain ⟨w1, e1, p1, M1, B1, N1, T0, TC⟩ := next_r hM hB
  have ht := M1.1.t
  have hn := hO.1.2.2
  have O1 := hO.nf N1
  have ea : (4 : Int32) * nI n + nI j = nI (4 * n + j) := by rw [show (4 : Int32) = nI 4 from rfl, nI_mul, nI_add]
  have F2 : TF n w (sI w1 82 (4 * n + j) (nI out.length)) := (N1.ef (n := n)).tf.tr (tf82 (by omega))
  have i82 : ∀ i, i ≠ 4 * n + j → wi (sI w1 82 (4 * n + j) (nI out.length)) 82 i = wi w 82 i := fun i hi => by
    rw [wi_sI, if_neg (fun z => hi z.2)]
    exact (N1.1.2.2 82 (by decide)).1 i
  have e60 : ∀ k s0, j6_text_60 k 75 (nI j) s0 w1 = (if s0 = (0 : Int32) then (k (75, (0 : Int32), nI (j + 1)) (sI w1 82 (4 * n + j) (nI out.length))) else ((f6_eRead 75 (sI w1 82 (4 * n + j) (nI out.length))).bind fun z35 => (if z35.1 = (0 : Int32) then (k (75, (0 : Int32), nI (j + 1)) z35.2) else (k (75, (1 : Int32), nI (j + 1)) z35.2)))) := by
    intro k s0
    unfold j6_text_60 j6_text_93 j6_text_94 lw
    rw [ck_pos ht, M1.1.r8, O1.1.2.1, ea, M1.1.l8, ck_pos (And.intro M1.1.t8 (vin (show 4 * n + j < 24 by omega) (by decide))), nI_clamp (by omega), O1.2.1, i3_1]
  have hbody : ∀ k, b6_text_26 k (75, (1 : Int32), nI j) w = (if wi w1 75 20 = (3 : Int32) then (if wi w1 75 21 = nI j then (j6_text_60 k 75 (nI j) 1 w1) else (j6_text_60 k 75 (nI j) 0 w1)) else (j6_text_60 k 75 (nI j) 0 w1)) := by
    intro k
    unfold b6_text_26 j6_text_59
    dsimp only
    rw [if_neg (show ¬ (3 : Int32) ≤ nI j from nI_ge (b := 3) hj (by omega)), if_neg n10, ck_pos hM.1.t, e1, Option.bind_some]
  have no : (¬ (wi w1 75 20 = 3 ∧ wi w1 75 21 = nI j)) → wi w1 75 19 = nI (plR l (K.map fun x => x.1)) → mP (10030 + nI j) (K.map fun x => x.1) out = (false, K.map fun x => x.1, out) → ∃ w', (∀ k, b6_text_26 k (75, (1 : Int32), nI j) w = k (75, (if (mP (10030 + nI j) (K.map fun x => x.1) out).1 = true then (1 : Int32) else 0), nI (j + 1)) w') ∧ TF n w w' ∧ ER l n w' (mP (10030 + nI j) (K.map fun x => x.1) out) ∧ wi w' 82 (4 * n + j) = nI out.length ∧ ∀ i, i ≠ 4 * n + j → wi w' 82 i = wi w 82 i := by
    intro hno h19 em
    rw [em]
    refine ⟨_, fun k => ?_, F2, ?_, wi_at _ _ _ _, i82⟩
    · rw [hbody, if_neg nft]
      by_cases h3 : wi w1 75 20 = 3
      · rw [if_pos h3, if_neg (fun z => hno ⟨h3, z⟩), e60, if_pos rfl]
      · rw [if_neg h3, e60, if_pos rfl]
    · unfold ER
      rw [if_neg nft, wi_sI_ne (by decide)]
      exact h19
  cases K with
  | nil =>
    obtain ⟨t20, t19, _⟩ := T0 hK
    exact no (fun z => by rw [t20] at z; exact absurd z.1 (by decide)) (by rw [t19]; show _ = nI (plR l []); rw [pl_nil]) rfl
  | cons tb r =>
    obtain ⟨t, b⟩ := tb
    obtain ⟨t19, ⟨t20, t21⟩, tr⟩ := TC t b r hK
    obtain ⟨_, _, _, _, _, _, _, c3, _, _⟩ := cvF t
    have ekey : (wi w1 75 20 = 3 ∧ wi w1 75 21 = nI j) ↔ t = 10030 + nI j := by
      rw [← key_f hj, t20]
      constructor
      · rintro ⟨z1, z2⟩
        exact ⟨z1, by rw [← t21 (Or.inr (c3.mp z1))]; exact z2⟩
      · rintro ⟨z1, z2⟩
        exact ⟨z1, by rw [t21 (Or.inr (c3.mp z1))]; exact z2⟩
    by_cases hk : t = 10030 + nI j
    · obtain ⟨k1, k2⟩ := ekey.mpr hk
      have em : mP (10030 + nI j) (((t, b) :: r).map fun x => x.1) out = mE (r.map fun x => x.1) 2 [] 0 out := by
        rw [hk]
        exact mP_y
      have A2 : At l n (sI w1 82 (4 * n + j) (nI out.length)) p1 r := ⟨M1.s82, B1, tr, pre ++ [(t, b)], by rw [hpre, List.append_assoc]; rfl⟩
      rw [List.length_cons] at hlen
      obtain ⟨w2, q1, q2, q3⟩ := eRead_r A2 O1.s82 (by omega)
      rw [em]
      have g82 : ∀ i, wi w2 82 i = wi (sI w1 82 (4 * n + j) (nI out.length)) 82 i := (q2.1.2.2 82 (by decide)).1
      refine ⟨w2, fun k => ?_, F2.tr q2.tf, q3, by rw [g82]; exact wi_at _ _ _ _, fun i hi => by rw [g82]; exact i82 i hi⟩
      rw [hbody, if_pos k1, if_pos k2, e60, if_neg n10, q1, Option.bind_some]
      cases (mE (r.map fun x => x.1) 2 [] 0 out).1 with
      | true => rw [if_pos rfl, if_neg n10]
      | false => rw [if_neg nft, if_pos rfl]
    · exact no (fun z => hk (ekey.mp z)) (by rw [t19]; show _ = nI (plR l (t :: r.map fun x => x.1)); rw [pl_cons hpre rfl]) (mP_no (fun z => hk (Option.some.inj z)))
