/-! eRead() of the reference is the stack reading -/
def EF (n : Nat) (w w' : Wd) : Prop := Fr (fun q => q = 75 ∨ q = 81 ∨ q = 90) w w' ∧ (∀ q, wr w' q = wr w q) ∧ (∀ k, ¬ (18 ≤ k ∧ k ≤ 21) → ¬ (24 ≤ k ∧ k ≤ 26) → wi w' 75 k = wi w 75 k) ∧ ∀ j, j < 200 * n → wi w' 81 j = wi w 81 j
theorem EF.rf {n : Nat} {w : Wd} : EF n w w := ⟨Fr.rf, fun _ => rfl, fun _ _ _ => rfl, fun _ _ => rfl⟩
theorem EF.tr {n : Nat} {a b c : Wd} (h1 : EF n a b) (h2 : EF n b c) : EF n a c := ⟨h1.1.tr h2.1, fun q => (h2.2.1 q).trans (h1.2.1 q), fun k x y => (h2.2.2.1 k x y).trans (h1.2.2.1 k x y), fun j x => (h2.2.2.2 j x).trans (h1.2.2.2 j x)⟩
theorem HF.ef {n : Nat} {w w' : Wd} (h : HF n w w') : EF n w w' := ⟨h.1, h.2.1, fun k _ y => h.2.2.1 k y, h.2.2.2⟩
theorem NF.ef {n : Nat} {w w' : Wd} (h : NF w w') : EF n w w' := ⟨h.1.mono fun q z => Or.inl z, h.2.1, fun k x _ => h.2.2 k x, fun j _ => (h.1.2.2 81 (by decide)).1 j⟩
theorem pl_cons {l : List Int32} {pre r : List (Int32 × Nat)} {t : Int32} {b : Nat} {ts : List Int32} (h : tkF l 0 = pre ++ (t, b) :: r) (hts : ts = r.map fun x => x.1) : plR l (t :: ts) = b := by
  have e : (tkF l 0)[(tkF l 0).length - (t :: ts).length]? = some (t, b) := by
    rw [h, List.length_append, List.length_cons, List.length_cons, hts, List.length_map, show pre.length + (r.length + 1) - (r.length + 1) = pre.length by omega, List.getElem?_append_right (Nat.le_refl _), Nat.sub_self]
    rfl
  unfold plR
  rw [e]
theorem pl_nil (l : List Int32) : plR l [] = l.length := by
  have e : (tkF l 0)[(tkF l 0).length - ([] : List Int32).length]? = none := List.getElem?_eq_none (Nat.le_refl _)
  unfold plR
  rw [e]
theorem nft : ¬ (false = true) := by decide
def sC (s : Nat) (x1 x2 : Int32) : Prop := (s = 0 ∧ x1 = 0) ∨ (s = 1 ∧ x1 = 1 ∧ x2 = 0) ∨ (s = 2 ∧ x1 = 1 ∧ x2 = 1)
/-- where the reading of the rest begins -/
def At (l : List Int32) (n : Nat) (w : Wd) (p : Nat) (K : List (Int32 × Nat)) : Prop := MS l n w p ∧ bdT l p ∧ tkF l p = K ∧ ∃ pre, tkF l 0 = pre ++ K
def ER (l : List Int32) (n : Nat) (w' : Wd) (r : Bool × List Int32 × List Int32) : Prop := if r.1 = true then ∃ p' K op, At l n w' p' K ∧ (K.map fun x => x.1) = r.2.1 ∧ RH n w' [] op r.2.2 ∧ r.2.2.length + K.length ≤ 160 else wi w' 75 19 = nI (plR l r.2.1)
theorem pop_stop {r : Nat} : ∀ {h : List Int32} {y : Int32} {q : List Int32}, (pop r h).2 = y :: q → rkC y < r
  | [], _, _, e => by cases e
  | x :: h, y, q, e => by
    rw [pop] at e
    by_cases hx : r ≤ rkC x
    · rw [if_pos hx] at e
      exact pop_stop e
    · rw [if_neg hx] at e
      have e2 : x :: h = y :: q := e
      injection e2 with e3 _
      rw [← e3]
      omega
theorem mE_close {h h2 ts out : List Int32} {op : Nat} {y : Int32} (hp : (pop 1 h).2 = y :: h2) : mE (10021 :: ts) 0 h op out = mE ts 0 (pop 7 h2).2 (op - nU (pop 1 h).1 - 1 - nU (pop 7 h2).1) (out ++ (pop 1 h).1 ++ (pop 7 h2).1) := by
  rw [mE_0, if_neg (by decide), if_pos rfl, hp]
theorem mE_close0 {h ts out : List Int32} {op : Nat} (hp : (pop 1 h).2 = []) : mE (10021 :: ts) 0 h op out = (false, 10021 :: ts, out) := by
  rw [mE_0, if_neg (by decide), if_pos rfl, hp]
theorem nO_cons {x : Int32} {h : List Int32} (hx : ¬ (x = 0 ∨ x = 10012 ∨ x = 10013)) : nO (x :: h) = nO h := if_neg hx
theorem nO_1 {x : Int32} {h : List Int32} (hx : x = 0 ∨ x = 10012 ∨ x = 10013) : nO (x :: h) = nO h + 1 := if_pos hx
theorem er_go (l : List Int32) (n : Nat) : ∀ (K : List (Int32 × Nat)) (s : Nat) (h : List Int32) (op : Nat) (out : List Int32) (w : Wd) (p f : Nat) (x1 x2 : Int32), At l n w p K → RH n w h op out → op = nO h → h.length + out.length + K.length ≤ 160 → sC s x1 x2 → K.length < f →
    ∃ w', loopF b6_eRead_14 f (75, x1, x2) w = some (if (mE (K.map fun x => x.1) s h op out).1 = true then 1 else 0, w') ∧ EF n w w' ∧ ER l n w' (mE (K.map fun x => x.1) s h op out) := by
  intro K
  induction K with
  | nil =>
    intro s h op out w p f x1 x2 hA hR hop hlen hs hf
    obtain ⟨hM, hB, hK, pre, hpre⟩ := hA
    obtain ⟨f, rfl⟩ : ∃ g, f = g + 1 := ⟨f - 1, by omega⟩
    obtain ⟨w1, e1, p1, M1, B1, N1, T0, TC⟩ := next_r hM hB
    obtain ⟨t20, t19, _⟩ := T0 hK
    have em : mE (([] : List (Int32 × Nat)).map fun x => x.1) s h op out = (false, [], out) := by
      show mE [] s h op out = _
      rw [mE]
    have ht := M1.1.t
    refine ⟨w1, ?_, N1.ef, ?_⟩
    · show b6_eRead_14 (loopF b6_eRead_14 f) _ w = _
      unfold b6_eRead_14
      dsimp only
      rw [ck_pos hM.1.t, e1, Option.bind_some, em]
      dsimp only
      rw [t20, signOf_r ht, t20]
      by_cases h0 : x1 = 0
      · rw [if_pos h0, if_neg (by decide), if_neg (by decide), Option.bind_some]
        dsimp only
        rw [if_pos (show sgV 0 = -1 from rfl), if_neg nft]
      · rw [if_neg h0, if_neg (by decide), if_neg (by decide), if_neg (by decide)]
        unfold j6_eRead_99
        rw [ck_pos ht, t20, if_neg (by decide), if_neg (by decide), if_neg nft]
    · rw [em]
      unfold ER
      rw [if_neg nft, pl_nil]
      exact t19
  | cons tb r ih =>
    intro s h op out w p f x1 x2 hA hR hop hlen hs hf
    obtain ⟨t, b⟩ := tb
    obtain ⟨hM, hB, hK, pre, hpre⟩ := hA
    rw [List.length_cons] at hlen hf
    obtain ⟨f, rfl⟩ : ∃ g, f = g + 1 := ⟨f - 1, by omega⟩
    obtain ⟨w1, e1, p1, M1, B1, N1, T0, TC⟩ := next_r hM hB
    obtain ⟨t19, ⟨t20, t21⟩, tr⟩ := TC t b r hK
    have ht := M1.1.t
    have R1 := hR.nf N1
    have A1 : At l n w1 p1 r := ⟨M1, B1, tr, pre ++ [(t, b)], by rw [hpre, List.append_assoc]; rfl⟩
    obtain ⟨c59, c41, c6, c45, c40, c1, c2, c3, c0, csg⟩ := cvF t
    show ∃ w', loopF b6_eRead_14 (f + 1) (75, x1, x2) w = some (if (mE (t :: r.map fun x => x.1) s h op out).1 = true then 1 else 0, w') ∧ EF n w w' ∧ ER l n w' (mE (t :: r.map fun x => x.1) s h op out)
    have fail : ∀ (E : Option (Int32 × Wd)) w', E = some ((0 : Int32), w') → HF n w1 w' → mE (t :: r.map fun x => x.1) s h op out = (false, t :: r.map fun x => x.1, out) → ∃ w', E = some (if (mE (t :: r.map fun x => x.1) s h op out).1 = true then 1 else 0, w') ∧ EF n w w' ∧ ER l n w' (mE (t :: r.map fun x => x.1) s h op out) := by
      intro E w' hE hF em
      rw [em]
      refine ⟨w', by rw [hE, if_neg nft], N1.ef.tr hF.ef, ?_⟩
      unfold ER
      rw [if_neg nft, pl_cons hpre rfl, hF.2.2.1 19 (by decide)]
      exact t19
    have cont : ∀ (E : Option (Int32 × Wd)) (s' : Nat) (h' : List Int32) (op' : Nat) (out' : List Int32) (w' : Wd) (y1 y2 : Int32), E = loopF b6_eRead_14 f (75, y1, y2) w' → RH n w' h' op' out' → HF n w1 w' → op' = nO h' → h'.length + out'.length ≤ h.length + out.length + 1 → sC s' y1 y2 → mE (t :: r.map fun x => x.1) s h op out = mE (r.map fun x => x.1) s' h' op' out' → ∃ w', E = some (if (mE (t :: r.map fun x => x.1) s h op out).1 = true then 1 else 0, w') ∧ EF n w w' ∧ ER l n w' (mE (t :: r.map fun x => x.1) s h op out) := by
      intro E s' h' op' out' w' y1 y2 hE hR' hF hop' hl' hs' em
      rw [em, hE]
      obtain ⟨w2, q1, q2, q3⟩ := ih s' h' op' out' w' p1 f y1 y2 ⟨A1.1.hf hF, A1.2⟩ hR' hop' (by omega) hs' (by omega)
      exact ⟨w2, q1, (N1.ef.tr hF.ef).tr q2, q3⟩
    have hb0 : loopF b6_eRead_14 (f + 1) (75, x1, x2) w = (if x1 = (0 : Int32) then (if cvT t = (59 : Int32) then ((f6_unwinds 75 (1 : Int32) w1).bind fun z12 => (if (wi z12.2 75 24) = (0 : Int32) then (some ((1 : Int32), z12.2)) else (some ((0 : Int32), z12.2)))) else (if cvT t = (41 : Int32) then ((f6_unwinds 75 (1 : Int32) w1).bind fun z17 => (if (wi z17.2 75 24) = (0 : Int32) then (some ((0 : Int32), z17.2)) else (lw (sI z17.2 75 24 ((wi z17.2 75 24) - (1 : Int32))) fun w21 => (lw (sI w21 75 25 ((wi w21 75 25) - (1 : Int32))) fun w23 => ((f6_unwinds 75 (7 : Int32) w23).bind fun z25 => (loopF b6_eRead_14 f (75, x1, x2) z25.2)))))) else (if (if isSg t then mcode t else -1) = (-1 : Int32) then (some ((0 : Int32), w1)) else ((f6_between 75 (if isSg t then mcode t else -1) w1).bind fun z32 => (if z32.1 = (0 : Int32) then (some ((0 : Int32), z32.2)) else (if (12 : Int32) < (if isSg t then mcode t else -1) then (loopF b6_eRead_14 f (75, 1, 0) z32.2) else (loopF b6_eRead_14 f (75, 1, 1) z32.2))))))) else (if cvT t = (1 : Int32) then (j6_eRead_38 (loopF b6_eRead_14 f) 75 x2 w1) else (if cvT t = (2 : Int32) then (j6_eRead_38 (loopF b6_eRead_14 f) 75 x2 w1) else (if cvT t = (6 : Int32) then (if x2 = (0 : Int32) then (j6_eRead_99 (loopF b6_eRead_14 f) 75 x1 w1) else ((f6_opensOne 75 (13 : Int32) w1).bind fun z62 => (if z62.1 = (0 : Int32) then (some ((0 : Int32), z62.2)) else (loopF b6_eRead_14 f (75, x1, x2) z62.2)))) else (j6_eRead_99 (loopF b6_eRead_14 f) 75 x1 w1))))) := by
      show b6_eRead_14 (loopF b6_eRead_14 f) _ w = _
      unfold b6_eRead_14
      dsimp only
      rw [ck_pos hM.1.t, e1, Option.bind_some]
      dsimp only
      rw [t20, signOf_r ht, t20, csg, Option.bind_some]
      rfl
    rw [hb0]
    have hU1 := nO_pop (r := 1) (by decide) h
    rcases hs with ⟨rfl, hx1⟩ | hs
    · rw [if_pos hx1]
      by_cases h22 : t = 10022
      · rw [if_pos (c59.mpr h22)]
        obtain ⟨w2, u1, u2, u3⟩ := unwinds_r (r := 1) (by decide) (by decide) R1 (by omega)
        have u1' : f6_unwinds 75 (1 : Int32) w1 = some ((), w2) := u1
        rw [u1', Option.bind_some]
        dsimp only
        have em := mE_0 t (r.map fun x => x.1) h op out
        rw [if_pos h22] at em
        have hl := pop_len 1 h
        cases hp : (pop 1 h).2 with
        | nil =>
          rw [hp] at u2 em hl
          rw [if_pos rfl] at em
          rw [u2.2.1.1, if_pos (show nI ([] : List Int32).length = 0 from rfl), em]
          refine ⟨w2, by rw [if_pos (show true = true from rfl)], N1.ef.tr u3.ef, ?_⟩
          unfold ER
          rw [if_pos (show true = true from rfl)]
          refine ⟨p1, r, op - nU (pop 1 h).1, ⟨A1.1.hf u3, A1.2⟩, rfl, u2, ?_⟩
          show (out ++ (pop 1 h).1).length + r.length ≤ 160
          rw [List.length_append]
          have : ([] : List Int32).length = 0 := rfl
          omega
        | cons y q =>
          rw [hp] at u2 em hl
          rw [if_neg (fun z => List.cons_ne_nil _ _ z)] at em
          have hq : q.length < 160 := (top90 u2).2.2
          have u24 := u2.2.1.1
          rw [List.length_cons] at u24
          refine fail _ w2 ?_ u3 em
          rw [u24, if_neg (fun z => by have := nI_inj (a := q.length + 1) (b := 0) (by omega) (by omega) z; omega)]
      rw [if_neg (fun z => h22 (c59.mp z))]
      by_cases h21 : t = 10021
      · rw [if_pos (c41.mpr h21)]
        obtain ⟨w2, u1, u2, u3⟩ := unwinds_r (r := 1) (by decide) (by decide) R1 (by omega)
        have u1' : f6_unwinds 75 (1 : Int32) w1 = some ((), w2) := u1
        rw [u1', Option.bind_some]
        dsimp only
        have hl := pop_len 1 h
        cases hp : (pop 1 h).2 with
        | nil =>
          rw [hp] at u2
          refine fail _ w2 ?_ u3 (by rw [h21]; exact mE_close0 hp)
          rw [u2.2.1.1, if_pos (show nI ([] : List Int32).length = 0 from rfl)]
        | cons y q =>
          rw [hp] at u2 hl hU1
          rw [List.length_cons] at hl
          obtain ⟨t1, t2, hq⟩ := top90 u2
          have y0 : y = 0 := (rk7 t2).2.2.1 (by have := pop_stop hp; omega)
          rw [nO_1 (Or.inl y0)] at hU1
          have u24 := u2.2.1.1
          rw [List.length_cons] at u24
          have R3 := set24 u2
          have F3 : HF n w2 (sI w2 75 24 (nI q.length)) := hf75 ⟨by decide, by decide⟩
          have e25 : wi (sI w2 75 24 (nI q.length)) 75 25 - 1 = nI (op - nU (pop 1 h).1 - 1) := by
            rw [R3.2.2.1.1]
            obtain ⟨z, hz⟩ : ∃ z, op - nU (pop 1 h).1 = z + 1 := ⟨op - nU (pop 1 h).1 - 1, by omega⟩
            rw [hz, ni1, Nat.add_sub_cancel]
          have R4 := set25 R3 (op' := op - nU (pop 1 h).1 - 1) (by have := R3.2.2.1.2; omega)
          have F4 : HF n (sI w2 75 24 (nI q.length)) (sI (sI w2 75 24 (nI q.length)) 75 25 (nI (op - nU (pop 1 h).1 - 1))) := hf75 ⟨by decide, by decide⟩
          have hU7 := nO_pop (r := 7) (by decide) q
          have hl7 := pop_len 7 q
          obtain ⟨w5, v1, v2, v3⟩ := unwinds_r (r := 7) (by decide) (by decide) R4 (by omega)
          have v1' : f6_unwinds 75 (7 : Int32) (sI (sI w2 75 24 (nI q.length)) 75 25 (nI (op - nU (pop 1 h).1 - 1))) = some ((), w5) := v1
          refine cont _ 0 _ _ _ w5 x1 x2 ?_ v2 (((u3.tr F3).tr F4).tr v3) (by omega) (by rw [List.length_append, List.length_append]; omega) (Or.inl ⟨rfl, hx1⟩) (by rw [h21]; exact mE_close hp)
          rw [u24, if_neg (fun z => by have := nI_inj (a := q.length + 1) (b := 0) (by omega) (by omega) z; omega), ni1]
          unfold lw
          dsimp only
          rw [e25, v1', Option.bind_some]
      rw [if_neg (fun z => h21 (c41.mp z))]
      have em := mE_0 t (r.map fun x => x.1) h op out
      rw [if_neg h22, if_neg h21] at em
      by_cases hsg : isSg t
      · rw [if_pos hsg] at em ⊢
        obtain ⟨s1, s2, s3, s4, s5, s6, s7, s8, s9⟩ := sg_ok hsg
        have hUs := nO_pop s2 h
        have hls := pop_len (rSg t) h
        obtain ⟨w2, b1, b2, b3⟩ := between_r R1 hsg (by omega) (by omega)
        rw [if_neg s8, b2, Option.bind_some]
        dsimp only
        by_cases hbad : rkC t = 4 ∧ top4 (pop (rSg t) h).2 = true
        · rw [if_pos hbad] at em ⊢
          exact fail _ w2 (by rw [if_pos (show (0 : Int32) = 0 from rfl)]) b1 em
        · rw [if_neg hbad] at em ⊢
          rw [if_neg n10]
          have hop2 : op - nU (pop (rSg t) h).1 = nO (t :: (pop (rSg t) h).2) := by
            rw [nO_cons s7]
            omega
          by_cases h01 : t = 10010 ∨ t = 10011
          · rw [if_pos h01] at em
            rw [if_neg (fun z => s9.mp z h01)]
            exact cont _ 2 _ _ _ w2 1 1 rfl (b3 hbad) b1 hop2 (by rw [List.length_cons, List.length_append]; omega) (Or.inr (Or.inr ⟨rfl, rfl, rfl⟩)) em
          · rw [if_neg h01] at em
            rw [if_pos (s9.mpr h01)]
            exact cont _ 1 _ _ _ w2 1 0 rfl (b3 hbad) b1 hop2 (by rw [List.length_cons, List.length_append]; omega) (Or.inr (Or.inl ⟨rfl, rfl, rfl⟩)) em
      · rw [if_neg hsg] at em ⊢
        exact fail _ w1 (by rw [if_pos (show (-1 : Int32) = -1 from rfl)]) HF.rf em
    · have hs0 : s ≠ 0 := by rcases hs with z | z <;> omega
      have hx1 : x1 = 1 := by rcases hs with z | z <;> exact z.2.1
      have em := mE_1 t (r.map fun x => x.1) s h op out hs0
      rw [if_neg (show ¬ x1 = 0 by rw [hx1]; decide)]
      have e99 : ∀ y, j6_eRead_99 (loopF b6_eRead_14 f) 75 y w1 = (if cvT t = (45 : Int32) then ((f6_opensOne 75 (hc 10013) w1).bind fun z53 => (if z53.1 = (0 : Int32) then (some ((0 : Int32), z53.2)) else (loopF b6_eRead_14 f (75, y, (0 : Int32)) z53.2))) else (if cvT t = (40 : Int32) then ((f6_opensOne 75 (hc 0) w1).bind fun z58 => (if z58.1 = (0 : Int32) then (some ((0 : Int32), z58.2)) else (loopF b6_eRead_14 f (75, y, (1 : Int32)) z58.2))) else (some ((0 : Int32), w1)))) := by
        intro y
        unfold j6_eRead_99
        rw [ck_pos ht, t20]
        rfl
      have open1 : ∀ (x : Int32) (y1 y2 : Int32) (s' : Nat), okH x → (x = 0 ∨ x = 10012 ∨ x = 10013) → sC s' y1 y2 → mE (t :: r.map fun x => x.1) s h op out = (if op = 5 then (false, t :: r.map fun x => x.1, out) else mE (r.map fun x => x.1) s' (x :: h) (op + 1) out) → ∃ w', ((f6_opensOne 75 (hc x) w1).bind fun z53 => (if z53.1 = (0 : Int32) then (some ((0 : Int32), z53.2)) else (loopF b6_eRead_14 f (75, y1, y2) z53.2))) = some (if (mE (t :: r.map fun x => x.1) s h op out).1 = true then 1 else 0, w') ∧ EF n w w' ∧ ER l n w' (mE (t :: r.map fun x => x.1) s h op out) := by
        intro x y1 y2 s' hx hx2 hs' em2
        obtain ⟨o1, o2⟩ := opens_r R1 hx (by omega)
        by_cases h5 : op = 5
        · rw [if_pos h5] at em2
          refine fail _ w1 ?_ HF.rf em2
          rw [o1 h5, Option.bind_some, if_pos rfl]
        · rw [if_neg h5] at em2
          obtain ⟨w2, q1, q2, q3⟩ := o2 h5
          refine cont _ s' (x :: h) (op + 1) out w2 y1 y2 ?_ q2 q3 ?_ (by rw [List.length_cons]; omega) hs' em2
          · rw [q1, Option.bind_some, if_neg n10]
          · rw [nO_1 hx2, hop]
      by_cases h5 : t ≤ 10005
      · rw [if_pos h5] at em
        have c21 := t21 (Or.inl h5)
        have val : ∀ v, v = mcode t → ∃ w', j6_eRead_61 (loopF b6_eRead_14 f) 75 x2 v 75 w1 = some (if (mE (t :: r.map fun x => x.1) s h op out).1 = true then 1 else 0, w') ∧ EF n w w' ∧ ER l n w' (mE (t :: r.map fun x => x.1) s h op out) := by
          intro v hv
          obtain ⟨w2, q1, q2, q3⟩ := puts_r (x := t) R1 (by omega)
          have hU7 := nO_pop (r := 7) (by decide) h
          have hl7 := pop_len 7 h
          obtain ⟨w5, v1, v2, v3⟩ := unwinds_r (r := 7) (by decide) (by decide) q2 (by omega)
          have v1' : f6_unwinds 75 (7 : Int32) w2 = some ((), w5) := v1
          refine cont _ 0 _ _ _ w5 0 x2 ?_ v2 (q3.tr v3) (by omega) (by rw [List.length_append, List.length_append]; show (pop 7 h).2.length + (out.length + 1 + (pop 7 h).1.length) ≤ _; omega) (Or.inl ⟨rfl, rfl⟩) em
          unfold j6_eRead_61
          rw [ck_pos ht, hv, q1, Option.bind_some]
          dsimp only
          rw [ck_pos q2.1.1.t, v1', Option.bind_some]
        have g10 : ¬ (10010 : Int32) ≤ t := by
          rw [ile, show (10010 : Int32).toInt = 10010 from rfl]
          rw [ile, show (10005 : Int32).toInt = 10005 from rfl] at h5
          omega
        by_cases h9 : t ≤ 9999
        · rw [if_pos (c1.mpr h9)]
          unfold j6_eRead_38
          rw [ck_pos ht, t20, if_pos (c1.mpr h9), c21]
          refine val _ ?_
          unfold cvV mcode
          rw [if_pos h9, if_neg g10, if_neg, Int32.add_comm]
          rw [ile, show (10000 : Int32).toInt = 10000 from rfl]
          rw [ile, show (9999 : Int32).toInt = 9999 from rfl] at h9
          omega
        · rw [if_neg (fun z => h9 (c1.mp z)), if_pos (c2.mpr ⟨h9, h5⟩)]
          unfold j6_eRead_38
          rw [ck_pos ht, t20, if_neg (fun z => h9 (c1.mp z)), c21]
          refine val _ ?_
          unfold cvV mcode
          rw [if_neg h9, if_pos h5, if_neg g10, if_pos]
          rw [ile, show (10000 : Int32).toInt = 10000 from rfl]
          rw [ile, show (9999 : Int32).toInt = 9999 from rfl] at h9
          omega
      rw [if_neg h5] at em
      rw [if_neg (fun z => h5 (by
        have := c1.mp z
        rw [ile, show (9999 : Int32).toInt = 9999 from rfl] at this
        rw [ile, show (10005 : Int32).toInt = 10005 from rfl]
        omega)), if_neg (fun z => h5 (c2.mp z).2)]
      by_cases h12 : t = 10012
      · rw [if_pos (c6.mpr h12)]
        have e45 : ¬ cvT t = 45 := fun z => by rw [h12] at z; exact absurd z (by decide)
        have e40 : ¬ cvT t = 40 := fun z => by rw [h12] at z; exact absurd z (by decide)
        rcases hs with ⟨s1, z1, z2⟩ | ⟨s2, z1, z2⟩
        · rw [if_pos z2, e99, if_neg e45, if_neg e40]
          refine fail _ w1 rfl HF.rf ?_
          rw [em, if_neg (fun z => by have := z.2; omega), if_neg (fun z => by rw [h12] at z; exact absurd z (by decide)), if_neg (fun z => by rw [h12] at z; exact absurd z (by decide))]
        · rw [if_neg (show ¬ x2 = 0 by rw [z2]; decide)]
          rw [if_pos ⟨h12, s2⟩] at em
          exact open1 10012 x1 x2 2 (by unfold okH; decide) (by decide) (Or.inr (Or.inr ⟨rfl, z1, z2⟩)) em
      rw [if_neg (fun z => h12 (c6.mp z)), e99]
      rw [if_neg (fun z => h12 z.1)] at em
      by_cases h17 : t = 10017
      · rw [if_pos (c45.mpr h17)]
        rw [if_pos h17] at em
        exact open1 10013 x1 0 1 (by unfold okH; decide) (by decide) (Or.inr (Or.inl ⟨rfl, hx1, rfl⟩)) em
      rw [if_neg (fun z => h17 (c45.mp z))]
      rw [if_neg h17] at em
      by_cases h20 : t = 10020
      · rw [if_pos (c40.mpr h20)]
        rw [if_pos h20] at em
        exact open1 0 x1 1 2 (by unfold okH; decide) (by decide) (Or.inr (Or.inr ⟨rfl, hx1, rfl⟩)) em
      rw [if_neg (fun z => h20 (c40.mp z))]
      rw [if_neg h20] at em
      exact fail _ w1 rfl HF.rf em
