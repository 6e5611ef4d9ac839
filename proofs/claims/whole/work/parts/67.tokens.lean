/-! tokens: what stands where; the class's scan -/
def letB (b : Int32) : Bool := decide (97 ≤ b ∧ b ≤ 122)
def digB (b : Int32) : Bool := decide (48 ≤ b ∧ b ≤ 57)
def byI (l : List Int32) (p : Nat) : Int32 := (l[p]?).getD (-1)
def prI (l : List Int32) (p : Nat) : Int32 := if p = 0 then -1 else byI l (p - 1)
/-- the run from a place on -/
def runE (P : Int32 → Bool) (l : List Int32) (p : Nat) : Nat := p + ((l.drop p).takeWhile P).length
def slc (l : List Int32) (a b : Nat) : List Int32 := (l.drop a).take (b - a)
def wdC (j : Nat) : Int32 := if j < 3 then 10030 + nI j else if j < 6 then 10007 + nI j else 9994 + nI j
/-- the words as the class tries them: its Strings 3 .. 14 -/
def wdS (j : Nat) : List Int32 := sByt.getD (j + 1) []
def wdF (s : List Int32) : Nat → Nat → Int32
  | 0, _ => 10041
  | n + 1, j => if s = wdS j then wdC j else wdF s n (j + 1)
def tkW (s : List Int32) : Int32 := wdF s 12 0
def numV (ds : List Int32) : Int32 := ds.foldl (fun v d => v * 10 + d - 48) 0
def tkN (ds : List Int32) : Int32 := if ds.length ≤ 4 then numV ds else 10041
def tkS (b : Int32) : Int32 := if b = 40 then 10020 else if b = 41 then 10021 else if b = 42 then 10018 else if b = 43 then 10016 else if b = 45 then 10017 else if b = 59 then 10022 else if b = 60 then 10014 else if b = 61 then 10015 else 10041
def endT (l : List Int32) (p : Nat) : Nat := if letB (byI l p) = true then runE letB l p else if digB (byI l p) = true then runE digB l p else p + 1
def tkT (l : List Int32) (p : Nat) : Int32 := if letB (byI l p) = true then tkW (slc l p (endT l p)) else if digB (byI l p) = true then tkN (slc l p (endT l p)) else tkS (byI l p)
def bgT (l : List Int32) (p : Nat) : Bool := if letB (byI l p) = true then !letB (prI l p) else if digB (byI l p) = true then !digB (prI l p) else decide (byI l p ≠ 32 ∧ byI l p ≠ 10)
def tkQ (l : List Int32) : Nat → List (Int32 × Nat)
  | 0 => []
  | n + 1 => if bgT l (l.length - (n + 1)) = true then (tkT l (l.length - (n + 1)), l.length - (n + 1)) :: tkQ l n else tkQ l n
/-- the tokens from a place on -/
def tkF (l : List Int32) (p : Nat) : List (Int32 × Nat) := tkQ l (l.length - p)
theorem tkF_end {l : List Int32} {p : Nat} (h : l.length ≤ p) : tkF l p = [] := by
  unfold tkF
  rw [show l.length - p = 0 by omega]
  rfl
theorem tkF_st {l : List Int32} {p : Nat} (h : p < l.length) : tkF l p = if bgT l p = true then (tkT l p, p) :: tkF l (p + 1) else tkF l (p + 1) := by
  unfold tkF
  obtain ⟨n, hn⟩ : ∃ n, l.length - p = n + 1 := ⟨l.length - p - 1, by omega⟩
  rw [hn, tkQ, show l.length - (n + 1) = p by omega, show l.length - (p + 1) = n by omega]
theorem tkQ_len (l : List Int32) : ∀ n, (tkQ l n).length ≤ n
  | 0 => Nat.le_refl 0
  | n + 1 => by
    have := tkQ_len l n
    unfold tkQ
    split
    · rw [List.length_cons]; omega
    · omega
theorem tkF_len (l : List Int32) (p : Nat) : (tkF l p).length ≤ l.length - p := tkQ_len l _
theorem byI_lt {l : List Int32} {p : Nat} (h : p < l.length) : l[p]? = some (byI l p) := by
  unfold byI
  rw [List.getElem?_eq_getElem h]
  rfl
theorem byI_ge {l : List Int32} {p : Nat} (h : l.length ≤ p) : byI l p = -1 := by
  unfold byI
  rw [List.getElem?_eq_none h]
  rfl
theorem run_st {P : Int32 → Bool} {l : List Int32} {p : Nat} (h : p < l.length) : runE P l p = if P (byI l p) = true then runE P l (p + 1) else p := by
  unfold runE
  have hd : l.drop p = byI l p :: l.drop (p + 1) := by
    rw [List.drop_eq_getElem_cons h]
    have := byI_lt h
    rw [List.getElem?_eq_getElem h] at this
    rw [Option.some.inj this]
  rw [hd]
  by_cases hp : P (byI l p) = true
  · rw [List.takeWhile_cons_of_pos hp, if_pos hp, List.length_cons]
    omega
  · rw [List.takeWhile_cons_of_neg hp, if_neg hp]
    rfl
theorem run_end {P : Int32 → Bool} {l : List Int32} {p : Nat} (h : l.length ≤ p) : runE P l p = p := by
  unfold runE
  rw [List.drop_eq_nil_iff.mpr h]
  rfl
theorem run_le {P : Int32 → Bool} {l : List Int32} : ∀ d p, l.length - p = d → p ≤ l.length → p ≤ runE P l p ∧ runE P l p ≤ l.length
  | 0, p, h, hp => by rw [run_end (by omega)]; omega
  | d + 1, p, h, hp => by
    rw [run_st (by omega)]
    split
    · have := run_le (P := P) (l := l) d (p + 1) (by omega) (by omega)
      omega
    · omega
/-- all of a run is so -/
theorem run_in {P : Int32 → Bool} {l : List Int32} : ∀ d p, l.length - p = d → ∀ q, p ≤ q → q < runE P l p → P (byI l q) = true
  | 0, p, h, q, h1, h2 => by rw [run_end (by omega)] at h2; omega
  | d + 1, p, h, q, h1, h2 => by
    rw [run_st (by omega)] at h2
    by_cases hp : P (byI l p) = true
    · rw [if_pos hp] at h2
      rcases (by omega : q = p ∨ p + 1 ≤ q) with e | e
      · rw [e]; exact hp
      · exact run_in d (p + 1) (by omega) q e h2
    · rw [if_neg hp] at h2
      omega
theorem run_out {P : Int32 → Bool} {l : List Int32} (h1 : P (-1) = false) : ∀ d p, l.length - p = d → P (byI l (runE P l p)) = false
  | 0, p, h => by rw [run_end (by omega), byI_ge (by omega)]; exact h1
  | d + 1, p, h => by
    rw [run_st (by omega)]
    by_cases hp : P (byI l p) = true
    · rw [if_pos hp]
      exact run_out h1 d (p + 1) (by omega)
    · rw [if_neg hp]
      cases h2 : P (byI l p) with
      | true => exact absurd h2 hp
      | false => rfl
theorem let1 : letB (-1) = false := by decide
theorem dig1 : digB (-1) = false := by decide
theorem let_dig {b : Int32} (h : letB b = true) : digB b = false := by
  unfold letB at h
  unfold digB
  simp only [decide_eq_true_eq, decide_eq_false_iff_not] at h ⊢
  simp only [ile, show (97 : Int32).toInt = 97 from rfl, show (122 : Int32).toInt = 122 from rfl, show (48 : Int32).toInt = 48 from rfl, show (57 : Int32).toInt = 57 from rfl] at h ⊢
  omega
/-- no word, no number goes over this place -/
def bdT (l : List Int32) (p : Nat) : Prop := p = 0 ∨ (¬ (letB (byI l (p - 1)) = true ∧ letB (byI l p) = true) ∧ ¬ (digB (byI l (p - 1)) = true ∧ digB (byI l p) = true))
theorem prI_pos {l : List Int32} {p : Nat} : prI l (p + 1) = byI l p := by
  unfold prI
  rw [if_neg (Nat.succ_ne_zero p)]
  rfl
theorem bd_pr {l : List Int32} {p : Nat} (h : bdT l p) : ¬ (letB (prI l p) = true ∧ letB (byI l p) = true) ∧ ¬ (digB (prI l p) = true ∧ digB (byI l p) = true) := by
  unfold prI
  rcases h with h | h
  · rw [if_pos h, let1, dig1]
    exact ⟨fun z => absurd z.1 (by decide), fun z => absurd z.1 (by decide)⟩
  · by_cases h0 : p = 0
    · rw [if_pos h0, let1, dig1]
      exact ⟨fun z => absurd z.1 (by decide), fun z => absurd z.1 (by decide)⟩
    · rw [if_neg h0]
      exact h
/-- inside a run nothing begins -/
theorem tk_skip {P : Int32 → Bool} {l : List Int32} (hP : ∀ q, P (byI l q) = true → P (byI l (q + 1)) = true → q + 1 < l.length → bgT l (q + 1) = false) : ∀ d p, l.length - p = d → ∀ q, q + 1 = p → P (byI l q) = true → tkF l p = tkF l (runE P l p)
  | 0, p, h, q, hq, hb => by rw [run_end (by omega)]
  | d + 1, p, h, q, hq, hb => by
    rw [run_st (by omega)]
    by_cases hp : P (byI l p) = true
    · rw [if_pos hp, tkF_st (by omega)]
      have := hP q hb (by rw [hq]; exact hp) (by omega)
      rw [hq] at this
      rw [this, if_neg (by decide)]
      exact tk_skip hP d (p + 1) (by omega) p rfl hp
    · rw [if_neg hp]
theorem tk_blank {l : List Int32} {p : Nat} (h : p < l.length) (hb : byI l p = 32 ∨ byI l p = 10) : tkF l p = tkF l (p + 1) ∧ bdT l (p + 1) := by
  have n1 : letB (byI l p) = false := by rcases hb with e | e <;> (rw [e]; decide)
  have n2 : digB (byI l p) = false := by rcases hb with e | e <;> (rw [e]; decide)
  refine ⟨?_, Or.inr ⟨fun z => ?_, fun z => ?_⟩⟩
  · rw [tkF_st h]
    have : bgT l p = false := by
      unfold bgT
      rw [n1, n2, if_neg (by decide), if_neg (by decide)]
      rcases hb with e | e <;> (rw [e]; decide)
    rw [this, if_neg (by decide)]
  · rw [Nat.add_sub_cancel, n1] at z
    exact absurd z.1 (by decide)
  · rw [Nat.add_sub_cancel, n2] at z
    exact absurd z.1 (by decide)
theorem tk_tok {l : List Int32} {p : Nat} (h : p < l.length) (hb : bdT l p) (hn : byI l p ≠ 32 ∧ byI l p ≠ 10) : tkF l p = (tkT l p, p) :: tkF l (endT l p) ∧ bdT l (endT l p) ∧ p < endT l p ∧ endT l p ≤ l.length := by
  obtain ⟨b1, b2⟩ := bd_pr hb
  by_cases h1 : letB (byI l p) = true
  · have hbg : bgT l p = true := by
      unfold bgT
      rw [if_pos h1]
      cases hp : letB (prI l p) with
      | true => exact absurd ⟨hp, h1⟩ b1
      | false => rfl
    have he : endT l p = runE letB l (p + 1) := by
      unfold endT
      rw [if_pos h1, run_st h, if_pos h1]
    have hle := run_le (P := letB) (l := l) _ (p + 1) rfl (by omega)
    refine ⟨?_, Or.inr ⟨fun z => ?_, fun z => ?_⟩, by omega, by omega⟩
    · rw [tkF_st h, hbg, if_pos rfl, he]
      congr 1
      refine tk_skip (P := letB) (fun q q1 q2 _ => ?_) _ (p + 1) rfl p rfl h1
      unfold bgT
      rw [if_pos q2, prI_pos, q1]
      rfl
    · have := run_out (l := l) let1 _ (p + 1) rfl
      rw [he, this] at z
      exact absurd z.2 (by decide)
    · have hin : letB (byI l (endT l p - 1)) = true := by
        rcases (by omega : runE letB l (p + 1) = p + 1 ∨ p + 1 < runE letB l (p + 1)) with e | e
        · rw [he, e, Nat.add_sub_cancel]; exact h1
        · rw [he]
          exact run_in _ (p + 1) rfl _ (by omega) (by omega)
      rw [let_dig hin] at z
      exact absurd z.1 (by decide)
  · by_cases h2 : digB (byI l p) = true
    · have hbg : bgT l p = true := by
        unfold bgT
        rw [if_neg h1, if_pos h2]
        cases hp : digB (prI l p) with
        | true => exact absurd ⟨hp, h2⟩ b2
        | false => rfl
      have he : endT l p = runE digB l (p + 1) := by
        unfold endT
        rw [if_neg h1, if_pos h2, run_st h, if_pos h2]
      have hle := run_le (P := digB) (l := l) _ (p + 1) rfl (by omega)
      have nl : ∀ b, digB b = true → letB b = false := fun b hb => by
        cases hl : letB b with
        | false => rfl
        | true => rw [let_dig hl] at hb; cases hb
      refine ⟨?_, Or.inr ⟨fun z => ?_, fun z => ?_⟩, by omega, by omega⟩
      · rw [tkF_st h, hbg, if_pos rfl, he]
        congr 1
        refine tk_skip (P := digB) (fun q q1 q2 _ => ?_) _ (p + 1) rfl p rfl h2
        unfold bgT
        rw [nl _ q2, if_neg (by decide), if_pos q2, prI_pos, q1]
        rfl
      · have hin : digB (byI l (endT l p - 1)) = true := by
          rcases (by omega : runE digB l (p + 1) = p + 1 ∨ p + 1 < runE digB l (p + 1)) with e | e
          · rw [he, e, Nat.add_sub_cancel]; exact h2
          · rw [he]
            exact run_in _ (p + 1) rfl _ (by omega) (by omega)
        rw [nl _ hin] at z
        exact absurd z.1 (by decide)
      · have := run_out (l := l) dig1 _ (p + 1) rfl
        rw [he, this] at z
        exact absurd z.2 (by decide)
    · have he : endT l p = p + 1 := by
        unfold endT
        rw [if_neg h1, if_neg h2]
      refine ⟨?_, Or.inr ⟨fun z => ?_, fun z => ?_⟩, by omega, by omega⟩
      · have hbg : bgT l p = true := by
          unfold bgT
          rw [if_neg h1, if_neg h2]
          simp [hn.1, hn.2]
        rw [tkF_st h, hbg, if_pos rfl, he]
      · rw [he, Nat.add_sub_cancel] at z
        exact h1 z.1
      · rw [he, Nat.add_sub_cancel] at z
        exact h2 z.1
