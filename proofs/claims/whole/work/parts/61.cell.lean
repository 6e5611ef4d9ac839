/-! cell, copy -/
def cvS (so v : Int32) : Int32 := if so = 0 then v.toInt8.toInt32 else if so = 1 then v.toInt16.toInt32 else v
theorem hasPlace_1 {S : SS} {w : Wd} {s i : Nat} (h : RC S w) (hs : s < 4) (h40 : (rowL S s).length ≤ 40) (hi : i < (rowL S s).length) : f2_hasPlace (67 + 2 * s) (nI i) w = some (1, w) := by
  obtain ⟨s1, s2, s3, s4, s5, s6, s7, s8, s9, s10, s11, s12, s13⟩ := h.sh hs
  unfold f2_hasPlace
  rw [if_neg (by rw [ilt, nI_int (by omega), show (0 : Int32).toInt = 0 from rfl]; omega), ck_pos s5, s12, if_neg (nI_ge hi (by omega)), s6, ck_pos s7, s8, if_neg (show ¬ Int32.ofNat 40 ≤ nI i from nI_ge (a := i) (b := 40) (by omega) (by omega))]
theorem hasPlace_0 {S : SS} {w : Wd} {s : Nat} {i : Int32} (h : RC S w) (hs : s < 4) (hi : i < 0 ∨ nI (rowL S s).length ≤ i) : f2_hasPlace (67 + 2 * s) i w = some (0, w) := by
  obtain ⟨s1, s2, s3, s4, s5, s6, s7, s8, s9, s10, s11, s12, s13⟩ := h.sh hs
  unfold f2_hasPlace
  by_cases h0 : i < 0
  · rw [if_pos h0]
  · rw [if_neg h0, ck_pos s5, s12, if_pos (hi.resolve_left h0)]
def setL (l : List Int32) (i : Nat) (v : Int32) : List Int32 := l.set i v
theorem setL_at {l : List Int32} {i k : Nat} {v x : Int32} (h : (setL l i v)[k]? = some x) : (k = i ∧ x = v) ∨ (k ≠ i ∧ l[k]? = some x) := by
  unfold setL at h
  rw [List.getElem?_set] at h
  split at h
  · rename_i e
    split at h
    · exact Or.inl ⟨e.symm, (Option.some.inj h).symm⟩
    · cases h
  · rename_i e
    exact Or.inr ⟨fun z => e z.symm, h⟩
theorem setL_len (l : List Int32) (i : Nat) (v : Int32) : (setL l i v).length = l.length := List.length_set
theorem write_c {S : SS} {w : Wd} {s i : Nat} {v : Int32} (h : RC S w) (hs : s < 4) (h40 : (rowL S s).length ≤ 40) (hi : i < (rowL S s).length) : ∃ w', f2_write (67 + 2 * s) (nI i) v w = some ((), w') ∧ RC (shS S s ((S.2.2.2.2 s).1, setL (rowL S s) i (cvS (S.2.2.2.2 s).1 v))) w' ∧ Fr (SP s) w w' ∧ ∀ q, wr w' q = wr w q := by
  obtain ⟨s1, s2, s3, s4, s5, s6, s7, s8, s9, s10, s11, s12, s13⟩ := h.sh hs
  have hF : Fr (SP s) w (sI w (68 + 2 * s) i (cvS (S.2.2.2.2 s).1 v)) := Fr.sI (Or.inr rfl)
  refine ⟨_, ?_, rcSheet h hs hF (fun _ => rfl) ?_ ?_ fun k x hx => ?_, hF, fun _ => rfl⟩
  · unfold f2_write lw
    rw [ck_pos s5, hasPlace_1 h hs h40 hi, Option.bind_some, if_neg (show ¬ (1 : Int32) = 0 by decide)]
    dsimp only
    rw [s11, s6, s8, ck_pos (And.intro s7 (vin (show i < 40 by omega) (by decide))), ck_pos (And.intro s7 (vin (show i < 40 by omega) (by decide))), ck_pos (And.intro s7 (vin (show i < 40 by omega) (by decide))), nI_clamp (by omega)]
    unfold cvS
    split
    · rfl
    · split <;> rfl
  · rw [wi_sI_ne (by omega)]; exact s11
  · rw [wi_sI_ne (by omega), setL_len]; exact s12
  · rw [wi_sI]
    rcases setL_at hx with ⟨e1, e2⟩ | ⟨e1, e2⟩
    · rw [if_pos ⟨rfl, e1⟩, e2]
    · rw [if_neg (fun z => e1 z.2)]
      exact s13 k x e2
theorem write_r {S : SS} {w : Wd} {s i : Nat} {v : Int32} (h : RM S w) (hS : SI S) (hs : s < 4) (hi : i < 40) : RM (shS S s ((S.2.2.2.2 s).1, setL (rowL S s) i v)) (sI w 87 (40 * s + i) v) ∧ Fr CP w (sI w 87 (40 * s + i) v) := by
  obtain ⟨s1, s2, s3, s4, s5, s6⟩ := h.sh hs
  have hF : Fr CP w (sI w 87 (40 * s + i) v) := Fr.sI (Or.inr (Or.inr rfl))
  refine ⟨rmSheet h hS.s40 hF (fun _ => rfl) ?_ ?_ (fun k x hx => ?_) (fun t ht e => ⟨wi_sI_ne (by decide) _, wi_sI_ne (by decide) _, fun k hk => ?_⟩), hF⟩
  · rw [wi_sI_ne (by decide)]; exact s4
  · rw [wi_sI_ne (by decide), setL_len]; exact s5
  · rw [wi_sI]
    rcases setL_at hx with ⟨e1, e2⟩ | ⟨e1, e2⟩
    · rw [if_pos ⟨rfl, by rw [e1]⟩, e2]
    · rw [if_neg (fun z => e1 (by omega))]
      exact s6 k x e2
  · rw [wi_sI, if_neg (fun z => by omega)]
theorem lcase (x : Int32) {n : Nat} (hn : n ≤ 40) : (∃ k, k < n ∧ x = nI k) ∨ (x < 0 ∨ nI n ≤ x) := by
  by_cases h : x < 0
  · exact Or.inr (Or.inl h)
  · by_cases h2 : nI n ≤ x
    · exact Or.inr (Or.inr h2)
    · left
      rw [ilt] at h
      refine inum (by rw [ile]; omega) ?_ (by omega)
      rw [ilt]
      rw [ile] at h2
      omega
theorem in_1 {k n : Nat} (hk : k < n) (hn : n ≤ 40) (w : Wd) : f6_in (nI k) 0 (nI n - 1) w = some (1, w) := by
  have e : (nI n - 1).toInt = (n : Int) - 1 := by rw [isub] <;> rw [nI_int (by omega), show (1 : Int32).toInt = 1 from rfl] <;> omega
  rcases within2 (nI k) 0 (nI n - 1) with ⟨_, h⟩ | ⟨h, _⟩
  · exact (h w).1
  · refine absurd ⟨?_, ?_⟩ h
    · rw [ile, nI_int (by omega), show (0 : Int32).toInt = 0 from rfl]; omega
    · rw [ile, e, nI_int (by omega)]; omega
theorem in_0 {x : Int32} {n : Nat} (hx : x < 0 ∨ nI n ≤ x) (hn : n ≤ 40) (w : Wd) : f6_in x 0 (nI n - 1) w = some (0, w) := by
  have e : (nI n - 1).toInt = (n : Int) - 1 := by rw [isub] <;> rw [nI_int (by omega), show (1 : Int32).toInt = 1 from rfl] <;> omega
  rcases within2 x 0 (nI n - 1) with ⟨h, _⟩ | ⟨_, h⟩
  · rw [ile, ile, e, show (0 : Int32).toInt = 0 from rfl] at h
    rw [ilt, ile, nI_int (by omega), show (0 : Int32).toInt = 0 from rfl] at hx
    omega
  · exact (h w).1
theorem cell_pair (x i v : Int32) : Pair (f5_cell 32 x i v) (f6_cell 75 x i v) := pair_of fun S hS => by
  rcases sheet_case x with ⟨s, hs, rfl, e⟩ | e
  · have h40 := rowL_40 hS hs
    have cc : ∀ {w}, RC S w → f5_cell 32 (nI s) i v w = if (S.2.2.2.2 s).1 = -1 then some (-11, w) else ((f2_hasPlace (67 + 2 * s) i w).bind fun z12 => (if z12.1 = (0 : Int32) then (some ((-12 : Int32), z12.2)) else ((f2_write (67 + 2 * s) i v z12.2).bind fun z16 => (some ((1 : Int32), z16.2))))) := by
      intro w h
      obtain ⟨s1, s2, s3, s4, s5, s6, s7, s8, s9, s10, s11, s12, s13⟩ := h.sh hs
      unfold f5_cell
      rw [(e w).1, Option.bind_some, if_neg (show ¬ (1 : Int32) = 0 by decide)]
      dsimp only
      rw [ck_pos h.t, s1, s3, ck_pos (And.intro s2 s9), s10, s4, ck_pos s5, missing_c h hs, Option.bind_some]
      dsimp only
      by_cases hm : (S.2.2.2.2 s).1 = -1
      · rw [if_pos hm, if_pos hm, if_neg (show ¬ (1 : Int32) = 0 by decide)]
      · rw [if_neg hm, if_neg hm, if_pos rfl]
    by_cases hm : (S.2.2.2.2 s).1 = -1
    · refine ⟨(-11, S), fun w h => ⟨w, ?_, h, OffM.rf⟩, fun w h => ⟨w, ?_, h, OffC.rf⟩, hS⟩
      · rw [cc h, if_pos hm]
      · obtain ⟨s1, s2, s3, s4, s5, s6⟩ := h.sh hs
        unfold f6_cell
        rw [(e w).2, Option.bind_some, if_neg (show ¬ (1 : Int32) = 0 by decide)]
        dsimp only
        rw [ck_pos h.1.1.t, h.1.1.r14, ck_pos s1, s3, s4, if_pos hm]
    · rcases lcase i h40 with ⟨k, hk, rfl⟩ | hi
      · refine ⟨(1, shS S s ((S.2.2.2.2 s).1, setL (rowL S s) k (cvS (S.2.2.2.2 s).1 v))), fun w h => ?_, fun w h => ?_, hS.sheet (hS.sort hs) (by rw [setL_len]; exact h40) fun z => absurd z hm⟩
        · obtain ⟨w', b1, b2, b3, b4⟩ := write_c (v := v) h hs h40 hk
          refine ⟨w', ?_, b2, spM hs b3⟩
          rw [cc h, if_neg hm, hasPlace_1 h hs h40 hk, Option.bind_some, if_neg (show ¬ (1 : Int32) = 0 by decide)]
          dsimp only
          rw [b1]
          rfl
        · obtain ⟨s1, s2, s3, s4, s5, s6⟩ := h.sh hs
          obtain ⟨b1, b2⟩ := write_r (v := cvS (S.2.2.2.2 s).1 v) h hS hs (i := k) (by omega)
          refine ⟨_, ?_, b1, cpC b2⟩
          have v87 : vp_in (nI (40 * s + k)) 160 := vin (by omega) (by decide)
          have c87 : (nI (40 * s + k)).toNatClampNeg = 40 * s + k := nI_clamp (by omega)
          unfold f6_cell lw
          rw [(e w).2, Option.bind_some, if_neg (show ¬ (1 : Int32) = 0 by decide)]
          dsimp only
          rw [ck_pos h.1.1.t, h.1.1.r14, ck_pos s1, s3, s4, if_neg hm, h.1.1.r15, ck_pos s2, s5, in_1 hk h40, Option.bind_some, if_neg (show ¬ (1 : Int32) = 0 by decide)]
          dsimp only
          rw [h.1.1.r14, ck_pos s1, ck_pos s1.2, s4, h.1.1.r16, h.1.1.l16, i40, nI_add, ck_pos (And.intro h.1.1.t16 v87), ck_pos (And.intro h.1.1.t16 v87), ck_pos (And.intro h.1.1.t16 v87), c87]
          unfold cvS
          split
          · rfl
          · split <;> rfl
      · refine ⟨(-12, S), fun w h => ⟨w, ?_, h, OffM.rf⟩, fun w h => ⟨w, ?_, h, OffC.rf⟩, hS⟩
        · rw [cc h, if_neg hm, hasPlace_0 h hs hi, Option.bind_some, if_pos rfl]
        · obtain ⟨s1, s2, s3, s4, s5, s6⟩ := h.sh hs
          unfold f6_cell
          rw [(e w).2, Option.bind_some, if_neg (show ¬ (1 : Int32) = 0 by decide)]
          dsimp only
          rw [ck_pos h.1.1.t, h.1.1.r14, ck_pos s1, s3, s4, if_neg hm, h.1.1.r15, ck_pos s2, s5, in_0 hi h40, Option.bind_some, if_pos rfl]
  · refine ⟨(-2, S), fun w h => ⟨w, ?_, h, OffM.rf⟩, fun w h => ⟨w, ?_, h, OffC.rf⟩, hS⟩
    · unfold f5_cell
      rw [(e w).1, Option.bind_some, if_pos rfl]
    · unfold f6_cell
      rw [(e w).2, Option.bind_some, if_pos rfl]
/-! copy -/
def cpL (l o : List Int32) (i j n : Nat) : List Int32 := (List.range o.length).map fun k => if j ≤ k ∧ k < j + n then l.getD (i + (k - j)) 0 else o.getD k 0
theorem cpL_len (l o : List Int32) (i j n : Nat) : (cpL l o i j n).length = o.length := by unfold cpL; rw [List.length_map, List.length_range]
theorem cpL_at {l o : List Int32} {i j n k : Nat} {x : Int32} (h : (cpL l o i j n)[k]? = some x) : k < o.length ∧ x = if j ≤ k ∧ k < j + n then l.getD (i + (k - j)) 0 else o.getD k 0 := by
  have hk := (List.getElem?_eq_some_iff.mp h).1
  rw [cpL_len] at hk
  unfold cpL at h
  rw [List.getElem?_map, List.getElem?_range hk] at h
  exact ⟨hk, (Option.some.inj h).symm⟩
theorem getD_at {l : List Int32} {k : Nat} (h : k < l.length) : l[k]? = some (l.getD k 0) := by
  rw [List.getElem?_eq_getElem h, List.getD_eq_getElem?_getD, List.getElem?_eq_getElem h]
  rfl
theorem places_c {S : SS} {w : Wd} {s : Nat} {i n : Int32} (h : RC S w) (hs : s < 4) (h40 : (rowL S s).length ≤ 40) : f2_hasPlaces (67 + 2 * s) i n w = some (if 0 ≤ i.toInt ∧ 0 ≤ n.toInt ∧ i.toInt + n.toInt ≤ (rowL S s).length then 1 else 0, w) := by
  obtain ⟨s1, s2, s3, s4, s5, s6, s7, s8, s9, s10, s11, s12, s13⟩ := h.sh hs
  have z : (0 : Int32).toInt = 0 := rfl
  unfold f2_hasPlaces
  by_cases hn : n < 0
  · rw [if_pos hn, if_neg (fun q => by rw [ilt, z] at hn; omega)]
  · rw [if_neg hn]
    by_cases hi : i < 0
    · rw [if_pos hi, if_neg (fun q => by rw [ilt, z] at hi; omega)]
    · rw [if_neg hi, ck_pos s5, s12]
      rw [ilt, z] at hn hi
      by_cases h1 : nI (rowL S s).length < n
      · rw [if_pos h1, if_neg]
        rw [ilt, nI_int (by omega)] at h1
        omega
      · rw [if_neg h1]
        rw [ilt, nI_int (by omega)] at h1
        have e : (nI (rowL S s).length - n).toInt = ((rowL S s).length : Int) - n.toInt := by rw [isub] <;> rw [nI_int (by omega)] <;> omega
        by_cases h2 : nI (rowL S s).length - n < i
        · rw [if_pos h2, if_neg]
          rw [ilt, e] at h2
          omega
        · rw [if_neg h2, if_pos]
          rw [ilt, e] at h2
          omega
theorem wiC (w : Wd) (q1 sp q2 dp n a b : Nat) : wi (wC w q1 sp q2 dp n) a b = if a = q2 ∧ dp ≤ b ∧ b < dp + n then wi w q1 (sp + (b - dp)) else wi w a b := rfl
theorem copy_cc {S : SS} {w : Wd} {s o i j n : Nat} (h : RC S w) (hS : SI S) (hs : s < 4) (ho : o < 4) (hi : i + n ≤ (rowL S s).length) (hj : j + n ≤ (rowL S o).length) : RC (shS S o ((S.2.2.2.2 o).1, cpL (rowL S s) (rowL S o) i j n)) (wC w (68 + 2 * s) i (68 + 2 * o) j n) ∧ OffM w (wC w (68 + 2 * s) i (68 + 2 * o) j n) := by
  obtain ⟨s1, s2, s3, s4, s5, s6, s7, s8, s9, s10, s11, s12, s13⟩ := h.sh hs
  obtain ⟨t1, t2, t3, t4, t5, t6, t7, t8, t9, t10, t11, t12, t13⟩ := h.sh ho
  have hF : Fr (SP o) w (wC w (68 + 2 * s) i (68 + 2 * o) j n) := ⟨fun _ => rfl, rfl, fun q hq => ⟨fun k => by rw [wiC, if_neg (fun z => hq (Or.inr z.1))], fun _ => rfl⟩⟩
  refine ⟨rcSheet h ho hF (fun _ => rfl) ?_ ?_ fun k x hx => ?_, spM ho hF⟩
  · rw [wiC, if_neg (fun z => by omega)]; exact t11
  · rw [wiC, if_neg (fun z => by omega), cpL_len]; exact t12
  · obtain ⟨hk, e⟩ := cpL_at hx
    rw [wiC, e]
    by_cases hjk : j ≤ k ∧ k < j + n
    · rw [if_pos ⟨rfl, hjk⟩, if_pos hjk]
      exact s13 _ _ (getD_at (by omega))
    · rw [if_neg (fun z => hjk z.2), if_neg hjk]
      exact t13 _ _ (getD_at hk)
theorem copy_rr {S : SS} {w : Wd} {s o i j n : Nat} (h : RM S w) (hS : SI S) (hs : s < 4) (ho : o < 4) (hi : i + n ≤ (rowL S s).length) (hj : j + n ≤ (rowL S o).length) : ∃ w', loopF b6_copy_147 FU (75, nI n, nI (40 * s + i), nI (40 * o + j), (0 : Int32)) w = some (nI n, w') ∧ RM (shS S o ((S.2.2.2.2 o).1, cpL (rowL S s) (rowL S o) i j n)) w' ∧ OffC w w' := by
  have a1 := h.1.1
  have hs40 := rowL_40 hS hs
  have ho40 := rowL_40 hS ho
  obtain ⟨s1, s2, s3, s4, s5, s6⟩ := h.sh hs
  obtain ⟨t1, t2, t3, t4, t5, t6⟩ := h.sh ho
  have key : ∃ w', loopF b6_copy_147 FU (75, nI n, nI (40 * s + i), nI (40 * o + j), (0 : Int32)) w = some (nI n, w') ∧ Fr (fun q => q = 87) w w' ∧ (∀ q, wr w' q = wr w q) ∧ ∀ y, wi w' 87 y = if 40 * o + j ≤ y ∧ y < 40 * o + j + n then wi w 87 (40 * s + i + (y - (40 * o + j))) else wi w 87 y := by
    refine loopE (R := fun u => ∃ w', u = some (nI n, w') ∧ Fr (fun q => q = 87) w w' ∧ (∀ q, wr w' q = wr w q) ∧ ∀ y, wi w' 87 y = if 40 * o + j ≤ y ∧ y < 40 * o + j + n then wi w 87 (40 * s + i + (y - (40 * o + j))) else wi w 87 y)
      (I := fun k v w2 => v = (75, nI n, nI (40 * s + i), nI (40 * o + j), nI k) ∧ Fr (fun q => q = 87) w w2 ∧ (∀ q, wr w2 q = wr w q) ∧ ∀ y, wi w2 87 y = if (40 * s + i < 40 * o + j ∧ 40 * o + j + n - k ≤ y ∧ y < 40 * o + j + n) ∨ (¬ 40 * s + i < 40 * o + j ∧ 40 * o + j ≤ y ∧ y < 40 * o + j + k) then wi w 87 (40 * s + i + (y - (40 * o + j))) else wi w 87 y) n ?_ ?_ FU _ w (by show n < 1000; omega) ⟨rfl, Fr.rf, fun _ => rfl, fun y => ?_⟩
    · intro k v w2 hk hI
      obtain ⟨rfl, i1, i2, i3'⟩ := hI
      have b1 := a1.fr i1 (by decide)
      have step : ∀ x : Nat, x < n → ∀ (kk : Nat × Int32 × Int32 × Int32 × Int32 → Wd → Option (Int32 × Wd)), j6_copy_173 kk 75 (nI n) (nI (40 * s + i)) (nI (40 * o + j)) (nI k) (nI x) w2 = kk (75, nI n, nI (40 * s + i), nI (40 * o + j), nI (k + 1)) (sI w2 87 (40 * o + j + x) (wi w2 87 (40 * s + i + x))) := by
        intro x hx kk
        unfold j6_copy_173 lw
        dsimp only
        rw [ck_pos b1.t, b1.r16, b1.l16, nI_add, nI_add, ck_pos (And.intro b1.t16 (vin (show 40 * s + i + x < 160 by omega) (by decide))), ck_pos (vin (show 40 * o + j + x < 160 by omega) (by decide)), nI_clamp (by omega), nI_clamp (by omega), i3_1]
      by_cases hab : 40 * s + i < 40 * o + j
      · have hle : ¬ nI (40 * o + j) ≤ nI (40 * s + i) := nI_ge hab (by omega)
        have ex : nI n - 1 - nI k = nI (n - 1 - k) := by
          rw [ieq, isub] <;> (try rw [isub]) <;> (repeat rw [nI_int (by omega)]) <;> rw [show (1 : Int32).toInt = 1 from rfl] <;> omega
        refine ⟨(75, nI n, nI (40 * s + i), nI (40 * o + j), nI (k + 1)), sI w2 87 (40 * o + j + (n - 1 - k)) (wi w2 87 (40 * s + i + (n - 1 - k))), ⟨rfl, i1.tr (Fr.sI rfl), fun q => i2 q, fun y => ?_⟩, fun kk => ?_⟩
        · rw [wi_sI]
          have r : wi w2 87 (40 * s + i + (n - 1 - k)) = wi w 87 (40 * s + i + (n - 1 - k)) := by
            rw [i3', if_neg (by omega)]
          by_cases hy : y = 40 * o + j + (n - 1 - k)
          · rw [if_pos ⟨rfl, hy⟩, r, if_pos (by omega), hy]
            congr 1
            omega
          · rw [if_neg (fun z => hy z.2), i3']
            by_cases hz : 40 * o + j + n - k ≤ y ∧ y < 40 * o + j + n
            · rw [if_pos (by omega), if_pos (by omega)]
            · rw [if_neg (by omega), if_neg (by omega)]
        · unfold b6_copy_147
          dsimp only
          rw [if_neg (nI_ge hk (by omega)), if_neg hle, ex, step _ (by omega)]
      · have hle : nI (40 * o + j) ≤ nI (40 * s + i) := by rw [ile, nI_int (by omega), nI_int (by omega)]; omega
        refine ⟨(75, nI n, nI (40 * s + i), nI (40 * o + j), nI (k + 1)), sI w2 87 (40 * o + j + k) (wi w2 87 (40 * s + i + k)), ⟨rfl, i1.tr (Fr.sI rfl), fun q => i2 q, fun y => ?_⟩, fun kk => ?_⟩
        · rw [wi_sI]
          have r : wi w2 87 (40 * s + i + k) = wi w 87 (40 * s + i + k) := by
            rw [i3', if_neg (by omega)]
          by_cases hy : y = 40 * o + j + k
          · rw [if_pos ⟨rfl, hy⟩, r, if_pos (by omega), hy]
            congr 1
            omega
          · rw [if_neg (fun z => hy z.2), i3']
            by_cases hz : 40 * o + j ≤ y ∧ y < 40 * o + j + k
            · rw [if_pos (by omega), if_pos (by omega)]
            · rw [if_neg (by omega), if_neg (by omega)]
        · unfold b6_copy_147
          dsimp only
          rw [if_neg (nI_ge hk (by omega)), if_pos hle, step _ (by omega)]
    · intro v w2 hI kk
      obtain ⟨rfl, i1, i2, i3'⟩ := hI
      refine ⟨w2, ?_, i1, i2, fun y => ?_⟩
      · unfold b6_copy_147
        dsimp only
        rw [if_pos (Int32.le_refl _)]
      · rw [i3']
        by_cases hz : 40 * o + j ≤ y ∧ y < 40 * o + j + n
        · rw [if_pos (by omega), if_pos hz]
        · rw [if_neg (by omega), if_neg hz]
    · rw [if_neg (by omega)]
  obtain ⟨w', k1, k2, k3, k4⟩ := key
  have hF : Fr CP w w' := k2.mono fun q z => Or.inr (Or.inr z)
  refine ⟨w', k1, rmSheet h hS.s40 hF k3 ?_ ?_ (fun k x hx => ?_) (fun t ht e => ⟨?_, ?_, fun k hk => ?_⟩), cpC hF⟩
  · rw [(k2.2.2 85 (by decide)).1]; exact t4
  · rw [(k2.2.2 86 (by decide)).1, cpL_len]; exact t5
  · obtain ⟨hk, e⟩ := cpL_at hx
    rw [k4, e]
    by_cases hjk : j ≤ k ∧ k < j + n
    · rw [if_pos (by omega), if_pos hjk, show 40 * s + i + (40 * o + k - (40 * o + j)) = 40 * s + (i + (k - j)) by omega]
      exact s6 _ _ (getD_at (by omega))
    · rw [if_neg (by omega), if_neg hjk]
      exact t6 _ _ (getD_at hk)
  · rw [(k2.2.2 85 (by decide)).1]
  · rw [(k2.2.2 86 (by decide)).1]
  · rw [k4, if_neg (by omega)]
