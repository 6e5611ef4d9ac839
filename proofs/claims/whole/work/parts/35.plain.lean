/-! plain calls: helpers -/
theorem inum {x : Int32} {n : Nat} (h0 : 0 ≤ x) (h : x < nI n) (hn : n < 2 ^ 31) : ∃ k, k < n ∧ x = nI k := by
  rw [ile, show (0 : Int32).toInt = 0 from rfl] at h0
  have e : ∀ m : Nat, m < 2 ^ 31 → (nI m).toInt = m := fun m hm => by unfold nI; exact Int32.toInt_ofNat_of_lt hm
  rw [ilt, e n hn] at h
  refine ⟨x.toInt.toNat, by omega, ?_⟩
  rw [ieq, e _ (by omega)]
  omega
theorem nI_int {m : Nat} (hm : m < 2 ^ 31) : (nI m).toInt = m := by unfold nI; exact Int32.toInt_ofNat_of_lt hm
theorem within2 (x lo hi : Int32) : ((lo ≤ x ∧ x ≤ hi) ∧ ∀ w, f6_in x lo hi w = some (1, w) ∧ f5_isWithin x lo hi w = some (1, w)) ∨ (¬ (lo ≤ x ∧ x ≤ hi) ∧ ∀ w, f6_in x lo hi w = some (0, w) ∧ f5_isWithin x lo hi w = some (0, w)) := by
  unfold f6_in f5_isWithin
  by_cases h1 : x < lo
  · refine Or.inr ⟨fun h => ?_, fun w => ⟨if_pos h1, if_pos h1⟩⟩
    rw [ilt] at h1
    have := h.1
    rw [ile] at this
    omega
  · by_cases h2 : hi < x
    · refine Or.inr ⟨fun h => ?_, fun w => ⟨(if_neg h1).trans (if_pos h2), (if_neg h1).trans (if_pos h2)⟩⟩
      rw [ilt] at h2
      have := h.2
      rw [ile] at this
      omega
    · refine Or.inl ⟨?_, fun w => ⟨(if_neg h1).trans (if_neg h2), (if_neg h1).trans (if_neg h2)⟩⟩
      rw [ilt] at h1 h2
      rw [ile, ile]
      omega
theorem bcase (b : Int32) {many : Nat} (hm : many ≤ 6) : (∃ k, k < many ∧ b = nI k) ∨ (b < 0 ∨ nI many ≤ b) := by
  by_cases h : b < 0
  · exact Or.inr (Or.inl h)
  · by_cases h2 : nI many ≤ b
    · exact Or.inr (Or.inr h2)
    · left
      rw [ilt] at h
      refine inum (by rw [ile]; omega) ?_ (by omega)
      rw [ilt]
      rw [ile] at h2
      omega
theorem has_1 {w : Wd} {a many k : Nat} {s : HS} {F B G : List Int32} (h : HutC w a many s F B G) (hk : k < many) : f1_has a (nI k) w = some (1, w) := by
  have hm := h.2.2.2.2.2.2.1
  unfold f1_has
  rw [if_neg, ck_pos h.tgA, h.2.2.2.2.2.1, if_neg (nI_ge hk (by omega))]
  rw [ilt, nI_int (by omega), show (0 : Int32).toInt = 0 from rfl]
  omega
theorem has_0 {w : Wd} {a many : Nat} {b : Int32} {s : HS} {F B G : List Int32} (h : HutC w a many s F B G) (hb : b < 0 ∨ nI many ≤ b) : f1_has a b w = some (0, w) := by
  unfold f1_has
  by_cases h0 : b < 0
  · rw [if_pos h0]
  · rw [if_neg h0, ck_pos h.tgA, h.2.2.2.2.2.1, if_pos (hb.resolve_left h0)]
theorem one_1 {w : Wd} {many t k : Nat} {s : HS} {F B G : List Int32} (h : ModC w many t s F B G) (hk : k < many) : f6_isOne 75 (nI k) w = some (1, w) := by
  have hm := h.2.2.1
  have hn := nI_int (m := many) (by omega)
  have hk' := nI_int (m := k) (by omega)
  unfold f6_isOne
  rw [ck_pos h.1.t, h.2.1]
  have e : (nI many - 1).toInt = (many : Int) - 1 := by rw [isub] <;> rw [hn, show (1 : Int32).toInt = 1 from rfl] <;> omega
  rcases within2 (nI k) 0 (nI many - 1) with ⟨_, h2⟩ | ⟨h1, _⟩
  · rw [(h2 w).1, Option.bind_some, ck_pos (show isB (1 : Int32) from Or.inr rfl)]
  · refine absurd ⟨?_, ?_⟩ h1
    · rw [ile, hk', show (0 : Int32).toInt = 0 from rfl]; omega
    · rw [ile, hk', e]; omega
theorem one_0 {w : Wd} {many t : Nat} {b : Int32} {s : HS} {F B G : List Int32} (h : ModC w many t s F B G) (hb : b < 0 ∨ nI many ≤ b) : f6_isOne 75 b w = some (0, w) := by
  have hm := h.2.2.1
  have hn := nI_int (m := many) (by omega)
  unfold f6_isOne
  rw [ck_pos h.1.t, h.2.1]
  have e : (nI many - 1).toInt = (many : Int) - 1 := by rw [isub] <;> rw [hn, show (1 : Int32).toInt = 1 from rfl] <;> omega
  rcases within2 b 0 (nI many - 1) with ⟨h1, _⟩ | ⟨_, h2⟩
  · rw [ile, ile, e, show (0 : Int32).toInt = 0 from rfl] at h1
    rw [ilt, ile, hn, show (0 : Int32).toInt = 0 from rfl] at hb
    omega
  · rw [(h2 w).1, Option.bind_some, ck_pos (show isB (0 : Int32) from Or.inl rfl)]
theorem RC.t {S : SS} {w : Wd} (h : RC S w) : tg w 32 = 5 := tg_eq h.1.1.1
theorem RC.r3 {S : SS} {w : Wd} (h : RC S w) : wr w 32 3 = 42 := h.1.1.2.2.2.1
theorem RC.hc {S : SS} {w : Wd} (h : RC S w) : HutC w 42 S.1.2.1 S.1.1 (pgs S.2.1 S.1.2.2).1 (pgs S.2.1 S.1.2.2).2.1 (pgs S.2.1 S.1.2.2).2.2 := h.2.1.1
theorem RC.t42 {S : SS} {w : Wd} (h : RC S w) : tg w 42 = 1 := h.hc.tgA
theorem SI.rg {S : SS} (h : SI S) : Rg S.1.2.1 S.1.1 := h.1.2.2.1
/-- hut -/
def hutA (S : SS) (x : Int32) : Int32 := if x = 0 then S.1.1.1 0 else if x = 1 then S.1.1.1 1 else if x = 2 then S.1.1.1 2 else if x = 3 then S.1.1.1 3 else -2
theorem hut_c {S : SS} {w : Wd} (x : Int32) (h : RC S w) : f5_hut 32 x w = some (hutA S x, w) := by
  unfold f5_hut hutA
  rw [h.r3, ck_pos h.t, ck_pos h.t42, ck_pos h.t, ck_pos h.t42, ck_pos h.t, ck_pos h.t42, ck_pos h.t, ck_pos h.t42]
  rw [h.hc.hut (by decide : 0 < 4), h.hc.hut (by decide : 1 < 4), h.hc.hut (by decide : 2 < 4), h.hc.hut (by decide : 3 < 4)]
  split
  · rfl
  · split
    · rfl
    · split
      · rfl
      · split <;> rfl
theorem four (x : Int32) (h : 0 ≤ x ∧ x ≤ 3) : ∃ k, k < 4 ∧ x = nI k := by
  refine inum h.1 ?_ (by decide)
  have := h.2
  rw [ile, show (3 : Int32).toInt = 3 from rfl] at this
  rw [ilt, show (nI 4).toInt = 4 from rfl]
  omega
theorem nfour (x : Int32) (h : ¬ (0 ≤ x ∧ x ≤ 3)) : x ≠ 0 ∧ x ≠ 1 ∧ x ≠ 2 ∧ x ≠ 3 := by
  refine ⟨?_, ?_, ?_, ?_⟩ <;> (rintro rfl; exact h (by decide))
theorem hutA_k (S : SS) {k : Nat} (hk : k < 4) : hutA S (nI k) = S.1.1.1 k := by
  rcases (by omega : k = 0 ∨ k = 1 ∨ k = 2 ∨ k = 3) with rfl | rfl | rfl | rfl <;> rfl
theorem hutA_no (S : SS) {x : Int32} (h : ¬ (0 ≤ x ∧ x ≤ 3)) : hutA S x = -2 := by
  obtain ⟨a, b, c, d⟩ := nfour x h
  unfold hutA
  rw [if_neg a, if_neg b, if_neg c, if_neg d]
theorem hut_r {S : SS} {w : Wd} (x : Int32) (h : RM S w) : f6_hut 75 x w = some (hutA S x, w) := by
  unfold f6_hut
  rcases within2 x 0 3 with ⟨h1, h2⟩ | ⟨h1, h2⟩
  · obtain ⟨k, hk, rfl⟩ := four x h1
    rw [(h2 w).1, Option.bind_some, if_neg (show ¬ (1 : Int32) = 0 by decide)]
    dsimp only
    rw [ck_pos h.1.1.t, h.1.1.r4, h.1.1.l4, ck_pos (And.intro h.1.1.t4 (vin hk (by decide))), nI_clamp (by omega), h.1.2.2.2.1 k hk, hutA_k S hk]
  · rw [(h2 w).1, Option.bind_some, if_pos rfl, hutA_no S h1]
theorem hut_pair (x : Int32) : Pair (f5_hut 32 x) (f6_hut 75 x) := pair_of fun S hS => ⟨(hutA S x, S), fun w h => ⟨w, hut_c x h, h, OffM.rf⟩, fun w h => ⟨w, hut_r x h, h, OffC.rf⟩, hS⟩
/-- count -/
def countA (S : SS) (x : Int32) : Int32 := if x = 0 then nI S.1.2.1 else if x = 1 then nI (inN S.1.1.2 S.1.2.1) else if x = 2 then joyM S.1 else if x = 3 then nI S.2.1.length else if x = 4 then nI S.1.2.2 else if x = 5 then nI S.2.2.1.length else -2
theorem count_c {S : SS} {w : Wd} (x : Int32) (h : RC S w) : f5_count 32 x w = some (countA S x, w) := by
  unfold f5_count countA
  have t' := h.2.2.1.2.2 S.1.2.2 h.2.1.2.2
  simp only [h.r3, h.t, h.t42, ck_true, h.hc.2.2.2.2.2.1, in_cls h.hc, joy_cls h.hc, Option.bind_some, h.2.2.1.1, h.2.1.2.1, tg_eq t'.2.2.1.1, t'.2.1, h.1.1.2.1, tg_eq h.1.2.1.1, h.2.2.2.1.1]
  split
  · rfl
  · split
    · rfl
    · split
      · rfl
      · split
        · rfl
        · split
          · rfl
          · split <;> rfl
theorem count_r {S : SS} {w : Wd} (x : Int32) (h : RM S w) (hr : Rg S.1.2.1 S.1.1) : f6_count 75 x w = some (countA S x, w) := by
  unfold f6_count countA
  simp only [h.1.1.t, ck_true, in_ref h.1 hr, joy_ref h.1, Option.bind_some, h.1.2.1, h.2.1.1, h.1.2.2.2.2.2.1, h.2.2.1.1]
  split
  · rfl
  · split
    · rfl
    · split
      · rfl
      · split
        · rfl
        · split
          · rfl
          · split <;> rfl
theorem count_pair (x : Int32) : Pair (f5_count 32 x) (f6_count 75 x) := pair_of fun S hS => ⟨(countA S x, S), fun w h => ⟨w, count_c x h, h, OffM.rf⟩, fun w h => ⟨w, count_r x h hS.rg, h, OffC.rf⟩, hS⟩
