/-! the reference's tokens -/
def MS (l : List Int32) (n : Nat) (w : Wd) (p : Nat) : Prop := LayM w ∧ (wi w 75 6 = nI l.length ∧ l.length ≤ 160 ∧ ∀ j b, l[j]? = some b → wi w 80 j = b) ∧ W89 w ∧ (wi w 75 9 = nI n ∧ n < 6) ∧ wi w 75 18 = nI p ∧ p ≤ l.length
def NF (w w' : Wd) : Prop := Fr (fun q => q = 75) w w' ∧ (∀ q, wr w' q = wr w q) ∧ ∀ k, ¬ (18 ≤ k ∧ k ≤ 21) → wi w' 75 k = wi w 75 k
theorem NF.rf {w : Wd} : NF w w := ⟨Fr.rf, fun _ => rfl, fun _ _ => rfl⟩
theorem NF.tr {a b c : Wd} (h1 : NF a b) (h2 : NF b c) : NF a c := ⟨h1.1.tr h2.1, fun q => (h2.2.1 q).trans (h1.2.1 q), fun k x => (h2.2.2 k x).trans (h1.2.2 k x)⟩
theorem nfI {w : Wd} {k : Nat} {v : Int32} (h : 18 ≤ k ∧ k ≤ 21) : NF w (sI w 75 k v) := ⟨Fr.sI rfl, fun _ => rfl, fun j hj => by rw [wi_sI, if_neg (fun z => hj (by rw [z.2]; exact h))]⟩
theorem LayM.same {w w' : Wd} (h : LayM w) (h1 : ∀ q, sh w' q = sh w q) (h2 : ∀ q, wr w' q = wr w q) : LayM w' := ⟨by rw [h1]; exact h.1, fun x hx => ⟨by rw [h2]; exact (h.2 x hx).1, by rw [h1]; exact (h.2 x hx).2⟩⟩
theorem MS.nf {l : List Int32} {n p p' : Nat} {w w' : Wd} (h : MS l n w p) (hF : NF w w') (h18 : wi w' 75 18 = nI p') (hp : p' ≤ l.length) : MS l n w' p' := by
  obtain ⟨a1, ⟨a2, a3, a4⟩, a5, ⟨a6, a7⟩, _⟩ := h
  refine ⟨a1.same hF.1.1 hF.2.1, ⟨by rw [hF.2.2 6 (by decide)]; exact a2, a3, fun j b hb => by rw [(hF.1.2.2 80 (by decide)).1]; exact a4 j b hb⟩, fun k hk => by rw [(hF.1.2.2 89 (by decide)).1]; exact a5 k hk, ⟨by rw [hF.2.2 9 (by decide)]; exact a6, a7⟩, h18, hp⟩
theorem MS.at80 {l : List Int32} {n p : Nat} {w : Wd} (h : MS l n w p) {q : Nat} (hq : q < l.length) : (tg w 80 = 20 ∧ vp_in (nI q) (ln w 80)) ∧ (nI q).toNatClampNeg = q ∧ wi w 80 q = byI l q := by
  have := h.2.1.2.1
  exact ⟨⟨h.1.t5, by rw [h.1.l5]; exact vin (by omega) (by decide)⟩, nI_clamp (by omega), h.2.1.2.2 q _ (byI_lt hq)⟩
theorem in_let (b : Int32) (w : Wd) : f6_in b 97 122 w = some (if letB b = true then 1 else 0, w) := by
  rcases within2 b 97 122 with ⟨h, e⟩ | ⟨h, e⟩
  · rw [(e w).1, if_pos (by unfold letB; exact decide_eq_true h)]
  · rw [(e w).1, if_neg (by unfold letB; simpa using h)]
theorem in_dig (b : Int32) (w : Wd) : f6_in b 48 57 w = some (if digB b = true then 1 else 0, w) := by
  rcases within2 b 48 57 with ⟨h, e⟩ | ⟨h, e⟩
  · rw [(e w).1, if_pos (by unfold digB; exact decide_eq_true h)]
  · rw [(e w).1, if_neg (by unfold digB; simpa using h)]
/-! words of the reference -/
def pm (k : Nat) : Nat := if k < 3 then k else if k < 9 then k + 3 else k - 6
def lk (s : List Int32) (k : Nat) : Prop := s.length ≤ 8 ∧ ∀ c, c < 8 → wTab.getD (8 * k + c) 0 = (if c < s.length then s.getD c 0 else 32)
theorem tab_facts : ∀ k, k < 12 → (wdS (pm k)).length ≤ 6 ∧ pm k < 12 ∧ ∀ c, c < 8 → wTab.getD (8 * k + c) 0 = (if c < (wdS (pm k)).length then (wdS (pm k)).getD c 0 else 32) := by decide
theorem tab_let : ∀ k, k < 12 → ∀ c, c < (wdS (pm k)).length → (wdS (pm k)).getD c 0 ≠ 32 := by decide
theorem lk_iff {s : List Int32} {k : Nat} (hs : ∀ x ∈ s, letB x = true) (hk : k < 12) : lk s k ↔ s = wdS (pm k) := by
  obtain ⟨f1, f2, f3⟩ := tab_facts k hk
  have f4 := tab_let k hk
  constructor
  · rintro ⟨h1, h2⟩
    have nb : ∀ c, c < s.length → s.getD c 0 ≠ 32 := fun c hc e => by
      have hm : s.getD c 0 ∈ s := by
        have := getD_at hc
        exact List.mem_of_getElem? this
      have := hs _ hm
      rw [e] at this
      revert this
      decide
    have hlen : s.length = (wdS (pm k)).length := by
      rcases Nat.lt_trichotomy s.length (wdS (pm k)).length with h | h | h
      · exfalso
        have e1 := h2 s.length (by omega)
        rw [f3 _ (by omega), if_pos h, if_neg (Nat.lt_irrefl _)] at e1
        exact f4 _ h e1
      · exact h
      · exfalso
        have e1 := h2 (wdS (pm k)).length (by omega)
        rw [f3 _ (by omega), if_neg (Nat.lt_irrefl _), if_pos h] at e1
        exact nb _ h e1.symm
    apply List.ext_getElem?
    intro c
    by_cases hc : c < s.length
    · have e1 := h2 c (by omega)
      rw [f3 c (by omega), if_pos (by omega), if_pos hc] at e1
      rw [getD_at hc, getD_at (by omega), e1]
    · rw [List.getElem?_eq_none (by omega), List.getElem?_eq_none (by omega)]
  · intro e
    rw [e]
    exact ⟨by omega, fun c hc => f3 c hc⟩
/-- the first word that it is -/
def ixW (s : List Int32) (r : Nat) : Prop := (r < 12 ∧ s = wdS (pm r)) ∨ (r = 12 ∧ ∀ k, k < 12 → s ≠ wdS (pm k))
theorem pair_lt {α : Type} (p : Prop) [Decidable p] (a b : α) (h : p) : (if p then a else b) = a := if_pos h
theorem wordFrom_r {l : List Int32} {n p a b : Nat} {w : Wd} (h : MS l n w p) (hab : a ≤ b) (hb : b ≤ l.length) (hs : ∀ x ∈ slc l a b, letB x = true) : ∃ r, f6_wordFrom 75 (nI a) (nI b) w = some (nI r, w) ∧ ixW (slc l a b) r := by
  have hl := h.2.1.2.1
  have slen := slc_len (l := l) (a := a) hb
  have a1 := h.1
  have inner : ∀ k, k < 12 → ∃ z : Int32, (z = 1 ∧ lk (slc l a b) k ∨ z = 0 ∧ ¬ lk (slc l a b) k) ∧ ∀ k2, (if (8 : Int32) < nI b - nI a then j6_wordFrom_21 k2 75 (nI a) (nI b) (nI k) (0 : Int32) w else j6_wordFrom_21 k2 75 (nI a) (nI b) (nI k) (1 : Int32) w) = j6_wordFrom_88 k2 75 (nI a) (nI b) (nI k) z w := by
    intro k hk
    have es : nI b - nI a = nI (b - a) := by
      rw [ieq, isub] <;> rw [nI_int (by omega), nI_int (by omega)] <;> (try rw [nI_int (by omega)]) <;> omega
    rw [es]
    by_cases h8 : 8 < b - a
    · refine ⟨0, Or.inr ⟨rfl, fun z => by have := z.1; omega⟩, fun k2 => ?_⟩
      rw [if_pos (by rw [ilt, nI_int (by omega), show (8 : Int32).toInt = 8 from rfl]; omega)]
      unfold j6_wordFrom_21
      show b6_wordFrom_26 k2 (loopF (b6_wordFrom_26 k2) 999) _ w = _
      unfold b6_wordFrom_26
      dsimp only
      rw [if_neg (by decide), if_pos rfl]
    · have key := loopS (B := b6_wordFrom_26) (I := fun c v w2 => w2 = w ∧ ((v = (75, nI a, nI b, nI k, (1 : Int32), nI c) ∧ ∀ t, t < c → wTab.getD (8 * k + t) 0 = (if t < (slc l a b).length then (slc l a b).getD t 0 else 32)) ∨ (∃ c2, v = (75, nI a, nI b, nI k, (0 : Int32), nI c2) ∧ ¬ lk (slc l a b) k))) 0
      have go : ∀ d c, c + d = 8 → (∀ t, t < c → wTab.getD (8 * k + t) 0 = (if t < (slc l a b).length then (slc l a b).getD t 0 else 32)) → ∀ f, d < f → ∃ z : Int32, (z = 1 ∧ lk (slc l a b) k ∨ z = 0 ∧ ¬ lk (slc l a b) k) ∧ ∀ k2, loopF (b6_wordFrom_26 k2) (f + 1) (75, nI a, nI b, nI k, (1 : Int32), nI c) w = j6_wordFrom_88 k2 75 (nI a) (nI b) (nI k) z w := by
        intro d
        induction d with
        | zero =>
          intro c hc ht f hf
          refine ⟨1, Or.inl ⟨rfl, by omega, fun t h8 => ht t (by omega)⟩, fun k2 => ?_⟩
          show b6_wordFrom_26 k2 (loopF (b6_wordFrom_26 k2) f) _ w = _
          unfold b6_wordFrom_26
          dsimp only
          rw [if_pos (by rw [show c = 8 by omega]; decide)]
        | succ d ih =>
          intro c hc ht f hf
          obtain ⟨f', rfl⟩ : ∃ f', f = f' + 1 := ⟨f - 1, by omega⟩
          have ew : wi w 89 (8 * k + c) = wTab.getD (8 * k + c) 0 := h.2.2.1 _ (by omega)
          have e8 : (8 : Int32) * nI k + nI c = nI (8 * k + c) := by rw [show (8 : Int32) = nI 8 from rfl, nI_mul, nI_add]
          have body : ∀ k2, loopF (b6_wordFrom_26 k2) (f' + 1 + 1) (75, nI a, nI b, nI k, (1 : Int32), nI c) w = if wTab.getD (8 * k + c) 0 = (if c < (slc l a b).length then (slc l a b).getD c 0 else 32) then loopF (b6_wordFrom_26 k2) (f' + 1) (75, nI a, nI b, nI k, (1 : Int32), nI (c + 1)) w else loopF (b6_wordFrom_26 k2) (f' + 1) (75, nI a, nI b, nI k, (0 : Int32), nI (c + 1)) w := by
            intro k2
            show b6_wordFrom_26 k2 (loopF (b6_wordFrom_26 k2) (f' + 1)) _ w = _
            unfold b6_wordFrom_26 j6_wordFrom_72 j6_wordFrom_80
            dsimp only
            rw [if_neg (show ¬ (8 : Int32) ≤ nI c from nI_ge (b := 8) (by omega) (by omega)), if_neg n10, ck_pos a1.t, a1.r22, a1.l22, e8, ck_pos (And.intro a1.t22 (vin (show 8 * k + c < 96 by omega) (by decide))), nI_clamp (by omega), ew, nI_add, i3_1, slen]
            by_cases hcb : c < b - a
            · have eb := slc_at (l := l) (a := a) hb hcb
              rw [getD_at (by omega)] at eb
              obtain ⟨g1, g2, g3⟩ := h.at80 (q := a + c) (by omega)
              rw [if_neg (by rw [ile, nI_int (by omega), nI_int (by omega)]; omega), a1.r5, ck_pos g1, g2, g3, if_pos hcb, Option.some.inj eb]
            · rw [if_pos (by rw [ile, nI_int (by omega), nI_int (by omega)]; omega), if_neg hcb]
          by_cases he : wTab.getD (8 * k + c) 0 = (if c < (slc l a b).length then (slc l a b).getD c 0 else 32)
          · obtain ⟨z, hz1, hz2⟩ := ih (c + 1) (by omega) (fun t htc => by
              rcases (by omega : t < c ∨ t = c) with q | q
              · exact ht t q
              · rw [q]; exact he) f' (by omega)
            exact ⟨z, hz1, fun k2 => by rw [body, if_pos he, hz2]⟩
          · refine ⟨0, Or.inr ⟨rfl, fun z => he (z.2 c (by omega))⟩, fun k2 => ?_⟩
            rw [body, if_neg he]
            show b6_wordFrom_26 k2 (loopF (b6_wordFrom_26 k2) f') _ w = _
            unfold b6_wordFrom_26
            dsimp only
            rw [if_pos rfl, ite_self]
      obtain ⟨z, hz1, hz2⟩ := go 8 0 rfl (fun t ht => absurd ht (Nat.not_lt_zero t)) 999 (by decide)
      refine ⟨z, hz1, fun k2 => ?_⟩
      rw [if_neg (by rw [ilt, nI_int (by omega), show (8 : Int32).toInt = 8 from rfl]; omega)]
      unfold j6_wordFrom_21
      exact hz2 k2
  unfold f6_wordFrom
  refine loopI (R := fun o => ∃ r, o = some (nI r, w) ∧ ixW (slc l a b) r) (I := fun k v w2 => w2 = w ∧ v = (75, nI a, nI b, nI k) ∧ ∀ j, j < k → slc l a b ≠ wdS (pm j)) 12 ?_ FU 0 _ w (by decide) (by decide) ⟨rfl, rfl, fun j hj => absurd hj (Nat.not_lt_zero j)⟩
  intro k v w2 hk hI
  obtain ⟨rfl, rfl, hn⟩ := hI
  by_cases h12 : k < 12
  · obtain ⟨z, hz1, hz2⟩ := inner k h12
    have body : ∀ k2, b6_wordFrom_2 k2 (75, nI a, nI b, nI k) w2 = j6_wordFrom_88 k2 75 (nI a) (nI b) (nI k) z w2 := by
      intro k2
      unfold b6_wordFrom_2
      dsimp only
      rw [if_neg (show ¬ (12 : Int32) ≤ nI k from nI_ge (b := 12) h12 (by omega)), hz2]
    rcases hz1 with ⟨rfl, hz⟩ | ⟨rfl, hz⟩
    · refine Or.inl fun k2 => ⟨k, ?_, Or.inl ⟨h12, (lk_iff hs h12).mp hz⟩⟩
      rw [body]
      unfold j6_wordFrom_88
      rw [if_neg n10]
    · refine Or.inr ⟨h12, (75, nI a, nI b, nI (k + 1)), w2, ⟨rfl, rfl, fun j hj => ?_⟩, fun k2 => ?_⟩
      · rcases (by omega : j < k ∨ j = k) with q | q
        · exact hn j q
        · rw [q]
          exact fun e => hz ((lk_iff hs h12).mpr e)
      · rw [body]
        unfold j6_wordFrom_88
        rw [if_pos rfl, i3_1]
  · have e : k = 12 := by omega
    subst e
    refine Or.inl fun k2 => ⟨12, ?_, Or.inr ⟨rfl, hn⟩⟩
    unfold b6_wordFrom_2
    dsimp only
    rw [if_pos (by decide)]
    rfl
/-! the reference's names of tokens -/
def cvT (t : Int32) : Int32 := if t ≤ 9999 then 1 else if t ≤ 10005 then 2 else if t = 10010 then 4 else if t = 10011 then 5 else if t = 10012 then 6 else if t = 10014 then 60 else if t = 10015 then 61 else if t = 10016 then 43 else if t = 10017 then 45 else if t = 10018 then 42 else if t = 10020 then 40 else if t = 10021 then 41 else if t = 10022 then 59 else if t = 10030 ∨ t = 10031 ∨ t = 10032 then 3 else -1
def cvV (t : Int32) : Int32 := if t ≤ 9999 then t else if t ≤ 10005 then t - 10000 else t - 10030
def isVK (t : Int32) : Prop := t ≤ 10005 ∨ t = 10030 ∨ t = 10031 ∨ t = 10032
theorem wcode : ∀ k, k < 12 → cvT (tkW (wdS (pm k))) = (if k < 3 then 3 else if k < 9 then 2 else nI (4 + k) - 9) ∧ (k < 9 → cvV (tkW (wdS (pm k))) = if k < 3 then nI k else nI k - 3) ∧ (9 ≤ k → ¬ tkW (wdS (pm k)) ≤ 10005 ∧ tkW (wdS (pm k)) ≠ 10030 ∧ tkW (wdS (pm k)) ≠ 10031 ∧ tkW (wdS (pm k)) ≠ 10032) := by decide
theorem wnone {s : List Int32} (h : ∀ k, k < 12 → s ≠ wdS (pm k)) : tkW s = 10041 := by
  have q := fun j (k : Nat) (hk : k < 12) (e : pm k = j) => (e ▸ h k hk : s ≠ wdS j)
  rw [tkW_eq, if_neg (q 0 0 (by decide) (by decide)), if_neg (q 1 1 (by decide) (by decide)), if_neg (q 2 2 (by decide) (by decide)), if_neg (q 3 9 (by decide) (by decide)), if_neg (q 4 10 (by decide) (by decide)), if_neg (q 5 11 (by decide) (by decide)), if_neg (q 6 3 (by decide) (by decide)), if_neg (q 7 4 (by decide) (by decide)), if_neg (q 8 5 (by decide) (by decide)), if_neg (q 9 6 (by decide) (by decide)), if_neg (q 10 7 (by decide) (by decide)), if_neg (q 11 8 (by decide) (by decide))]
