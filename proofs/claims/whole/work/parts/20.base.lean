/-! plain facts for the pure part -/
theorem tg_eq {w : Wd} {q t n : Nat} (h : sh w q = (t, n)) : tg w q = t := by unfold tg; rw [h]
theorem ln_eq {w : Wd} {q t n : Nat} (h : sh w q = (t, n)) : ln w q = n := by unfold ln; rw [h]
theorem tg_sI (w : Wd) (q k : Nat) (v : Int32) (a : Nat) : tg (sI w q k v) a = tg w a := rfl
theorem tg_sR (w : Wd) (q k : Nat) (v : Nat) (a : Nat) : tg (sR w q k v) a = tg w a := rfl
theorem ln_sI (w : Wd) (q k : Nat) (v : Int32) (a : Nat) : ln (sI w q k v) a = ln w a := rfl
theorem ln_sR (w : Wd) (q k : Nat) (v : Nat) (a : Nat) : ln (sR w q k v) a = ln w a := rfl
/-- a loop: an invariant by a count, ended by a result or at the count's end -/
theorem loopI {σ α : Type} {B : (σ → Wd → Option α) → σ → Wd → Option α} (R : Option α → Prop) (I : Nat → σ → Wd → Prop) (m : Nat)
    (h : ∀ i v w, i ≤ m → I i v w → (∀ k, R (B k v w)) ∨ (i < m ∧ ∃ v' w', I (i + 1) v' w' ∧ ∀ k, B k v w = k v' w')) :
    ∀ (n i : Nat) (v : σ) (w : Wd), m < n + i → i ≤ m → I i v w → R (loopF B n v w) := by
  intro n
  induction n with
  | zero => intro i v w h1 h2; omega
  | succ n ih =>
    intro i v w h1 h2 hI
    show R (B (loopF B n) v w)
    rcases h i v w h2 hI with h3 | ⟨h3, v', w', h4, h5⟩
    · exact h3 _
    · rw [h5]
      exact ih (i + 1) v' w' (by omega) (by omega) h4
/-- a loop that runs to its end -/
theorem loopE {σ α : Type} {B : (σ → Wd → Option α) → σ → Wd → Option α} (R : Option α → Prop) (I : Nat → σ → Wd → Prop) (m : Nat)
    (hs : ∀ i v w, i < m → I i v w → ∃ v' w', I (i + 1) v' w' ∧ ∀ k, B k v w = k v' w') (he : ∀ v w, I m v w → ∀ k, R (B k v w)) :
    ∀ (n : Nat) (v : σ) (w : Wd), m < n → I 0 v w → R (loopF B n v w) := fun n v w h1 h2 =>
  loopI R I m (fun i v w hi hI => by
    rcases Nat.lt_or_eq_of_le hi with h | h
    · exact Or.inr ⟨h, hs i v w h hI⟩
    · subst h; exact Or.inl (he v w hI)) n 0 v w (by omega) (Nat.zero_le m) h2
theorem b01 {p : Prop} [Decidable p] : ((if p then (1 : Int32) else 0) = 0) ↔ ¬ p := by
  by_cases h : p <;> simp [h]
theorem b01' {p : Prop} [Decidable p] : ((if p then (0 : Int32) else 1) = 0) ↔ p := by
  by_cases h : p <;> simp [h]
theorem nI_mul (a b : Nat) : nI a * nI b = nI (a * b) := by
  unfold nI
  exact (Int32.ofNat_mul a b).symm
theorem nI_lit (n : Nat) : nI n = Int32.ofNat n := rfl
theorem nI_clampS {n : Nat} (h : n < 2 ^ 31) : (nI n).toNatClampNeg = n := nI_clamp h
theorem i3 (b : Nat) : (3 : Int32) * nI b = nI (3 * b) := by rw [← nI_mul]; rfl
theorem i3_1 (b : Nat) : nI b + 1 = nI (b + 1) := nI_1 b
theorem i3_2 (b : Nat) : nI b + 2 = nI (b + 2) := by rw [← nI_add]; rfl
theorem vin {i n : Nat} (h : i < n) (hn : n < 2 ^ 31) : vp_in (nI i) n := vp_in_nI h hn
/-- int order, by whole numbers -/
theorem ile {a b : Int32} : a ≤ b ↔ a.toInt ≤ b.toInt := Int32.le_iff_toInt_le
theorem ilt {a b : Int32} : a < b ↔ a.toInt < b.toInt := Int32.lt_iff_toInt_lt
theorem ieq {a b : Int32} : a = b ↔ a.toInt = b.toInt := Int32.toInt_inj.symm
theorem irange (a : Int32) : -2147483648 ≤ a.toInt ∧ a.toInt ≤ 2147483647 := ⟨Int32.le_toInt a, Int32.toInt_le a⟩
theorem iadd {a b : Int32} (h1 : -2147483648 ≤ a.toInt + b.toInt) (h2 : a.toInt + b.toInt ≤ 2147483647) : (a + b).toInt = a.toInt + b.toInt := by
  rw [Int32.toInt_add]
  exact Int.bmod_eq_of_le (by simpa using h1) (by have := h2; simp; omega)
theorem isub {a b : Int32} (h1 : -2147483648 ≤ a.toInt - b.toInt) (h2 : a.toInt - b.toInt ≤ 2147483647) : (a - b).toInt = a.toInt - b.toInt := by
  rw [Int32.toInt_sub]
  exact Int.bmod_eq_of_le (by simpa using h1) (by have := h2; simp; omega)
/-- bounded, as the reference writes it -/
def bnd (v lo hi : Int32) : Int32 := if v < lo then lo else if hi < v then hi else v
theorem bnd_cls {v lo hi : Int32} (h : lo ≤ hi) : (if lo < (if v < hi then v else hi) then (if v < hi then v else hi) else lo) = bnd v lo hi := by
  unfold bnd
  rw [ile] at h
  simp only [ilt]
  split <;> split <;> split <;> try split
  all_goals first | rfl | (apply Int32.toInt_inj.mp; omega) | omega | skip
theorem bnd_ge {v lo hi : Int32} (h : lo ≤ hi) : lo ≤ bnd v lo hi ∧ bnd v lo hi ≤ hi := by
  unfold bnd
  simp only [ilt, ile] at h ⊢
  split
  · omega
  · split
    · omega
    · omega
