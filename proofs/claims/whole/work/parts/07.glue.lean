/-! what the printed walks stand on -/
abbrev rtI : Int32 → Option AV := fun x => some (vI x)
abbrev rtJ : Int64 → Option AV := fun x => some (vJ x)
abbrev rtR : Nat → Option AV := fun x => some (vR x)
abbrev rtV : Unit → Option AV := fun _ => none
abbrev FU : Nat := 1000
def lw {α : Type} (w : Wd) (f : Wd → Option α) : Option α := f w
def tg (w : Wd) (q : Nat) : Nat := (sh w q).1
def ln (w : Wd) (q : Nat) : Nat := (sh w q).2
def isB (x : Int32) : Prop := x = 0 ∨ x = 1
theorem isB_nar {x : Int32} (h : isB x) : narrow .boolean (.int x) = .int x := by
  rcases h with rfl | rfl <;> rfl
theorem shE {w : Wd} {q t : Nat} (h : tg w q = t) : sh w q = (t, ln w q) := by
  rw [← h]
  rfl
theorem shL {w : Wd} {q t n : Nat} (h : sh w q = (t, n)) : sh w q = (t, ln w q) := by
  unfold ln
  rw [h]
theorem shI {w w1 : Wd} {q k : Nat} {v : Int32} {a : Nat} {x : Nat × Nat} (e : w1 = sI w q k v) (h : sh w a = x) : sh w1 a = x := by rw [e]; exact h
theorem shR {w w1 : Wd} {q k : Nat} {v : Nat} {a : Nat} {x : Nat × Nat} (e : w1 = sR w q k v) (h : sh w a = x) : sh w1 a = x := by rw [e]; exact h
theorem shC {w w1 : Wd} {q1 sp q2 dp n : Nat} {a : Nat} {x : Nat × Nat} (e : w1 = wC w q1 sp q2 dp n) (h : sh w a = x) : sh w1 a = x := by rw [e]; exact h
theorem shN {w w1 : Wd} {t n : Nat} (e : w1 = wN w t n) : sh w1 (nx w) = (t, n) := by rw [e]; exact if_pos rfl
theorem shX {w w1 : Wd} {t n : Nat} (hn : ∀ q, (sh w q).1 ≠ 99 → q ≠ nx w) (e : w1 = wN w t n) {a t' m : Nat} (h : sh w a = (t', m)) (ht : t' ≠ 99) : sh w1 a = (t', m) := by
  rw [e]
  exact (if_neg (hn a (by rw [h]; exact ht))).trans h
theorem sB {q : Nat} (h : 2 ≤ q ∧ q < 15) : 17 ≤ q + 15 ∧ q + 15 < 30 := by omega
theorem tneq {x v : Int32} {t : Int} (h : ¬ x = v) (hv : v.toInt = t) : ¬ x.toInt = t := fun e => h (Int32.toInt_inj.mp (e.trans hv.symm))
def loopF {σ α : Type} (B : (σ → Wd → Option α) → σ → Wd → Option α) : Nat → σ → Wd → Option α
  | 0 => fun _ _ => none
  | n + 1 => B (loopF B n)
section RULES
variable {ρ : Type} {rt : ρ → Option AV} {X : CX} {M : MX} {cells slots pc : Nat} {E : Option (ρ × Wd)} {ls : List (Nat × AV)} {st : List AV} {w : Wd}
theorem WPe_lw {f : Wd → Option (ρ × Wd)} (k : ∀ w1, w1 = w → WPe rt X M cells slots (f w1) pc ls st w1) : WPe rt X M cells slots (lw w f) pc ls st w := k w rfl
theorem WPe_st {st2 : List AV} (h : st = st2) (k : WPe rt X M cells slots E pc ls st2 w) : WPe rt X M cells slots E pc ls st w := h ▸ k
theorem WPe_wide {k k2 : Nat} (h1 : cells ≤ k) (h2 : slots ≤ k2) (kk : WPe rt X M k k2 E pc ls st w) : WPe rt X M cells slots E pc ls st w := by
  obtain ⟨p, l, e, s, m, args, below, meth, c, g⟩ := X
  obtain ⟨R, d, mc, ms, w0⟩ := M
  intro hG H locs lsA hR hx hb hl r w' hE
  exact W.widen h1 h2 (kk hG H locs lsA hR hx hb hl r w' hE)
theorem WPe_nx (k : (∀ q, (sh w q).1 ≠ 99 → q ≠ nx w) → WPe rt X M cells slots E pc ls st w) : WPe rt X M cells slots E pc ls st w := by
  obtain ⟨p, l, e, s, m, args, below, meth, c, g⟩ := X
  obtain ⟨R, d, mc, ms, w0⟩ := M
  intro hG H locs lsA hR hx hb hl r w' hE
  exact k (nx_ne hR) hG H locs lsA hR hx hb hl r w' hE
theorem WPe_pos {q t n : Nat} (h : sh w q = (t, n)) (ht : t ≠ 99) (k : q ≠ 0 → WPe rt X M cells slots E pc ls st w) : WPe rt X M cells slots E pc ls st w := by
  obtain ⟨p, l, e, s, m, args, below, meth, c, g⟩ := X
  obtain ⟨R, d, mc, ms, w0⟩ := M
  intro hG H locs lsA hR hx hb hl r w' hE
  have h1 := (hR.cell (q := q) (by rw [h]; exact ht)).1
  exact k (by omega) hG H locs lsA hR hx hb hl r w' hE
theorem WPe_loop {σ : Type} {B : (σ → Wd → Option (ρ × Wd)) → σ → Wd → Option (ρ × Wd)} (mk : σ → List (Nat × AV)) (h : ∀ k : σ → Wd → Option (ρ × Wd), (∀ (v : σ) (w : Wd), WPe rt X M cells slots (k v w) pc (mk v) [] w) → ∀ (v : σ) (w : Wd), WPe rt X M cells slots (B k v w) pc (mk v) [] w) : ∀ (n : Nat) (v : σ) (w : Wd), WPe rt X M cells slots (loopF B n v w) pc (mk v) [] w := by
  intro n
  induction n with
  | zero => exact fun _ _ => WPe_none
  | succ n ih => exact h _ ih
theorem WPe_loopC {σ : Type} {B : (σ → Wd → Option (ρ × Wd)) → σ → Wd → Option (ρ × Wd)} {dc ds mc ms : Nat} (mk : σ → List (Nat × AV)) (h : ∀ (k : σ → Wd → Option (ρ × Wd)) (n : Nat), (∀ c s, c + n * dc ≤ mc → s + n * ds ≤ ms → ∀ (v : σ) (w : Wd), WPe rt X M c s (k v w) pc (mk v) [] w) → ∀ c s, c + (n + 1) * dc ≤ mc → s + (n + 1) * ds ≤ ms → ∀ (v : σ) (w : Wd), WPe rt X M c s (B k v w) pc (mk v) [] w) : ∀ (n c s : Nat), c + n * dc ≤ mc → s + n * ds ≤ ms → ∀ (v : σ) (w : Wd), WPe rt X M c s (loopF B n v w) pc (mk v) [] w := by
  intro n
  induction n with
  | zero => exact fun _ _ _ _ _ _ => WPe_none
  | succ n ih => exact h _ n ih
end RULES
/-! words of members that are called by special rules -/
theorem oi1 : Cond.instanceMethod Lib.objectInit ∈ BW := bw_mem1 21 rfl rfl
theorem oi2 : Cond.code Lib.objectInit ⟨#[0xb1]⟩ 1 none ∈ BW := bw_mem1 22 rfl rfl
theorem mmmax1 : Cond.static Lib.Math.max.name ∈ BW := bw_mem2 213 rfl rfl
theorem mmmin1 : Cond.static Lib.Math.min.name ∈ BW := bw_mem1 237 rfl rfl
theorem mm2 : Cond.initialized "java/lang/Math" ∈ BW := bw_mem1 9 rfl rfl
theorem mmmax3 : Cond.code Lib.Math.max.name Lib.Math.max.code 2 (some .int) ∈ BW := bw_mem2 214 rfl rfl
theorem mmmin3 : Cond.code Lib.Math.min.name Lib.Math.min.code 2 (some .int) ∈ BW := bw_mem1 238 rfl rfl
theorem ac2 : Cond.native arraycopyName ∈ BW := bw_mem2 1 rfl rfl
theorem ac3 : Cond.static arraycopyName ∈ BW := bw_mem2 0 rfl rfl
theorem ac4 : Cond.initialized "java/lang/System" ∈ BW := bw_mem1 10 rfl rfl
theorem nk0 : ∀ k, k < 5 → (isRf (fty 0 k) = true ∧ defaultValue (fty 0 k) = .null) ∨ (isRf (fty 0 k) = false ∧ defaultValue (fty 0 k) = .int 0) := by decide +kernel
theorem nk1 : ∀ k, k < 7 → (isRf (fty 1 k) = true ∧ defaultValue (fty 1 k) = .null) ∨ (isRf (fty 1 k) = false ∧ defaultValue (fty 1 k) = .int 0) := by decide +kernel
theorem nk2 : ∀ k, k < 3 → (isRf (fty 2 k) = true ∧ defaultValue (fty 2 k) = .null) ∨ (isRf (fty 2 k) = false ∧ defaultValue (fty 2 k) = .int 0) := by decide +kernel
theorem nk3 : ∀ k, k < 10 → (isRf (fty 3 k) = true ∧ defaultValue (fty 3 k) = .null) ∨ (isRf (fty 3 k) = false ∧ defaultValue (fty 3 k) = .int 0) := by decide +kernel
theorem nk4 : ∀ k, k < 5 → (isRf (fty 4 k) = true ∧ defaultValue (fty 4 k) = .null) ∨ (isRf (fty 4 k) = false ∧ defaultValue (fty 4 k) = .int 0) := by decide +kernel
theorem nk5 : ∀ k, k < 8 → (isRf (fty 5 k) = true ∧ defaultValue (fty 5 k) = .null) ∨ (isRf (fty 5 k) = false ∧ defaultValue (fty 5 k) = .int 0) := by decide +kernel
theorem nk6 : ∀ k, k < 32 → (isRf (fty 6 k) = true ∧ defaultValue (fty 6 k) = .null) ∨ (isRf (fty 6 k) = false ∧ defaultValue (fty 6 k) = .int 0) := by decide +kernel
