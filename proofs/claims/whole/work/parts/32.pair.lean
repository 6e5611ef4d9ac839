/-! what one call of each side must do -/
def CC {A : Type} (f : Wd → Option (A × Wd)) (S : SS) (r : A × SS) : Prop := ∀ w, RC S w → ∃ w', f w = some (r.1, w') ∧ RC r.2 w' ∧ OffM w w'
def CM {A : Type} (f : Wd → Option (A × Wd)) (S : SS) (r : A × SS) : Prop := ∀ w, RM S w → ∃ w', f w = some (r.1, w') ∧ RM r.2 w' ∧ OffC w w'
/-- the reference's words: nobody writes them -/
def wTab : List Int32 := [102, 101, 101, 108, 115, 32, 32, 32, 98, 101, 97, 114, 115, 32, 32, 32, 103, 108, 97, 100, 32, 32, 32, 32, 115, 116, 111, 110, 101, 115, 32, 32, 115, 116, 101, 97, 109, 32, 32, 32, 98, 101, 110, 99, 104, 32, 32, 32, 109, 105, 110, 117, 116, 101, 32, 32, 119, 97, 114, 109, 32, 32, 32, 32, 109, 111, 114, 101, 32, 32, 32, 32, 111, 114, 32, 32, 32, 32, 32, 32, 97, 110, 100, 32, 32, 32, 32, 32, 110, 111, 116, 32, 32, 32, 32, 32]
def W89 (w : Wd) : Prop := ∀ k, k < 96 → wi w 89 k = wTab.getD k 0
theorem W89.m {w w' : Wd} (h : W89 w) (hO : OffM w w') : W89 w' := fun k hk => by rw [(hO 89 (by decide) (by decide)).2.1]; exact h k hk
theorem W89.c {w w' : Wd} (h : W89 w) (hO : OffC w w') : W89 w' := fun k hk => by rw [(hO.2 89 (by decide)).2.1]; exact h k hk
def Pair {A : Type} (f g : Wd → Option (A × Wd)) : Prop := ∀ S w, SI S → RC S w → RM S w → W89 w → ∃ a w1 w2 S', f w = some (a, w1) ∧ g w1 = some (a, w2) ∧ SI S' ∧ RC S' w2 ∧ RM S' w2 ∧ W89 w2 ∧ tg w1 75 = 6
def CMW {A : Type} (f : Wd → Option (A × Wd)) (S : SS) (r : A × SS) : Prop := ∀ w, RM S w → W89 w → ∃ w', f w = some (r.1, w') ∧ RM r.2 w' ∧ OffC w w'
theorem pair_ofW {A : Type} {f g : Wd → Option (A × Wd)} (h : ∀ S, SI S → ∃ r, CC f S r ∧ CMW g S r ∧ SI r.2) : Pair f g := by
  intro S w hS hC hM hW
  obtain ⟨r, h1, h2, h3⟩ := h S hS
  obtain ⟨w1, a1, a2, a3⟩ := h1 w hC
  obtain ⟨w2, b1, b2, b3⟩ := h2 w1 (hM.keep a3) (hW.m a3)
  exact ⟨r.1, w1, w2, r.2, a1, b1, h3, a2.keep b3, b2, (hW.m a3).c b3, (hM.keep a3).1.1.t⟩
theorem pair_of {A : Type} {f g : Wd → Option (A × Wd)} (h : ∀ S, SI S → ∃ r, CC f S r ∧ CM g S r ∧ SI r.2) : Pair f g :=
  pair_ofW fun S hS => by
    obtain ⟨r, h1, h2, h3⟩ := h S hS
    exact ⟨r, h1, fun w hM _ => h2 w hM, h3⟩
/-- what a call of the class may write besides its own hut -/
def JC (q : Nat) : Prop := (50 ≤ q ∧ q < 58) ∨ q = 40 ∨ (96 ≤ q ∧ q % 3 = 0)
def NC (q : Nat) : Prop := (42 ≤ q ∧ q < 50) ∨ JC q
theorem JC.nc {q : Nat} (h : JC q) : NC q := Or.inr h
theorem NC.m {q : Nat} (h1 : 75 ≤ q) (h2 : q < 94) : ¬ NC q := by unfold NC JC; omega
theorem ncM {w w' : Wd} (h : Fr NC w w') : OffM w w' := h.offM fun _ a b => NC.m a b
theorem jcM {w w' : Wd} (h : Fr JC w w') : OffM w w' := ncM (h.mono fun _ => JC.nc)
theorem txNC (t : Nat) : ¬ NC (txL t) ∧ ¬ NC (txL t + 1) ∧ JC (txL t + 2) := by
  unfold NC JC txL
  split <;> omega
theorem TxtAt.nc {w w' : Wd} {t : Nat} {F B G : List Int32} (h : TxtAt w (txL t) F B G) (h1 : wr w (txL t) 1 = txL t + 1) (hF : Fr NC w w') : TxtAt w' (txL t) F B G :=
  h.fr hF (txNC t).1 (by rw [h1]; exact (txNC t).2.1)
theorem HutC.lay {w : Wd} {a many : Nat} {s : HS} {F B G : List Int32} (h : HutC w a many s F B G) : HutS w a := ⟨h.1, h.2.1, h.2.2.1, h.2.2.2.1⟩
theorem HutA.nc {w w' : Wd} {a : Nat} {c : CO} {T : List PG} (h : HutA w a c T) (hT : TextsC w T) (hF : Fr NC w w') (ha : ∀ q, a ≤ q → q < a + 8 → ¬ NC q) : HutA w' a c T := by
  obtain ⟨h1, h2, h3⟩ := h
  obtain ⟨t1, t2, t3, t4, t5⟩ := hT.2.2 c.2.2 h3
  refine ⟨(h1.fr hF ha (by rw [h2]; exact (txNC _).1) (by rw [h2, t4]; exact (txNC _).2.1)).1, ?_, h3⟩
  rw [(hF.2.2 a (ha a (Nat.le_refl _) (by omega))).2]
  exact h2
theorem TextsC.nc {w w' : Wd} {T : List PG} (h : TextsC w T) (hF : Fr NC w w') : TextsC w' T := by
  have g : ∀ q, ¬ NC q → (∀ k, wi w' q k = wi w q k) ∧ ∀ k, wr w' q k = wr w q k := hF.2.2
  refine ⟨by rw [(g 32 (by unfold NC JC; omega)).1]; exact h.1, by rw [hF.2.1]; exact h.2.1, fun t ht => ?_⟩
  obtain ⟨u1, u2, u3, u4, u5⟩ := h.2.2 t ht
  have e := g (txL t) (txNC t).1
  exact ⟨by rw [(g 41 (by unfold NC JC; omega)).2]; exact u1, by rw [e.1]; exact u2, u3.nc u4 hF, by rw [e.2]; exact u4, by rw [e.2]; exact u5⟩
/-- only the hut was changed -/
theorem RC.upd {S : SS} {w w' : Wd} {c' : CO} (h : RC S w) (hF : Fr NC w w') (hA : HutA w' 42 c' S.2.1) (h5 : HutS w' 50) : RC (c', S.2) w' := by
  obtain ⟨⟨⟨l1, l2, l3, l4, l5, l6, l7⟩, ⟨m1, m2, m3, m4, m5, m6, m7, m8, m9⟩, ⟨n1, n2⟩, ⟨h1, h2, h3⟩, s1⟩, a1, t1, ⟨p1, p2⟩, ⟨i1, i2⟩, c1⟩ := h
  have g : ∀ q, ¬ NC q → sh w' q = sh w q ∧ (∀ k, wi w' q k = wi w q k) ∧ ∀ k, wr w' q k = wr w q k := fun q hq => ⟨hF.1 q, hF.2.2 q hq⟩
  have n58 : ∀ q, 58 ≤ q → q < 58 + 8 → ¬ NC q := fun q a b => by unfold NC JC; omega
  have n67 : ∀ s, s < 4 → ¬ NC (67 + 2 * s) ∧ ¬ NC (68 + 2 * s) := fun s hs => by unfold NC JC; omega
  have hs : HutS w' 58 := by
    obtain ⟨x1, x2, x3, x4⟩ := h3
    exact ⟨by rw [hF.1]; exact x1, by rw [(g 58 (n58 58 (by omega) (by omega))).2.2]; exact x2, by rw [hF.1]; exact x3, fun b hb => ⟨by rw [(g 59 (n58 59 (by omega) (by omega))).2.2]; exact (x4 b hb).1, by rw [hF.1]; exact (x4 b hb).2⟩⟩
  refine ⟨⟨?_, ?_, ?_, ⟨hA.1.lay, h5, hs⟩, fun s hs => ?_⟩, hA, t1.nc hF, ?_, ⟨?_, fun c hc => (i2 c hc).nc t1 hF n58⟩, fun s hs => ?_⟩
  · have e := g 32 (by unfold NC JC; omega)
    rw [e.1, e.2.2, e.2.2, e.2.2, e.2.2, e.2.2, e.2.2]
    exact ⟨l1, l2, l3, l4, l5, l6, l7⟩
  · have e := g 33 (by unfold NC JC; omega)
    rw [e.1, e.2.2, e.2.2, e.2.2, e.2.2, hF.1, hF.1, hF.1, hF.1]
    exact ⟨m1, m2, m3, m4, m5, m6, m7, m8, m9⟩
  · rw [hF.1, hF.1]
    exact ⟨n1, n2⟩
  · rw [(g 66 (by unfold NC JC; omega)).2.2, hF.1, (g _ (n67 s hs).1).2.2, hF.1]
    exact s1 s hs
  · exact ⟨by rw [(g 33 (by unfold NC JC; omega)).2.1]; exact p1, fun j b hb => by rw [(g 34 (by unfold NC JC; omega)).2.1]; exact p2 j b hb⟩
  · rw [(g 32 (by unfold NC JC; omega)).2.1]; exact i1
  · have e := g _ (n67 s hs).1
    exact ⟨by rw [e.2.1]; exact (c1 s hs).1, by rw [e.2.1]; exact (c1 s hs).2.1, fun k x hx => by rw [(g _ (n67 s hs).2).2.1]; exact (c1 s hs).2.2 k x hx⟩
/-- in thought -/
def TC (S : SS) (c : CO) (w : Wd) : Prop := RC S w ∧ HutA w 50 c S.2.1
theorem RC.junk {S : SS} {w w' : Wd} (h : RC S w) (hF : Fr JC w w') (h5 : HutS w' 50) : RC S w' := by
  have hN := hF.mono fun _ => JC.nc
  have hh := id h
  obtain ⟨a0, a1, t1, a2⟩ := hh
  have t' := t1.2.2 S.1.2.2 a1.2.2
  refine h.upd hN ⟨(a1.1.fr hF (fun q a b => by unfold JC; omega) ?_ ?_).1, ?_, a1.2.2⟩ h5
  · rw [a1.2.1]; exact fun z => (txNC _).1 z.nc
  · rw [a1.2.1, t'.2.2.2.1]; exact fun z => (txNC _).2.1 z.nc
  · rw [(hF.2.2 42 (by unfold JC; omega)).2]; exact a1.2.1
theorem TC.upd {S : SS} {c c' : CO} {w w' : Wd} (h : TC S c w) (hF : Fr JC w w') (hA : HutA w' 50 c' S.2.1) : TC S c' w' := ⟨h.1.junk hF hA.1.lay, hA⟩
theorem RC.think {S : SS} {w : Wd} (h : RC S w) : ∃ w', f5_think 32 w = some ((), w') ∧ TC S S.1 w' ∧ Fr JC w w' := by
  have hh := id h
  obtain ⟨⟨⟨l1, l2, l3, l4, l5, l6, l7⟩, m1, n1, ⟨h1, h2, h3⟩, s1⟩, a1, t1, a2⟩ := hh
  have t' := t1.2.2 S.1.2.2 a1.2.2
  obtain ⟨w', b1, b2, b3, b4⟩ := hut_cls (a := 50) (c := 42) h2 a1.1 (by omega) (by rw [a1.2.1]; intro z; exact (txNC S.1.2.2).1 (Or.inr (Or.inl z))) (by rw [a1.2.1, t'.2.2.2.1]; intro z; exact (txNC S.1.2.2).2.1 (Or.inr (Or.inl z)))
  have hF : Fr JC w w' := b2.mono fun q z => Or.inl z
  refine ⟨w', ?_, ⟨h.junk hF b3.lay, b3, by rw [b4]; exact a1.2.1, a1.2.2⟩, hF⟩
  unfold f5_think
  rw [ck_pos (tg_eq l1), l5, l4, ck_pos (tg_eq h2.1), b1]
  rfl
