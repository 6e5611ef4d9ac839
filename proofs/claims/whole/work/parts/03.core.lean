/-! THE ABSTRACT MACHINE: labels for cells, typed stores, a judgement WPe that carries the pure value of a method -/
abbrev AV : Type := Int32 ⊕ Int64 ⊕ Nat
abbrev vI (x : Int32) : AV := Sum.inl x
abbrev vJ (x : Int64) : AV := Sum.inr (Sum.inl x)
abbrev vR (q : Nat) : AV := Sum.inr (Sum.inr q)
def ct : AV → Nat
  | .inr (.inl _) => 2
  | _ => 1
abbrev Wd : Type := (Nat → Nat × Nat) × (Nat → Nat → Int32) × (Nat → Nat → Nat) × Nat
def sh (w : Wd) (q : Nat) : Nat × Nat := w.1 q
def wi (w : Wd) (q k : Nat) : Int32 := w.2.1 q k
def wr (w : Wd) (q k : Nat) : Nat := w.2.2.1 q k
def nx (w : Wd) : Nat := w.2.2.2
def sI (w : Wd) (q k : Nat) (v : Int32) : Wd := (w.1, (fun a b => if a = q ∧ b = k then v else w.2.1 a b), w.2.2)
def sR (w : Wd) (q k : Nat) (v : Nat) : Wd := (w.1, w.2.1, (fun a b => if a = q ∧ b = k then v else w.2.2.1 a b), w.2.2.2)
def wN (w : Wd) (t n : Nat) : Wd := ((fun a => if a = nx w then (t, n) else w.1 a), (fun a b => if a = nx w then 0 else w.2.1 a b), (fun a b => if a = nx w then 0 else w.2.2.1 a b), nx w + 1)
/-- n numbers of row f from place sp on come to row g's place dp -/
def wC (w : Wd) (q1 sp q2 dp n : Nat) : Wd := (w.1, (fun a b => if a = q2 ∧ dp ≤ b ∧ b < dp + n then w.2.1 q1 (sp + (b - dp)) else w.2.1 a b), w.2.2)
def Ext (w w' : Wd) : Prop := ∀ q, (sh w q).1 ≠ 99 → sh w' q = sh w q
theorem Ext.rf {w : Wd} : Ext w w := fun _ _ => rfl
theorem Ext.tr {a b c : Wd} (h1 : Ext a b) (h2 : Ext b c) : Ext a c := fun q h => by
  have h3 := h1 q h
  rw [h2 q (by rw [h3]; exact h), h3]
theorem Ext.at {a b : Wd} (h : Ext a b) {q t n : Nat} (h1 : sh a q = (t, n)) (ht : t ≠ 99) : sh b q = (t, n) := by
  rw [h q (by rw [h1]; exact ht), h1]
/-- ghosts: class numbers, slots, row classes, the first new cell, the old cells' addresses, the heap at first, the script -/
abbrev Gh : Type := (Nat → ClassId) × (Nat → Nat → Nat) × (Nat → ClassId) × Nat × (Nat → Nat) × Heap × Nat × (Nat → Int32)
def gC (g : Gh) : Nat → ClassId := g.1
def gI (g : Gh) : Nat → Nat → Nat := g.2.1
def gA (g : Gh) : Nat → ClassId := g.2.2.1
def gB (g : Gh) : Nat := g.2.2.2.1
def gS (g : Gh) : Nat → Nat := g.2.2.2.2.1
def gH (g : Gh) : Heap := g.2.2.2.2.2.1
def gL (g : Gh) : Nat := g.2.2.2.2.2.2.1
def gX (g : Gh) : Nat → Int32 := g.2.2.2.2.2.2.2
def ad (g : Gh) (q : Nat) : Nat := if q < 32 then gS g q else gB g + (q - 32)
def rv (g : Gh) (q : Nat) : Value := if q = 0 then .null else .ref (ad g q)
def cv (g : Gh) : AV → Value
  | .inl x => .int x
  | .inr (.inl x) => .long x
  | .inr (.inr q) => rv g q
theorem rv_ref {g : Gh} {q : Nat} (h : q ≠ 0) : rv g q = .ref (ad g q) := if_neg h
theorem rv_cat (g : Gh) (q : Nat) : (rv g q).category = 1 := by
  unfold rv
  split <;> rfl
theorem cv_cat (g : Gh) (v : AV) : (cv g v).category = ct v := by
  rcases v with x | x | q
  · rfl
  · rfl
  · exact rv_cat g q
theorem ad_inj {g : Gh} {a b : Nat} (ha : 32 ≤ a) (hb : 32 ≤ b) (h : ad g a = ad g b) : a = b := by
  unfold ad at h
  rw [if_neg (by omega), if_neg (by omega)] at h
  omega
theorem ad_base {g : Gh} {a : Nat} (ha : 32 ≤ a) : gB g ≤ ad g a := by
  unfold ad
  rw [if_neg (by omega)]
  omega
theorem ad_succ {g : Gh} {a : Nat} (ha : 32 ≤ a) : ad g (a + 1) = ad g a + 1 := by
  unfold ad
  rw [if_neg (by omega), if_neg (by omega)]
  omega
theorem ad_lt {g : Gh} {a b : Nat} (ha : 32 ≤ a) (h : a < b) : ad g a < ad g b := by
  unfold ad
  rw [if_neg (by omega), if_neg (by omega)]
  omega
/-- is field k of an object of class t a reference -/
def isRf (ty : FieldType) : Bool := match ty with
  | .object _ => true
  | .array _ => true
  | _ => false
def fty (t : Nat) : Nat → FieldType := match t with
  | 0 => tyX0
  | 1 => tyX1
  | 2 => tyX2
  | 3 => tyX3
  | 4 => tyX4
  | 5 => tyX5
  | _ => tyX6
def fV (g : Gh) (w : Wd) (t q k : Nat) : Value := if isRf (fty t k) then rv g (wr w q k) else .int (wi w q k)
def rcl (t : Nat) : String := match t with
  | 21 => RX4
  | 22 => RX0
  | _ => RX2
def cellOk (g : Gh) (w : Wd) (H : Heap) (q : Nat) : Prop :=
  if (sh w q).1 < 7 then ∃ r, am_cl[(sh w q).1]? = some r ∧ t_OB (ad g q) (gC g (sh w q).1) r.2.2 (gI g (sh w q).1) H (fV g w (sh w q).1 q)
  else if (sh w q).1 = 20 then H[ad g q]? = some (arrV (gA g 20) (sh w q).2 (fun j => .int (wi w q j)))
  else if (sh w q).1 < 24 then H[ad g q]? = some (arrV (gA g (sh w q).1) (sh w q).2 (fun j => rv g (wr w q j)))
  else True
def Rel (g : Gh) (w : Wd) (H : Heap) : Prop := H.size = ad g (nx w) ∧ 32 ≤ nx w ∧ (∀ q : Nat, q < gB g → H[q]? = (gH g)[q]?) ∧ ∀ q, (sh w q).1 ≠ 99 → 32 ≤ q ∧ q < nx w ∧ cellOk g w H q
/-- the String constants, by their places -/
def sTab : List (String × Nat × String × List Int32) := [("SteamOnBench", 16, "feels 1 + bench + steam ; bears 60 ; glad steam - 2 ;", [102, 101, 101, 108, 115, 32, 49, 32, 43, 32, 98, 101, 110, 99, 104, 32, 43, 32, 115, 116, 101, 97, 109, 32, 59, 32, 98, 101, 97, 114, 115, 32, 54, 48, 32, 59, 32, 103, 108, 97, 100, 32, 115, 116, 101, 97, 109, 32, 45, 32, 50, 32, 59]), ("SteamOnBench$Tape", 104, "feels", [102, 101, 101, 108, 115]), ("SteamOnBench$Tape", 110, "bears", [98, 101, 97, 114, 115]), ("SteamOnBench$Tape", 112, "glad", [103, 108, 97, 100]), ("SteamOnBench$Tape", 114, "or", [111, 114]), ("SteamOnBench$Tape", 116, "and", [97, 110, 100]), ("SteamOnBench$Tape", 118, "not", [110, 111, 116]), ("SteamOnBench$Tape", 120, "stones", [115, 116, 111, 110, 101, 115]), ("SteamOnBench$Tape", 122, "steam", [115, 116, 101, 97, 109]), ("SteamOnBench$Tape", 124, "bench", [98, 101, 110, 99, 104]), ("SteamOnBench$Tape", 126, "minute", [109, 105, 110, 117, 116, 101]), ("SteamOnBench$Tape", 128, "warm", [119, 97, 114, 109]), ("SteamOnBench$Tape", 130, "more", [109, 111, 114, 101])]
def sLen : List Nat := sTab.map (fun x => x.2.2.2.length)
def sByt : List (List Int32) := sTab.map (fun x => x.2.2.2)
def Old (g : Gh) : Nat → Prop := fun q => gB g ≤ q
/-- links between nest mates; classes of rows -/
def nestL : List (String × Nat × MethodName × String) := [("SteamOnBench", 9, ⟨"SteamOnBench$Tape", "<init>", "()V"⟩, "SteamOnBench"), ("SteamOnBench$Hut", 28, ⟨"SteamOnBench$Bather", "<init>", "()V"⟩, "SteamOnBench"), ("SteamOnBench", 64, ⟨"SteamOnBench$Sheet", "<init>", "()V"⟩, "SteamOnBench"), ("SteamOnBench$Text", 36, ⟨"SteamOnBench", "bounded", "(III)I"⟩, "SteamOnBench"), ("SteamOnBench$Hut", 87, ⟨"SteamOnBench", "bounded", "(III)I"⟩, "SteamOnBench")]
def aoL : List String := ["SteamOnBench$Text", "SteamOnBench$Bather", "SteamOnBench$Sheet"]
def Known (g : Gh) (U : State) : Prop :=
  (∀ (c : Nat) (q : vw_C), am_cl[c]? = some q → u_Kn U q.1 q.2.1 q.2.2 (gC g c) (gI g c)) ∧
  (ArrOfT U (gA g 20) .int ∧ U.vm.findClass "[I" = some (gA g 20)) ∧
  (∀ t : Nat, 21 ≤ t → t < 24 → ArrOfT U (gA g t) (.object (rcl t)) ∧ va_RA U (gA g t) (.object (rcl t))) ∧
  (va_X (gS g 1) (gL g) (gX g) U (gH g) ∧ gS g 1 < gB g) ∧
  vk_S 13 sLen sByt (fun i => gS g (2 + i)) (fun i => gS g (17 + i)) (Old g) U (gH g) ∧
  (∀ (i : Nat) (x : String × Nat × String × List Int32), sTab[i]? = some x → vk_R x.1 x.2.1 x.2.2.1 (gS g (2 + i)) U) ∧
  va_Z "java/lang/String" "COMPACT_STRINGS" "Z" (.int 1) (Old g) U (gH g) ∧
  (va_Z "jdk/internal/util/Preconditions" "SIOOBE_FORMATTER" "Ljava/util/function/BiFunction;" .null (Old g) U (gH g) ∨ va_Z "jdk/internal/util/Preconditions" "SIOOBE_FORMATTER" "Ljava/util/function/BiFunction;" (.ref (gS g 16)) (Old g) U (gH g)) ∧
  (∀ x ∈ nestL, va_Nw (.methodLinkNest x.1 x.2.1 x.2.2.1 x.2.2.2) U) ∧ (∀ C ∈ aoL, va_AO C U)
theorem Known.warm {g : Gh} {s U : State} (hW : s.WarmedH U.vm) (h : Known g s) : Known g U := by
  obtain ⟨h1, h2, h3, h4, h5, h6, h7, h8, h9, h10⟩ := h
  have hA := hW.alike
  exact ⟨fun c q hq => u_Kn_moved hA (h1 c q hq), ⟨arrOfT_moved hA h2.1, by rw [hA.findClass]; exact h2.2⟩, fun t a b => ⟨arrOfT_moved hA (h3 t a b).1, (h3 t a b).2.moved hA⟩, ⟨h4.1.moved hA, h4.2⟩, h5.moved hA, fun i x hx => (h6 i x hx).warm hW, h7.moved hA, h8.imp (va_Z.moved hA) (va_Z.moved hA), fun x hx => (h9 x hx).warmM hW, fun C hC => (h10 C hC).moved hA⟩
theorem Known.same {g : Gh} {s U : State} (hv : U.vm = s.vm) (h : Known g s) : Known g U := by
  obtain ⟨h1, h2, h3, h4, h5, h6, h7, h8, h9, h10⟩ := h
  have hA : s.vm.Alike U.vm := by rw [hv]; exact Vm.Alike.refl _
  exact ⟨fun c q hq => u_Kn_moved hA (h1 c q hq), ⟨arrOfT_moved hA h2.1, by rw [hA.findClass]; exact h2.2⟩, fun t a b => ⟨arrOfT_moved hA (h3 t a b).1, (h3 t a b).2.moved hA⟩, ⟨h4.1.moved hA, h4.2⟩, h5.moved hA, fun i x hx => (h6 i x hx).same hv, h7.moved hA, h8.imp (va_Z.moved hA) (va_Z.moved hA), fun x hx => (h9 x hx).same rfl hv.symm, fun C hC => (h10 C hC).moved hA⟩
/-- contracts by pure values -/
def rmD (d mc ms : Nat) : Room := { frames := d, cells := mc, slots := ms, locals := 64 * d }
def Pcx (g : Gh) (as : List AV) (w : Wd) : Array Value → State → Prop := fun v U => v = (as.map (cv g)).toArray ∧ Rel g w U.heap ∧ Known g U
def Qcx (g : Gh) (w0 : Wd) (r : Option AV) (w' : Wd) : Array Value → State → Outcome → State → Prop := fun _ _ oc t => oc = .returned (r.map (cv g)) ∧ Rel g w' t.heap ∧ Ext w0 w'
def OkM (M : MR) (d mc ms : Nat) (as : List AV) (w : Wd) (r : Option AV) (w' : Wd) : Prop :=
  ∀ (l : Launch) (g : Gh), Met l M.1 (.code M.1 M.2.1 M.2.2.1 M.2.2.2 :: BW) (rmD d mc ms) (Pcx g as w) (Qcx g w r w') mc ms (Old g)
theorem Pcx.blind {g : Gh} {as : List AV} {w : Wd} : FrameBlind (Pcx g as w) := fun _ _ _ _ h => ⟨h.1, h.2.1, h.2.2.same rfl⟩
abbrev CX : Type := Program × Launch × Env × State × MethodId × Array Value × List Frame × Method × Code × Gh
/-- the method, its depth, its room -/
abbrev MX : Type := MR × Nat × Nat × Nat × Wd
def Good (X : CX) (M : MX) : Prop := match X, M with
  | (p, _, _, s, m, _, _, meth, c, g), (R, _, _, _, _) =>
    p.tables.exec = Jvm.exec ∧ c.code = R.2.1 ∧ meth.sig.returnType = R.2.2.2 ∧ c.maxLocals = R.2.2.1 ∧ s.vm.findClass R.1.cls = some m.cls ∧ (∀ w ∈ BW, ∀ (a' : Array Value) (U : State), s.WarmedH U.vm → w.before a' U = true) ∧ meth.locks = false ∧ meth.name = R.1.name ∧ Known g s
def WPe {ρ : Type} (rt : ρ → Option AV) (X : CX) (M : MX) (cells slots : Nat) (E : Option (ρ × Wd)) (pc : Nat) (ls : List (Nat × AV)) (st : List AV) (w : Wd) : Prop :=
  match X, M with
  | (p, l, e, s, m, args, below, meth, c, g), (R, d, mc, ms, w0) =>
    Good (p, l, e, s, m, args, below, meth, c, g) (R, d, mc, ms, w0) → ∀ (H : Heap) (locs : List Loc) (lsA : Array Slot), Rel g w H → Ext w0 w → (∀ q ∈ locs, Old g q.base) → lv_has lsA R.2.2.1 (ls.map (fun q => (q.1, cv g q.2))) → ∀ (r : ρ) (w' : Wd), E = some (r, w') →
      W p l e (rmD d mc ms) s m args below meth c H locs cells slots (MQ below (Qcx g w0 (rt r) w') args s mc ms (Old g)) (F0 m pc lsA (st.map (cv g)))
