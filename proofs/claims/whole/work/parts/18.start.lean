/-! THE CLAIM OUT OF ONE WALK OF THE LAW'S BODY. Your part is whole_start (and what it stands on); all else here is the same for every law, but numbers. -/
def R_law : String := "SteamOnBenchLaw"
def lw_P (b : Addr) (xs : List Int32) (args : Array Value) (s : State) : Prop := args = #[.ref b] ∧ s.IntsAt b xs ∧ xs.length ≤ 3584 ∧ (Jvm.Cond.and given_1 narrow_1).before args s = true
def lw_Q (_ : Array Value) (s : State) (o : Outcome) (t : State) : Prop := o = .returned (some (.int 1)) ∧ Framed s o t [] 600000 7302250
def lw_Z (below : List Frame) (a : Array Value) (s : State) : State → Prop := fun t => ∃ o, t.status = .running ∧ Ended t below o ∧ lw_Q a s o t
/-- the law's own end, with 1 on the stack, nothing written that was there before, its room as the claim has it -/
theorem lw_ret {p : Program} {l : Launch} {e : Env} {s : State} {m : MethodId} {below : List Frame} {meth : Method} {c : Code} {b : Nat} (hx : p.tables.exec = Jvm.exec) (hb : c.code = code) (hr : meth.sig.returnType = ret) (hlocks : meth.locks = false) {pc : Nat} {H : Heap} {ls : Array Slot} (hdg : decode code pc = .ok (.ireturn, 1)) : W p l e room_1 s m #[Value.ref b] below meth c H [] 600000 7302250 (lw_Z below #[Value.ref b] s) (F0 m pc ls [.int 1]) := by
  intro T hT X
  obtain ⟨fs, hret, hrun, hended, hW, hframe⟩ := X.leave (v := some (.int 1)) (hlocks := hlocks) (fun h => by rw [hr] at h; cases h)
  have hmeth' : T.vm.method? m = some meth := X.method'
  refine ⟨T.setFrames fs, ?_, .returned (some (.int 1)), hrun, hended, rfl, ⟨_, rfl⟩, hW, hframe⟩
  jvm_step X.here [X.here.top, hx, hb, hdg, hmeth', hr, ret, narrow_b1]
  (try refine ⟨rfl, ?_⟩); (try refine ⟨rfl, ?_⟩)
  first | (intro acts; rw [hret _ acts rfl rfl rfl]) | rw [hret _ _ rfl rfl rfl]
  exact Steps.refl _
/-- what holds at the law's entry: the machine, the code, the tables' words (any of lw_tbl by 'hts w (by decide +kernel)'), the script of L ints xs at the cell b, what the Statement gives of the start (any of its parts by flat_of_before) -/
def lw_At (p : Program) (s : State) (m : MethodId) (meth : Method) (c : Code) (b L : Nat) (xs : Nat → Int32) : Prop :=
  p.tables.exec = Jvm.exec ∧ c.code = code ∧ meth.sig.returnType = ret ∧ c.maxLocals = 4 ∧ s.vm.findClass R_law = some m.cls ∧ (∀ w ∈ lw_tbl, w.before #[Value.ref b] s = true) ∧ va_X b L xs s s.heap ∧ b < s.heap.size ∧ meth.locks = false ∧ (Jvm.Cond.and given_1 narrow_1).before #[Value.ref b] s = true ∧ meth.name = "law"
/-! from the law's entry to the printed function's value -/
def FF : List Cond := flatC (Jvm.Cond.and given_1 narrow_1)
def tmS (i : Nat) : Term := Term.string (sTab.getD i ("", 0, "", [])).1 (sTab.getD i ("", 0, "", [])).2.1
theorem st_len : ∀ i : Nat, i < 13 → sLen.getD i 0 < 2 ^ 31 := by decide +kernel
theorem st_ex : ∀ i : Nat, i < 13 → Cond.exactly (tmS i) "java/lang/String" ∈ FF := by decide +kernel
theorem st_co : ∀ i : Nat, i < 13 → Cond.eq (.field (tmS i) "java/lang/String" "coder" "B") (.int 0) ∈ FF := by decide +kernel
theorem st_ar : ∀ i : Nat, i < 13 → Cond.arrayOf (.field (tmS i) "java/lang/String" "value" "[B") .byte ∈ FF := by decide +kernel
theorem st_le : ∀ i : Nat, i < 13 → Cond.eq (.length (.field (tmS i) "java/lang/String" "value" "[B")) (.int (Int32.ofNat (sLen.getD i 0))) ∈ FF := by decide +kernel
theorem st_el : ∀ i : Nat, i < 13 → ∀ j : Nat, j < sLen.getD i 0 → Cond.eq (.elem (.field (tmS i) "java/lang/String" "value" "[B") (.int (Int32.ofNat j))) (.int ((sByt.getD i []).getD j 0)) ∈ FF := by decide +kernel
theorem st_ne1 : ∀ i : Nat, i < 1 → Cond.not (Cond.eq (tmS i) (tmS 1)) ∈ FF := by decide +kernel
theorem st_ne2 : ∀ i : Nat, i < 2 → Cond.not (Cond.eq (tmS i) (tmS 2)) ∈ FF := by decide +kernel
theorem st_ne3 : ∀ i : Nat, i < 3 → Cond.not (Cond.eq (tmS i) (tmS 3)) ∈ FF := by decide +kernel
theorem st_ne4 : ∀ i : Nat, i < 4 → Cond.not (Cond.eq (tmS i) (tmS 4)) ∈ FF := by decide +kernel
theorem st_ne5 : ∀ i : Nat, i < 5 → Cond.not (Cond.eq (tmS i) (tmS 5)) ∈ FF := by decide +kernel
theorem st_ne6 : ∀ i : Nat, i < 6 → Cond.not (Cond.eq (tmS i) (tmS 6)) ∈ FF := by decide +kernel
theorem st_ne7 : ∀ i : Nat, i < 7 → Cond.not (Cond.eq (tmS i) (tmS 7)) ∈ FF := by decide +kernel
theorem st_ne8 : ∀ i : Nat, i < 8 → Cond.not (Cond.eq (tmS i) (tmS 8)) ∈ FF := by decide +kernel
theorem st_ne9 : ∀ i : Nat, i < 9 → Cond.not (Cond.eq (tmS i) (tmS 9)) ∈ FF := by decide +kernel
theorem st_ne10 : ∀ i : Nat, i < 10 → Cond.not (Cond.eq (tmS i) (tmS 10)) ∈ FF := by decide +kernel
theorem st_ne11 : ∀ i : Nat, i < 11 → Cond.not (Cond.eq (tmS i) (tmS 11)) ∈ FF := by decide +kernel
theorem st_ne12 : ∀ i : Nat, i < 12 → Cond.not (Cond.eq (tmS i) (tmS 12)) ∈ FF := by decide +kernel
theorem st_lt : ∀ i j : Nat, j < 13 → i < j → Cond.not (Cond.eq (tmS i) (tmS j)) ∈ FF := by
  intro i j hj h
  match j, hj, h with
  | 0, _, h => exact absurd h (Nat.not_lt_zero _)
  | 1, _, h => exact st_ne1 i h
  | 2, _, h => exact st_ne2 i h
  | 3, _, h => exact st_ne3 i h
  | 4, _, h => exact st_ne4 i h
  | 5, _, h => exact st_ne5 i h
  | 6, _, h => exact st_ne6 i h
  | 7, _, h => exact st_ne7 i h
  | 8, _, h => exact st_ne8 i h
  | 9, _, h => exact st_ne9 i h
  | 10, _, h => exact st_ne10 i h
  | 11, _, h => exact st_ne11 i h
  | 12, _, h => exact st_ne12 i h
  | k + 13, h, _ => exact absurd h (by omega)
theorem st_ne : ∀ i : Nat, i < 13 → ∀ j : Nat, j < 13 → i ≠ j → Cond.not (Cond.eq (tmS i) (tmS j)) ∈ FF ∨ Cond.not (Cond.eq (tmS j) (tmS i)) ∈ FF := by
  intro i hi j hj h
  rcases Nat.lt_or_gt_of_ne h with h | h
  · exact Or.inl (st_lt i j hj h)
  · exact Or.inr (st_lt j i hi h)
theorem st_sr : ∀ i : Nat, i < 13 → ∃ x, sTab[i]? = some x ∧ tmS i = Term.string x.1 x.2.1 := fun i hi => by
  have h : i < sTab.length := hi
  exact ⟨sTab[i], List.getElem?_eq_getElem h, by unfold tmS; rw [List.getD_eq_getElem?_getD, List.getElem?_eq_getElem h]; rfl⟩
theorem st_l1 : Cond.laysStatic "java/lang/String" "COMPACT_STRINGS" "Z" ∈ tables_1 := by unfold tables_1; exact List.mem_append_left _ (List.mem_of_getElem? (i := 76) rfl)
theorem st_l2 : Cond.laysStatic "jdk/internal/util/Preconditions" "SIOOBE_FORMATTER" "Ljava/util/function/BiFunction;" ∈ tables_1 := by unfold tables_1; exact List.mem_append_left _ (List.mem_of_getElem? (i := 92) rfl)
theorem st_i1 : Cond.initialized "java/lang/String" ∈ tables_1 := by unfold tables_1; exact List.mem_append_left _ (List.mem_of_getElem? (i := 3) rfl)
theorem st_i2 : Cond.initialized "jdk/internal/util/Preconditions" ∈ tables_1 := by unfold tables_1; exact List.mem_append_left _ (List.mem_of_getElem? (i := 5) rfl)
theorem st_a0 : Cond.arrayClass .int ∈ tables_1 := by unfold tables_1; exact List.mem_append_left _ (List.mem_of_getElem? (i := 61) rfl)
theorem st_a1 : Cond.arrayOver (.object "SteamOnBench$Text") ∈ tables_1 := by unfold tables_1; exact List.mem_append_right _ (List.mem_append_left _ (List.mem_of_getElem? (i := 25) rfl))
theorem st_a2 : Cond.arrayOver (.object "SteamOnBench$Bather") ∈ tables_1 := by unfold tables_1; exact List.mem_append_right _ (List.mem_append_left _ (List.mem_of_getElem? (i := 33) rfl))
theorem st_a3 : Cond.arrayOver (.object "SteamOnBench$Sheet") ∈ tables_1 := by unfold tables_1; exact List.mem_append_right _ (List.mem_append_left _ (List.mem_of_getElem? (i := 101) rfl))
theorem st_s0 : Cond.stringRef "SteamOnBench" 16 "feels 1 + bench + steam ; bears 60 ; glad steam - 2 ;" ∈ tables_1 := by unfold tables_1; exact List.mem_append_left _ (List.mem_of_getElem? (i := 62) rfl)
theorem st_s1 : Cond.stringRef "SteamOnBench$Tape" 104 "feels" ∈ tables_1 := by unfold tables_1; exact List.mem_append_left _ (List.mem_of_getElem? (i := 153) rfl)
theorem st_s2 : Cond.stringRef "SteamOnBench$Tape" 110 "bears" ∈ tables_1 := by unfold tables_1; exact List.mem_append_left _ (List.mem_of_getElem? (i := 158) rfl)
theorem st_s3 : Cond.stringRef "SteamOnBench$Tape" 112 "glad" ∈ tables_1 := by unfold tables_1; exact List.mem_append_left _ (List.mem_of_getElem? (i := 159) rfl)
theorem st_s4 : Cond.stringRef "SteamOnBench$Tape" 114 "or" ∈ tables_1 := by unfold tables_1; exact List.mem_append_left _ (List.mem_of_getElem? (i := 160) rfl)
theorem st_s5 : Cond.stringRef "SteamOnBench$Tape" 116 "and" ∈ tables_1 := by unfold tables_1; exact List.mem_append_left _ (List.mem_of_getElem? (i := 161) rfl)
theorem st_s6 : Cond.stringRef "SteamOnBench$Tape" 118 "not" ∈ tables_1 := by unfold tables_1; exact List.mem_append_left _ (List.mem_of_getElem? (i := 162) rfl)
theorem st_s7 : Cond.stringRef "SteamOnBench$Tape" 120 "stones" ∈ tables_1 := by unfold tables_1; exact List.mem_append_left _ (List.mem_of_getElem? (i := 163) rfl)
theorem st_s8 : Cond.stringRef "SteamOnBench$Tape" 122 "steam" ∈ tables_1 := by unfold tables_1; exact List.mem_append_left _ (List.mem_of_getElem? (i := 164) rfl)
theorem st_s9 : Cond.stringRef "SteamOnBench$Tape" 124 "bench" ∈ tables_1 := by unfold tables_1; exact List.mem_append_left _ (List.mem_of_getElem? (i := 165) rfl)
theorem st_s10 : Cond.stringRef "SteamOnBench$Tape" 126 "minute" ∈ tables_1 := by unfold tables_1; exact List.mem_append_left _ (List.mem_of_getElem? (i := 166) rfl)
theorem st_s11 : Cond.stringRef "SteamOnBench$Tape" 128 "warm" ∈ tables_1 := by unfold tables_1; exact List.mem_append_left _ (List.mem_of_getElem? (i := 167) rfl)
theorem st_s12 : Cond.stringRef "SteamOnBench$Tape" 130 "more" ∈ tables_1 := by unfold tables_1; exact List.mem_append_left _ (List.mem_of_getElem? (i := 168) rfl)
theorem st_st : ∀ (i : Nat) (x : String × Nat × String × List Int32), sTab[i]? = some x → Cond.stringRef x.1 x.2.1 x.2.2.1 ∈ tables_1 := by
  intro i x h
  match i, h with
  | 0, h => cases h; exact st_s0
  | 1, h => cases h; exact st_s1
  | 2, h => cases h; exact st_s2
  | 3, h => cases h; exact st_s3
  | 4, h => cases h; exact st_s4
  | 5, h => cases h; exact st_s5
  | 6, h => cases h; exact st_s6
  | 7, h => cases h; exact st_s7
  | 8, h => cases h; exact st_s8
  | 9, h => cases h; exact st_s9
  | 10, h => cases h; exact st_s10
  | 11, h => cases h; exact st_s11
  | 12, h => cases h; exact st_s12
  | k + 13, h => simp [sTab] at h
theorem st_n0 : Cond.methodLinkNest "SteamOnBench" 9 ⟨"SteamOnBench$Tape", "<init>", "()V"⟩ "SteamOnBench" ∈ tables_1 := by unfold tables_1; exact List.mem_append_left _ (List.mem_of_getElem? (i := 25) rfl)
theorem st_n1 : Cond.methodLinkNest "SteamOnBench$Hut" 28 ⟨"SteamOnBench$Bather", "<init>", "()V"⟩ "SteamOnBench" ∈ tables_1 := by unfold tables_1; exact List.mem_append_right _ (List.mem_append_left _ (List.mem_of_getElem? (i := 35) rfl))
theorem st_n2 : Cond.methodLinkNest "SteamOnBench" 64 ⟨"SteamOnBench$Sheet", "<init>", "()V"⟩ "SteamOnBench" ∈ tables_1 := by unfold tables_1; exact List.mem_append_right _ (List.mem_append_left _ (List.mem_of_getElem? (i := 103) rfl))
theorem st_n3 : Cond.methodLinkNest "SteamOnBench$Text" 36 ⟨"SteamOnBench", "bounded", "(III)I"⟩ "SteamOnBench" ∈ tables_1 := by unfold tables_1; exact List.mem_append_right _ (List.mem_append_left _ (List.mem_of_getElem? (i := 208) rfl))
theorem st_n4 : Cond.methodLinkNest "SteamOnBench$Hut" 87 ⟨"SteamOnBench", "bounded", "(III)I"⟩ "SteamOnBench" ∈ tables_1 := by unfold tables_1; exact List.mem_append_right _ (List.mem_append_right _ (List.mem_append_left _ (List.mem_of_getElem? (i := 46) rfl)))
theorem st_nl : ∀ x ∈ nestL, Cond.methodLinkNest x.1 x.2.1 x.2.2.1 x.2.2.2 ∈ tables_1 := by
  intro x hx
  simp only [nestL, List.mem_cons, List.not_mem_nil, or_false] at hx
  rcases hx with rfl | rfl | rfl | rfl | rfl
  · exact st_n0
  · exact st_n1
  · exact st_n2
  · exact st_n3
  · exact st_n4
theorem st_ao : ∀ C ∈ aoL, Cond.arrayOver (.object C) ∈ tables_1 := by
  intro x hx
  simp only [aoL, List.mem_cons, List.not_mem_nil, or_false] at hx
  rcases hx with rfl | rfl | rfl
  · exact st_a1
  · exact st_a2
  · exact st_a3
theorem st_in0 : Cond.instantiable RX0 5 ∈ tables_1 := by unfold tables_1; exact List.mem_append_right _ (List.mem_append_left _ (List.mem_of_getElem? (i := 34) rfl))
theorem st_in1 : Cond.instantiable RX1 7 ∈ tables_1 := by unfold tables_1; exact List.mem_append_right _ (List.mem_append_left _ (List.mem_of_getElem? (i := 27) rfl))
theorem st_in2 : Cond.instantiable RX2 3 ∈ tables_1 := by unfold tables_1; exact List.mem_append_right _ (List.mem_append_left _ (List.mem_of_getElem? (i := 102) rfl))
theorem st_in3 : Cond.instantiable RX3 10 ∈ tables_1 := by unfold tables_1; exact List.mem_append_left _ (List.mem_of_getElem? (i := 24) rfl)
theorem st_in4 : Cond.instantiable RX4 5 ∈ tables_1 := by unfold tables_1; exact List.mem_append_left _ (List.mem_of_getElem? (i := 225) rfl)
theorem st_in5 : Cond.instantiable RX5 8 ∈ tables_1 := by unfold tables_1; exact List.mem_append_left _ (List.mem_of_getElem? (i := 16) rfl)
theorem st_in6 : Cond.instantiable RX6 32 ∈ tables_1 := by unfold tables_1; exact List.mem_append_right _ (List.mem_append_right _ (List.mem_append_right _ (List.mem_append_left _ (List.mem_of_getElem? (i := 1) rfl))))
theorem st_cs : Cond.eq (.static "java/lang/String" "COMPACT_STRINGS" "Z") (.int 1) ∈ FF := by decide +kernel
theorem st_si : Cond.isRef (.static "jdk/internal/util/Preconditions" "SIOOBE_FORMATTER" "Ljava/util/function/BiFunction;") ∈ FF := by decide +kernel
theorem W.room {p : Program} {l : Launch} {e : Env} {R R' : Room} {s : State} {m : MethodId} {args : Array Value} {below : List Frame} {meth : Method} {c : Code} {H : Heap} {locs : List Loc} {cells slots : Nat} {Q : State → Prop} {g : JFrame} (h1 : R'.frames ≤ R.frames) (h2 : R'.cells ≤ R.cells) (h3 : R'.slots ≤ R.slots) (h4 : R'.locals ≤ R.locals)
    (k : W p l e R' s m args below meth c H locs cells slots Q g) : W p l e R s m args below meth c H locs cells slots Q g := by
  intro T hT X
  have hr : s.hasRoom e.platform R' = true := by
    have h := X.room
    simp only [State.hasRoom, Bool.and_eq_true, decide_eq_true_eq] at h ⊢
    obtain ⟨⟨⟨⟨a1, a2, a3, a4, a5, a6⟩, a7⟩, a8⟩, a9⟩ := h
    refine ⟨⟨⟨⟨?_, ?_, ?_, ?_, ?_, a6⟩, ?_⟩, ?_⟩, a9⟩ <;> omega
  exact k T hT ⟨X.admits, X.cas, X.clock, X.frames, hr, X.hears, X.method, X.code, X.here, X.tail, X.warmed, X.limits, X.bytes, X.same⟩
/-- the empty world -/
def w00 : Wd := (fun _ => (99, 0), fun _ _ => 0, fun _ _ => 0, 32)
theorem start_of {p : Program} {e : Env} {s : State} {m : MethodId} {below : List Frame} {meth : Method} {c : Code} (l : Launch) {b L : Nat} {xs : Nat → Int32} (C0 : lw_At p s m meth c b L xs) {w1 : Wd} (hE : fL_law L xs w00 = some (1, w1)) : W p l e room_1 s m #[Value.ref b] below meth c s.heap [] 0 0 (lw_Z below #[Value.ref b] s) (entryFrame m ([Value.ref b] : List Value).toArray 4) := by
  obtain ⟨hx, hb, hr, hml, hown, hts, hX, hbl, hlocks, hgv, hnm⟩ := C0
  have hF := flat_of_before _ hgv
  have hA : ∀ a : Nat, a < s.heap.size → ¬ (fun q : Nat => s.heap.size ≤ q) a := fun a h => Nat.not_le.mpr h
  have htab : ∀ w ∈ tables_1, w.before #[Value.ref b] s = true := fun w h => hts w (List.mem_append_right _ h)
  have hBW : ∀ w ∈ BW, w.before #[Value.ref b] s = true := fun w h => hts w (List.mem_filter.mp h).1
  obtain ⟨adK, adV, hvS, hvR⟩ := vk_Sof (args := #[Value.ref b]) (s := s) (N := 13) (tm := tmS) (len := sLen) (byt := sByt) (A := fun q : Nat => s.heap.size ≤ q) st_len (fun i hi => hF _ (st_ex i hi)) (fun i hi => hF _ (st_co i hi)) (fun i hi => hF _ (st_ar i hi)) (fun i hi => hF _ (st_le i hi)) (fun i hi j hj => hF _ (st_el i hi j hj)) (fun i j hi hj hij => (st_ne i hi j hj hij).imp (hF _) (hF _)) hA
  have hZ1 := va_Zof (args := #[Value.ref b]) (s := s) (A := fun q : Nat => s.heap.size ≤ q) (htab _ st_l1) (htab _ st_i1) (va_eqi (hF _ st_cs)) hA
  have hZ2 := va_Zqof (args := #[Value.ref b]) (s := s) (A := fun q : Nat => s.heap.size ≤ q) (htab _ st_l2) (htab _ st_i2) (hF _ st_si) hA
  obtain ⟨tS, hZ2⟩ : ∃ tS : Nat, va_Z "jdk/internal/util/Preconditions" "SIOOBE_FORMATTER" "Ljava/util/function/BiFunction;" .null (fun q : Nat => s.heap.size ≤ q) s s.heap ∨ va_Z "jdk/internal/util/Preconditions" "SIOOBE_FORMATTER" "Ljava/util/function/BiFunction;" (.ref tS) (fun q : Nat => s.heap.size ≤ q) s s.heap := by
    rcases hZ2 with h | ⟨t, h⟩
    · exact ⟨0, Or.inl h⟩
    · exact ⟨t, Or.inr h⟩
  obtain ⟨c0, i0, k0⟩ := u_known (C := RX0) (T := TX0) (N := 5) (n := 5) hBW ly0 (htab (.instantiable RX0 5) st_in0)
  obtain ⟨c1, i1, k1⟩ := u_known (C := RX1) (T := TX1) (N := 7) (n := 7) hBW ly1 (htab (.instantiable RX1 7) st_in1)
  obtain ⟨c2, i2, k2⟩ := u_known (C := RX2) (T := TX2) (N := 3) (n := 3) hBW ly2 (htab (.instantiable RX2 3) st_in2)
  obtain ⟨c3, i3, k3⟩ := u_known (C := RX3) (T := TX3) (N := 10) (n := 10) hBW ly3 (htab (.instantiable RX3 10) st_in3)
  obtain ⟨c4, i4, k4⟩ := u_known (C := RX4) (T := TX4) (N := 5) (n := 5) hBW ly4 (htab (.instantiable RX4 5) st_in4)
  obtain ⟨c5, i5, k5⟩ := u_known (C := RX5) (T := TX5) (N := 8) (n := 8) hBW ly5 (htab (.instantiable RX5 8) st_in5)
  obtain ⟨c6, i6, k6⟩ := u_known (C := RX6) (T := TX6) (N := 32) (n := 32) hBW ly6 (htab (.instantiable RX6 32) st_in6)
  obtain ⟨dC, dI, hKc⟩ : ∃ (dC : Nat → ClassId) (dI : Nat → Nat → Nat), ∀ (k : Nat) (q : vw_C), am_cl[k]? = some q → u_Kn s q.1 q.2.1 q.2.2 (dC k) (dI k) := by
    refine ⟨fun k => match k with | 0 => c0 | 1 => c1 | 2 => c2 | 3 => c3 | 4 => c4 | 5 => c5 | _ => c6, fun k => match k with | 0 => i0 | 1 => i1 | 2 => i2 | 3 => i3 | 4 => i4 | 5 => i5 | _ => i6, ?_⟩
    intro k q hq
    match k, hq with
    | 0, hq => cases hq; exact k0
    | 1, hq => cases hq; exact k1
    | 2, hq => cases hq; exact k2
    | 3, hq => cases hq; exact k3
    | 4, hq => cases hq; exact k4
    | 5, hq => cases hq; exact k5
    | 6, hq => cases hq; exact k6
    | k + 7, hq => simp [am_cl] at hq
  obtain ⟨cI, kI, compI, a1, a2, a3⟩ := Cond.arrayClass_spec (htab _ st_a0)
  have arr : ∀ C : String, Cond.arrayOver (.object C) ∈ tables_1 → ∃ cA : ClassId, ArrOfT s cA (.object C) ∧ va_RA s cA (.object C) := by
    intro C hC
    obtain ⟨comp, cA, kA, f1, -, f2, f3, f4⟩ := Cond.arrayOver_spec (htab _ hC)
    exact ⟨cA, fun N z => ⟨(fun k h => by cases h), kA, f2, comp, f3⟩, kA, comp, f2, f3, f1, f4⟩
  obtain ⟨cT, hT1, hT2⟩ := arr _ st_a1
  obtain ⟨cB, hB1, hB2⟩ := arr _ st_a2
  obtain ⟨cS, hS1, hS2⟩ := arr _ st_a3
  let g : Gh := (dC, dI, (fun t => if t = 20 then cI else if t = 21 then cT else if t = 22 then cB else cS), s.heap.size, (fun q => if q = 1 then b else if q < 15 then adK (q - 2) else if q = 16 then tS else adV (q - 17)), s.heap, L, xs)
  have hgS : ∀ i, i < 13 → gS g (2 + i) = adK i := fun i hi => by
    show (if 2 + i = 1 then b else if 2 + i < 15 then adK (2 + i - 2) else if 2 + i = 16 then tS else adV (2 + i - 17)) = _
    rw [if_neg (by omega), if_pos (by omega)]
    congr 1
    omega
  have hgV : ∀ i, i < 13 → gS g (17 + i) = adV i := fun i hi => by
    show (if 17 + i = 1 then b else if 17 + i < 15 then adK (17 + i - 2) else if 17 + i = 16 then tS else adV (17 + i - 17)) = _
    rw [if_neg (by omega), if_neg (by omega), if_neg (by omega)]
    congr 1
    omega
  have hKn : Known g s := by
    refine ⟨hKc, ⟨fun N z => ⟨(fun k h => by cases h), kI, a2, compI, a3⟩, a1⟩, fun t t1 t2 => ?_, ⟨hX, hbl⟩, ⟨fun i hi => ?_, fun i j hi hj e => ?_⟩, fun i x hx => ?_, hZ1, hZ2, fun x hx => va_Nw.of rfl (htab _ (st_nl x hx)), fun C hC => va_AO.of (htab _ (st_ao C hC))⟩
    · rcases (by omega : t = 21 ∨ t = 22 ∨ t = 23) with rfl | rfl | rfl
      · exact ⟨hT1, hT2⟩
      · exact ⟨hB1, hB2⟩
      · exact ⟨hS1, hS2⟩
    · dsimp only
      rw [hgS i hi, hgV i hi]
      exact hvS.1 i hi
    · dsimp only at e
      rw [hgS i hi, hgS j hj] at e
      exact hvS.2 i j hi hj e
    · have hi : i < 13 := (List.getElem?_eq_some_iff.mp hx).1
      rw [hgS i hi]
      obtain ⟨x', hx', ht⟩ := st_sr i hi
      cases hx.symm.trans hx'
      exact vk_R.of (htab _ (st_st i x hx)) (by rw [← ht]; exact hvR i hi)
  have hRel : Rel g w00 s.heap := ⟨rfl, Nat.le_refl 32, fun _ _ => rfl, fun q h => absurd rfl h⟩
  have hgood : Good (p, l, e, s, m, #[Value.ref b], below, meth, c, g) (mL_law, 52, 1606, 108616, w00) := ⟨hx, hb, hr, hml, hown, fun w hw a' U hW => word_at hW (good_of_word (List.mem_filter.mp hw).2) (hBW w hw), hlocks, hnm, hKn⟩
  have hl := lv_entry ([Value.ref b]) (n := 4) (Nat.le_of_ble_eq_true rfl)
  rw [lg_entry_eq]
  have hw := wpfL_law (p, l, e, s, m, #[Value.ref b], below, meth, c, g) w00 L xs ⟨rfl, rfl⟩ w00 hgood s.heap [] _ hRel Ext.rf (fun _ h => by cases h) hl 1 w1 hE
  refine W.room (R' := rmD 52 1606 108616) (Nat.le_of_ble_eq_true rfl) (Nat.le_of_ble_eq_true rfl) (Nat.le_of_ble_eq_true rfl) (Nat.le_of_ble_eq_true rfl) ?_
  intro T hT X
  obtain ⟨t, st, o, q1, q2, q3, Lo, q4, q5⟩ := hw T hT X
  refine ⟨t, st, o, q1, q2, q3.1, q4.1, q4.2.1, q4.2.2.weaken (fun y hy hlt => absurd hlt (Nat.not_lt.mpr (q5 y hy))) (Nat.le_of_ble_eq_true rfl) (Nat.le_of_ble_eq_true rfl)⟩
