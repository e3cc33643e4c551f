/-! THE CLAIM OUT OF ONE WALK OF THE LAW'S BODY. Your part is whole_start (and what it stands on); all else here is the same for every law, but numbers. -/
def R_law : String := "EachBringsLaw"
def lw_P (b : Addr) (xs : List Int32) (args : Array Value) (s : State) : Prop := args = #[.ref b] ∧ s.IntsAt b xs ∧ xs.length ≤ 2048 ∧ (Jvm.Cond.and given_1 narrow_1).before args s = true
def lw_Q (_ : Array Value) (s : State) (o : Outcome) (t : State) : Prop := o = .returned (some (.int 1)) ∧ Framed s o t [] 600000 7302250
def lw_Z (below : List Frame) (a : Array Value) (s : State) : State → Prop := fun t => ∃ o, t.status = .running ∧ Ended t below o ∧ lw_Q a s o t
/-- the law's own end, with 1 on the stack, nothing written that was there before, its room as the claim has it -/
theorem lw_ret {p : Program} {l : Launch} {e : Env} {s : State} {m : MethodId} {below : List Frame} {meth : Method} {c : Code} {b : Nat} (hx : p.tables.exec = Jvm.exec) (hb : c.code = code) (hr : meth.sig.returnType = ret) (hlocks : meth.locks = false) {pc : Nat} {H : Heap} {ls : Array Slot} (hdg : decode code pc = .ok (.ireturn, 1)) : W p l e room_1 s m #[Value.ref b] below meth c H [] 600000 7302250 (lw_Z below #[Value.ref b] s) (F0 m pc ls [.int 1]) := by
  intro T hT X
  obtain ⟨fs, hret, hrun, hended, hW, hframe⟩ := X.leave (v := some (.int 1)) (hlocks := hlocks) (fun h => by rw [hr] at h; cases h)
  have hmeth' : T.vm.method? m = some meth := X.method'
  refine ⟨T.setFrames fs, ?_, .returned (some (.int 1)), hrun, hended, rfl, ⟨_, rfl⟩, hW, hframe⟩
  jvm_step X.here [X.here.top, hx, hb, hdg, hmeth', hr, ret, narrow_b1]
  (try refine ⟨rfl, ?_⟩); (try refine ⟨rfl, ?_⟩)
  first | (intro acts; rw [hret _ acts rfl rfl rfl]) | rw [hret _ _ rfl rfl rfl]
  exact Steps.refl _
/-- what holds at the law's entry: the machine, the code, the tables' words (any of lw_tbl by 'hts w (by decide +kernel)'), the script of L ints xs at the cell b, what the Statement gives of the start (any of its parts by flat_of_before) -/
def lw_At (p : Program) (s : State) (m : MethodId) (meth : Method) (c : Code) (b L : Nat) (xs : Nat → Int32) : Prop :=
  p.tables.exec = Jvm.exec ∧ c.code = code ∧ meth.sig.returnType = ret ∧ c.maxLocals = 4 ∧ s.vm.findClass R_law = some m.cls ∧ (∀ w ∈ lw_tbl, w.before #[Value.ref b] s = true) ∧ va_X b L xs s s.heap ∧ b < s.heap.size ∧ meth.locks = false ∧ (Jvm.Cond.and given_1 narrow_1).before #[Value.ref b] s = true
/-! the law's own numbers -/
abbrev AL (s : State) : Nat → Prop := fun q => s.heap.size ≤ q
theorem lw_cond {i L : Nat} {x3 : Int32} (hL : L ≤ 2048) (hi : i ≤ L + 4) (ex : x3 = nI i) (h : ¬ Int32.ofNat L - 4 < x3) : i + 4 ≤ L := by
  rcases Nat.lt_or_ge L (i + 4) with q | q
  · refine absurd ?_ h
    rw [ex, Int32.lt_iff_toInt_lt, nI_toInt (by omega)]
    have e := pk_sub_toInt (a := L) (b := 4) (by omega) (by omega)
    have e4 : (nI 4 : Int32) = 4 := rfl
    rw [e4] at e
    show (nI L - 4).toInt < _
    rw [e]
    omega
  · exact q
theorem lw_in0 {i L : Nat} {x3 : Int32} (hL : L ≤ 2048) (hi : i + 4 ≤ L) (ex : x3 = nI i) : vp_in x3 L := by rw [ex]; exact vp_in_nI (by omega) (by omega)
theorem lw_in1 {i L : Nat} {x3 : Int32} (hL : L ≤ 2048) (hi : i + 4 ≤ L) (ex : x3 = nI i) : vp_in (x3 + (1 : Int32)) L := by
  have e : nI i + 1 = nI (i + 1) := nI_add i 1
  rw [ex, e]; exact vp_in_nI (n := i + 1) (by omega) (by omega)
theorem lw_in2 {i L : Nat} {x3 : Int32} (hL : L ≤ 2048) (hi : i + 4 ≤ L) (ex : x3 = nI i) : vp_in (x3 + (2 : Int32)) L := by
  have e : nI i + 2 = nI (i + 2) := nI_add i 2
  rw [ex, e]; exact vp_in_nI (n := i + 2) (by omega) (by omega)
theorem lw_in3 {i L : Nat} {x3 : Int32} (hL : L ≤ 2048) (hi : i + 4 ≤ L) (ex : x3 = nI i) : vp_in (x3 + (3 : Int32)) L := by
  have e : nI i + 3 = nI (i + 3) := nI_add i 3
  rw [ex, e]; exact vp_in_nI (n := i + 3) (by omega) (by omega)
theorem lw_cmp {a b : Int64} (h : a = b) : lg_cmp a b = 0 := by
  subst h
  unfold lg_cmp
  rw [if_neg (by simp), if_pos rfl]
set_option maxHeartbeats 40000000 in
set_option maxRecDepth 100000 in
theorem lw_ctx {p : Program} {s : State} {m : MethodId} {meth : Method} {c : Code} {b L : Nat} {xs : Nat → Int32} (C0 : lw_At p s m meth c b L xs) : ∃ (D : va_G) (cy : Nat → ClassId), cx D cy s ∧ SX cy (AL s) s s.heap := by
  obtain ⟨hx, hb, hr, hml, hown, hts, hX, hbl, hlocks, hgv⟩ := C0
  obtain ⟨cc0, ci0, ck0⟩ := u_known (C := RX0) (T := TX0) (N := 6) (n := 6) hts inX0 (hts (.instantiable RX0 6) (List.mem_append_right _ (List.mem_of_getElem? (i := 164) (by decide +kernel))))
  obtain ⟨cc1, ci1, ck1⟩ := u_known (C := RX1) (T := TX1) (N := 8) (n := 8) hts inX1 (hts (.instantiable RX1 8) (List.mem_append_right _ (List.mem_of_getElem? (i := 120) (by decide +kernel))))
  obtain ⟨cc2, ci2, ck2⟩ := u_known (C := RX2) (T := TX2) (N := 11) (n := 11) hts inX2 (hts (.instantiable RX2 11) (List.mem_append_right _ (List.mem_of_getElem? (i := 25) (by decide +kernel))))
  obtain ⟨cc3, ci3, ck3⟩ := u_known (C := RX3) (T := TX3) (N := 7) (n := 7) hts inX3 (hts (.instantiable RX3 7) (List.mem_append_right _ (List.mem_of_getElem? (i := 31) (by decide +kernel))))
  obtain ⟨cc4, ci4, ck4⟩ := u_known (C := RX4) (T := TX4) (N := 1) (n := 1) hts inX4 (hts (.instantiable RX4 1) (List.mem_append_right _ (List.mem_of_getElem? (i := 37) (by decide +kernel))))
  obtain ⟨cc5, ci5, ck5⟩ := u_known (C := RX5) (T := TX5) (N := 6) (n := 6) hts inX5 (hts (.instantiable RX5 6) (List.mem_append_right _ (List.mem_of_getElem? (i := 191) (by decide +kernel))))
  obtain ⟨cc6, ci6, ck6⟩ := u_known (C := RX6) (T := TX6) (N := 10) (n := 10) hts inX6 (hts (.instantiable RX6 10) (List.mem_append_right _ (List.mem_of_getElem? (i := 17) (by decide +kernel))))
  obtain ⟨cc7, ci7, ck7⟩ := u_known (C := RX7) (T := TX7) (N := 24) (n := 24) hts inX7 (hts (.instantiable RX7 24) (List.mem_append_right _ (List.mem_of_getElem? (i := 748) (by decide +kernel))))
  obtain ⟨yI, kI, pI, f1I, f2I, f3I⟩ := Cond.arrayClass_spec (hts (.arrayClass .int) (List.mem_append_right _ (List.mem_of_getElem? (i := 47) (by decide +kernel))))
  obtain ⟨yJ, kJ, pJ, f1J, f2J, f3J⟩ := Cond.arrayClass_spec (hts (.arrayClass .long) (List.mem_append_right _ (List.mem_of_getElem? (i := 189) (by decide +kernel))))
  obtain ⟨yB, kB, pB, f1B, f2B, f3B⟩ := Cond.arrayClass_spec (hts (.arrayClass .byte) (List.mem_append_right _ (List.mem_of_getElem? (i := 46) (by decide +kernel))))
  obtain ⟨yZ, kZ, pZ, f1Z, f2Z, f3Z⟩ := Cond.arrayClass_spec (hts (.arrayClass .boolean) (List.mem_append_right _ (List.mem_of_getElem? (i := 834) (by decide +kernel))))
  have hfl := flat_of_before _ hgv
  have hAs : ∀ a : Nat, a < s.heap.size → ¬ AL s a := fun a h => Nat.not_le.mpr h
  obtain ⟨adK, adV, hS, hT⟩ := vk_Sof (args := #[Value.ref b]) (s := s) (N := 5) (tm := fun i => Term.string "EachBrings$Text" (sIx.getD i 0)) (len := sLen) (byt := sByt) (A := AL s)
    (fun i hi => by rcases (show i = 0 ∨ i = 1 ∨ i = 2 ∨ i = 3 ∨ i = 4 by omega) with rfl | rfl | rfl | rfl | rfl <;> decide)
    (fun i hi => by rcases (show i = 0 ∨ i = 1 ∨ i = 2 ∨ i = 3 ∨ i = 4 by omega) with rfl | rfl | rfl | rfl | rfl <;> exact hfl _ (by decide +kernel))
    (fun i hi => by rcases (show i = 0 ∨ i = 1 ∨ i = 2 ∨ i = 3 ∨ i = 4 by omega) with rfl | rfl | rfl | rfl | rfl <;> exact hfl _ (by decide +kernel))
    (fun i hi => by rcases (show i = 0 ∨ i = 1 ∨ i = 2 ∨ i = 3 ∨ i = 4 by omega) with rfl | rfl | rfl | rfl | rfl <;> exact hfl _ (by decide +kernel))
    (fun i hi => by rcases (show i = 0 ∨ i = 1 ∨ i = 2 ∨ i = 3 ∨ i = 4 by omega) with rfl | rfl | rfl | rfl | rfl <;> exact hfl _ (by decide +kernel))
    (fun i hi j hj => by
      rcases (show i = 0 ∨ i = 1 ∨ i = 2 ∨ i = 3 ∨ i = 4 by omega) with rfl | rfl | rfl | rfl | rfl
      · have hj : j < 5 := hj
        rcases (show j = 0 ∨ j = 1 ∨ j = 2 ∨ j = 3 ∨ j = 4 by omega) with rfl | rfl | rfl | rfl | rfl <;> exact hfl _ (by decide +kernel)
      · have hj : j < 3 := hj
        rcases (show j = 0 ∨ j = 1 ∨ j = 2 by omega) with rfl | rfl | rfl <;> exact hfl _ (by decide +kernel)
      · have hj : j < 3 := hj
        rcases (show j = 0 ∨ j = 1 ∨ j = 2 by omega) with rfl | rfl | rfl <;> exact hfl _ (by decide +kernel)
      · have hj : j < 5 := hj
        rcases (show j = 0 ∨ j = 1 ∨ j = 2 ∨ j = 3 ∨ j = 4 by omega) with rfl | rfl | rfl | rfl | rfl <;> exact hfl _ (by decide +kernel)
      · have hj : j < 6 := hj
        rcases (show j = 0 ∨ j = 1 ∨ j = 2 ∨ j = 3 ∨ j = 4 ∨ j = 5 by omega) with rfl | rfl | rfl | rfl | rfl | rfl <;> exact hfl _ (by decide +kernel)
    )
    (fun i j hi hj hne => by
      rcases (show i = 0 ∨ i = 1 ∨ i = 2 ∨ i = 3 ∨ i = 4 by omega) with rfl | rfl | rfl | rfl | rfl <;> rcases (show j = 0 ∨ j = 1 ∨ j = 2 ∨ j = 3 ∨ j = 4 by omega) with rfl | rfl | rfl | rfl | rfl <;> first | exact absurd rfl hne | exact Or.inl (hfl _ (by decide +kernel)) | exact Or.inr (hfl _ (by decide +kernel)))
    hAs
  have hZ := va_Zof (C := "java/lang/String") (n := "COMPACT_STRINGS") (d := "Z") (v := .int 1) (A := AL s) (hts _ (List.mem_append_right _ (List.mem_of_getElem? (i := 303) (by decide +kernel)))) (hts _ (List.mem_append_right _ (List.mem_of_getElem? (i := 9) (by decide +kernel)))) (va_eqt (hfl (Cond.eq (.static "java/lang/String" "COMPACT_STRINGS" "Z") (.int 1)) (by decide +kernel))) hAs
  have hZq := va_Zqof (C := "jdk/internal/util/Preconditions") (n := "SIOOBE_FORMATTER") (d := "Ljava/util/function/BiFunction;") (A := AL s) (hts _ (List.mem_append_right _ (List.mem_of_getElem? (i := 319) (by decide +kernel)))) (hts _ (List.mem_append_right _ (List.mem_of_getElem? (i := 11) (by decide +kernel)))) (hfl _ (by decide +kernel)) hAs
  refine ⟨(fun k => [cc0, cc1, cc2, cc3, cc4, cc5, cc6, cc7].getD k 0, fun k => [ci0, ci1, ci2, ci3, ci4, ci5, ci6, ci7].getD k (fun _ => 0)), (fun k => if k < 10 then [yI, yJ, yB, yZ].getD k 0 else if k < 20 then adK (k - 10) else adV (k - 20)), ⟨⟨?_, ?_⟩, ?_⟩, ?_, ?_, hZ, hZq⟩
  · intro k q hq
    match k, hq with
    | 0, hq => cases hq; exact ck0
    | 1, hq => cases hq; exact ck1
    | 2, hq => cases hq; exact ck2
    | 3, hq => cases hq; exact ck3
    | 4, hq => cases hq; exact ck4
    | 5, hq => cases hq; exact ck5
    | 6, hq => cases hq; exact ck6
    | 7, hq => cases hq; exact ck7
    | k + 8, hq => simp [vwCl] at hq
  · intro k q hq
    match k, hq with
    | 0, hq => cases hq; exact ⟨fun n z => ⟨fun k h => (by cases h), kI, f2I, pI, f3I⟩, f1I⟩
    | 1, hq => cases hq; exact ⟨fun n z => ⟨fun k h => (by cases h), kJ, f2J, pJ, f3J⟩, f1J⟩
    | 2, hq => cases hq; exact ⟨fun n z => ⟨fun k h => (by cases h), kB, f2B, pB, f3B⟩, f1B⟩
    | 3, hq => cases hq; exact ⟨fun n z => ⟨fun k h => (by cases h), kZ, f2Z, pZ, f3Z⟩, f1Z⟩
    | k + 4, hq => simp [tyG] at hq
  · exact fun w hw => va_Nw.of (nw_tab (List.all_eq_true.mp nestW_all w hw)) (hts w (List.mem_append_right _ (nestW_tbl w hw)))
  · have e1 : ∀ i : Nat, i < 5 → (if 10 + i < 10 then [yI, yJ, yB, yZ].getD (10 + i) 0 else if 10 + i < 20 then adK (10 + i - 10) else adV (10 + i - 20)) = adK i := fun i hi => by
      rw [if_neg (by omega), if_pos (by omega)]; congr 1; omega
    have e2 : ∀ i : Nat, i < 5 → (if 20 + i < 10 then [yI, yJ, yB, yZ].getD (20 + i) 0 else if 20 + i < 20 then adK (20 + i - 10) else adV (20 + i - 20)) = adV i := fun i hi => by
      rw [if_neg (by omega), if_neg (by omega)]; congr 1; omega
    refine ⟨fun i hi => ?_, fun i j hi hj h => ?_⟩
    · dsimp only; rw [e1 i hi, e2 i hi]; exact hS.1 i hi
    · dsimp only at h; rw [e1 i hi, e1 j hj] at h; exact hS.2 i j hi hj h
  · intro i hi
    have e1 : (if 10 + i < 10 then [yI, yJ, yB, yZ].getD (10 + i) 0 else if 10 + i < 20 then adK (10 + i - 10) else adV (10 + i - 20)) = adK i := by
      rw [if_neg (by omega), if_pos (by omega)]; congr 1; omega
    dsimp only; rw [e1]
    refine vk_R.of (A := #[Value.ref b]) ?_ (hT i hi)
    rcases (show i = 0 ∨ i = 1 ∨ i = 2 ∨ i = 3 ∨ i = 4 by omega) with rfl | rfl | rfl | rfl | rfl
    · exact hts (.stringRef "EachBrings$Text" 111 "house") (List.mem_append_right _ (List.mem_of_getElem? (i := 289) (by decide +kernel)))
    · exact hts (.stringRef "EachBrings$Text" 117 "bar") (List.mem_append_right _ (List.mem_of_getElem? (i := 342) (by decide +kernel)))
    · exact hts (.stringRef "EachBrings$Text" 118 "law") (List.mem_append_right _ (List.mem_of_getElem? (i := 343) (by decide +kernel)))
    · exact hts (.stringRef "EachBrings$Text" 119 "pride") (List.mem_append_right _ (List.mem_of_getElem? (i := 344) (by decide +kernel)))
    · exact hts (.stringRef "EachBrings$Text" 120 "memory") (List.mem_append_right _ (List.mem_of_getElem? (i := 345) (by decide +kernel)))
