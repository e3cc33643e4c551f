/-! the words of the nest, which no list of good words holds: carried beside the world -/
def nestW : List Cond := [
  Cond.methodLinkNest "EachBrings" 11 ⟨"EachBrings$Text", "<init>", "()V"⟩ "EachBrings",
  Cond.methodLinkNest "EachBrings$Text" 17 ⟨"EachBrings$Village", "<init>", "()V"⟩ "EachBrings",
  Cond.methodLinkNest "EachBrings$Village" 11 ⟨"EachBrings$Weights", "<init>", "()V"⟩ "EachBrings",
  Cond.fieldLinkNest "EachBrings" 83 "EachBrings$Village" "weights" "LEachBrings$Weights;" "EachBrings",
  Cond.fieldLinkNest "EachBrings" 95 "EachBrings$Village" "eats" "[I" "EachBrings",
  Cond.fieldLinkNest "EachBrings" 98 "EachBrings$Village" "barred" "[I" "EachBrings",
  Cond.fieldLinkNest "EachBrings$Text" 74 "EachBrings$Village" "houses" "I" "EachBrings",
  Cond.fieldLinkNest "EachBrings" 257 "EachBrings$Village" "houses" "I" "EachBrings",
  Cond.fieldLinkNest "EachBrings" 111 "EachBrings$Village" "law" "I" "EachBrings",
  Cond.fieldLinkNest "EachBrings$Text" 89 "EachBrings$Village" "law" "I" "EachBrings",
  Cond.fieldLinkNest "EachBrings" 114 "EachBrings$Village" "pride" "I" "EachBrings",
  Cond.fieldLinkNest "EachBrings$Text" 92 "EachBrings$Village" "pride" "I" "EachBrings",
  Cond.fieldLinkNest "EachBrings" 117 "EachBrings$Village" "memory" "I" "EachBrings",
  Cond.fieldLinkNest "EachBrings$Text" 95 "EachBrings$Village" "memory" "I" "EachBrings",
  Cond.fieldLinkNest "EachBrings" 76 "EachBrings$Text" "draft" "LEachBrings$Village;" "EachBrings",
  Cond.fieldLinkNest "EachBrings" 65 "EachBrings$Text" "length" "I" "EachBrings",
  Cond.methodLinkNest "EachBrings" 18 ⟨"EachBrings$Village", "<init>", "()V"⟩ "EachBrings",
  Cond.methodLinkNest "EachBrings" 25 ⟨"EachBrings$Now", "<init>", "()V"⟩ "EachBrings",
  Cond.methodLinkNest "EachBrings$Now" 11 ⟨"EachBrings$Weights", "<init>", "()V"⟩ "EachBrings",
  Cond.fieldLinkNest "EachBrings" 104 "EachBrings$Now" "weights" "LEachBrings$Weights;" "EachBrings",
  Cond.fieldLinkNest "EachBrings" 101 "EachBrings$Now" "brought" "[I" "EachBrings",
  Cond.fieldLinkNest "EachBrings" 141 "EachBrings$Now" "left" "[I" "EachBrings",
  Cond.fieldLinkNest "EachBrings" 218 "EachBrings$Now" "health" "[I" "EachBrings",
  Cond.fieldLinkNest "EachBrings" 123 "EachBrings$Now" "eaten" "Z" "EachBrings",
  Cond.fieldLinkNest "EachBrings" 163 "EachBrings$Now" "year" "I" "EachBrings",
  Cond.fieldLinkNest "EachBrings" 62 "EachBrings$Now" "lot" "I" "EachBrings",
  Cond.methodLinkNest "EachBrings" 38 ⟨"EachBrings$Chances", "<init>", "()V"⟩ "EachBrings",
  Cond.fieldLinkNest "EachBrings" 197 "EachBrings$Chances" "told" "[I" "EachBrings",
  Cond.methodLinkNest "EachBrings" 45 ⟨"EachBrings$Years", "<init>", "()V"⟩ "EachBrings",
  Cond.methodLinkNest "EachBrings$Years" 11 ⟨"EachBrings$Weights", "<init>", "()V"⟩ "EachBrings",
  Cond.fieldLinkNest "EachBrings" 212 "EachBrings$Years" "first" "I" "EachBrings",
  Cond.fieldLinkNest "EachBrings" 215 "EachBrings$Years" "later" "I" "EachBrings",
  Cond.methodLinkNest "EachBrings" 68 ⟨"EachBrings$Text", "add", "(JI)V"⟩ "EachBrings",
  Cond.methodLinkNest "EachBrings" 72 ⟨"EachBrings$Text", "read", "()I"⟩ "EachBrings",
  Cond.methodLinkNest "EachBrings$Text" 51 ⟨"EachBrings$Village", "empty", "()V"⟩ "EachBrings",
  Cond.methodLinkNest "EachBrings$Village" 38 ⟨"EachBrings$Weights", "empty", "()V"⟩ "EachBrings",
  Cond.methodLinkNest "EachBrings$Text" 81 ⟨"EachBrings$Village", "addHouse", "([I)V"⟩ "EachBrings",
  Cond.methodLinkNest "EachBrings$Village" 41 ⟨"EachBrings$Weights", "put", "(III)V"⟩ "EachBrings",
  Cond.methodLinkNest "EachBrings$Text" 85 ⟨"EachBrings$Village", "bar", "(II)V"⟩ "EachBrings",
  Cond.methodLinkNest "EachBrings" 79 ⟨"EachBrings$Village", "copyFrom", "(LEachBrings$Village;)V"⟩ "EachBrings",
  Cond.methodLinkNest "EachBrings$Village" 45 ⟨"EachBrings$Weights", "copyFrom", "(LEachBrings$Weights;)V"⟩ "EachBrings",
  Cond.methodLinkNest "EachBrings" 87 ⟨"EachBrings$Now", "begin", "(LEachBrings$Weights;)V"⟩ "EachBrings",
  Cond.methodLinkNest "EachBrings$Now" 45 ⟨"EachBrings$Weights", "copyFrom", "(LEachBrings$Weights;)V"⟩ "EachBrings",
  Cond.methodLinkNest "EachBrings" 105 ⟨"EachBrings$Weights", "of", "(II)I"⟩ "EachBrings",
  Cond.methodLinkNest "EachBrings" 131 ⟨"EachBrings$Now", "carry", "(III)V"⟩ "EachBrings",
  Cond.methodLinkNest "EachBrings" 269 ⟨"EachBrings$Now", "drawn", "(I)I"⟩ "EachBrings",
  Cond.methodLinkNest "EachBrings$Now" 55 ⟨"EachBrings$Weights", "together", "(I)I"⟩ "EachBrings",
  Cond.methodLinkNest "EachBrings$Now" 60 ⟨"EachBrings$Weights", "of", "(II)I"⟩ "EachBrings",
  Cond.methodLinkNest "EachBrings" 272 ⟨"EachBrings$Weights", "nextFrom", "(II)I"⟩ "EachBrings",
  Cond.methodLinkNest "EachBrings" 275 ⟨"EachBrings$Now", "seenOnBoard", "(I)I"⟩ "EachBrings",
  Cond.methodLinkNest "EachBrings" 144 ⟨"EachBrings$Now", "bringersOf", "(I)I"⟩ "EachBrings",
  Cond.methodLinkNest "EachBrings" 147 ⟨"EachBrings$Now", "feed", "(III)I"⟩ "EachBrings",
  Cond.methodLinkNest "EachBrings" 151 ⟨"EachBrings$Now", "spoonsOf", "(II)I"⟩ "EachBrings",
  Cond.methodLinkNest "EachBrings" 154 ⟨"EachBrings$Now", "allSpoonsOf", "(I)I"⟩ "EachBrings",
  Cond.methodLinkNest "EachBrings" 157 ⟨"EachBrings$Weights", "pass", "(III)V"⟩ "EachBrings",
  Cond.methodLinkNest "EachBrings" 160 ⟨"EachBrings$Now", "clearTable", "()V"⟩ "EachBrings",
  Cond.methodLinkNest "EachBrings" 171 ⟨"EachBrings$Chances", "countBringers", "(LEachBrings$Weights;I)V"⟩ "EachBrings",
  Cond.methodLinkNest "EachBrings$Chances" 32 ⟨"EachBrings$Weights", "together", "(I)I"⟩ "EachBrings",
  Cond.methodLinkNest "EachBrings$Chances" 38 ⟨"EachBrings$Weights", "of", "(II)I"⟩ "EachBrings",
  Cond.methodLinkNest "EachBrings" 175 ⟨"EachBrings$Chances", "waysFrom", "(I)J"⟩ "EachBrings",
  Cond.methodLinkNest "EachBrings" 183 ⟨"EachBrings$Chances", "leaveAllFree", "(LEachBrings$Weights;)V"⟩ "EachBrings",
  Cond.methodLinkNest "EachBrings" 186 ⟨"EachBrings$Chances", "waysToAll", "()J"⟩ "EachBrings",
  Cond.methodLinkNest "EachBrings" 190 ⟨"EachBrings$Chances", "waysInAll", "()J"⟩ "EachBrings",
  Cond.methodLinkNest "EachBrings" 193 ⟨"EachBrings$Chances", "fewestTold", "(LEachBrings$Weights;II)I"⟩ "EachBrings",
  Cond.methodLinkNest "EachBrings" 208 ⟨"EachBrings$Years", "comeRound", "(LEachBrings$Weights;I)Z"⟩ "EachBrings",
  Cond.methodLinkNest "EachBrings$Years" 36 ⟨"EachBrings$Weights", "copyFrom", "(LEachBrings$Weights;)V"⟩ "EachBrings",
  Cond.methodLinkNest "EachBrings$Years" 40 ⟨"EachBrings$Weights", "packed", "(I)J"⟩ "EachBrings",
  Cond.methodLinkNest "EachBrings$Years" 52 ⟨"EachBrings$Weights", "heaviest", "(I)I"⟩ "EachBrings",
  Cond.methodLinkNest "EachBrings$Years" 55 ⟨"EachBrings$Weights", "pass", "(III)V"⟩ "EachBrings",
  Cond.methodLinkNest "EachBrings" 278 ⟨"EachBrings$Weights", "heaviest", "(I)I"⟩ "EachBrings",
  Cond.methodLinkNest "EachBrings" 287 ⟨"EachBrings$Weights", "sortsOf", "(I)I"⟩ "EachBrings",
  Cond.methodLinkNest "EachBrings" 254 ⟨"EachBrings$Now", "copyFrom", "(LEachBrings$Now;)V"⟩ "EachBrings",
  Cond.methodLinkNest "EachBrings" 260 ⟨"EachBrings$Now", "bringers", "()I"⟩ "EachBrings",
  Cond.methodLinkNest "EachBrings" 263 ⟨"EachBrings$Now", "spoonsLeft", "()I"⟩ "EachBrings",
  Cond.methodLinkNest "EachBrings" 266 ⟨"EachBrings$Now", "toldHealths", "()I"⟩ "EachBrings"]
def isNest : Cond → Bool
  | .fieldLinkNest .. => true
  | .methodLinkNest .. => true
  | _ => false
theorem nestW_all : nestW.all isNest = true := by decide +kernel
theorem nw_warm {w : Cond} (hw : isNest w = true) {s U : State} (hW : s.WarmedH U.vm) (h : va_Nw w s) : va_Nw w U := by
  cases w <;> first | exact va_Nw.warmF hW h | exact va_Nw.warmM hW h | (simp [isNest] at hw; done)
theorem nw_tab {w : Cond} (hw : isNest w = true) : w.onTables = true := by
  cases w <;> first | rfl | (simp [isNest] at hw; done)
def NW (U : State) : Prop := ∀ w ∈ nestW, va_Nw w U
theorem NW.warm {s U : State} (hW : s.WarmedH U.vm) (h : NW s) : NW U := fun w hw => nw_warm (List.all_eq_true.mp nestW_all w hw) hW (h w hw)
theorem NW.same {s U : State} (hv : s.vm = U.vm) (h : NW s) : NW U := fun w hw => va_Nw.same (nw_tab (List.all_eq_true.mp nestW_all w hw)) hv (h w hw)
theorem NW.at {s : State} (h : NW s) (i : Nat) {w : Cond} (hi : nestW[i]? = some w) : va_Nw w s := h w (List.mem_of_getElem? hi)
theorem NW.use {s : State} (h : NW s) (i : Nat) {w : Cond} (hi : nestW[i]? = some w) {A : Array Value} : w.before A s = true := va_Nw.use (nw_tab (List.all_eq_true.mp nestW_all w (List.mem_of_getElem? hi))) (h.at i hi)
/-- the array classes: 0 int, 1 long, 2 byte, 3 boolean -/
abbrev tyG (cy : Nat → ClassId) : List (ClassId × FieldType) := [(cy 0, .int), (cy 1, .long), (cy 2, .byte), (cy 3, .boolean)]
def cx (D : va_G) (cy : Nat → ClassId) (U : State) : Prop := va_K D vwCl (tyG cy) U ∧ NW U
theorem cx.warm {D : va_G} {cy : Nat → ClassId} {s U : State} (hW : s.WarmedH U.vm) (h : cx D cy s) : cx D cy U := ⟨va_K.moved hW.alike h.1, h.2.warm hW⟩
/-- the texts that stand in the program: 0 house, 1 bar, 2 law, 3 pride, 4 memory; their objects are cy 10 .., their rows cy 20 .. -/
def sIx : List Nat := [111, 117, 118, 119, 120]
def sTx : List String := ["house", "bar", "law", "pride", "memory"]
def sLen : List Nat := [5, 3, 3, 5, 6]
def sByt : List (List Int32) := [[104, 111, 117, 115, 101], [98, 97, 114], [108, 97, 119], [112, 114, 105, 100, 101], [109, 101, 109, 111, 114, 121]]
def SX (cy : Nat → ClassId) (A : Nat → Prop) (U : State) (H : Heap) : Prop :=
  vk_S 5 sLen sByt (fun i => cy (10 + i)) (fun i => cy (20 + i)) A U H ∧ (∀ i : Nat, i < 5 → vk_R "EachBrings$Text" (sIx.getD i 0) (sTx.getD i "") (cy (10 + i)) U) ∧
  va_Z "java/lang/String" "COMPACT_STRINGS" "Z" (.int 1) A U H ∧ va_Zq "jdk/internal/util/Preconditions" "SIOOBE_FORMATTER" "Ljava/util/function/BiFunction;" A U H
theorem SX.warm {cy : Nat → ClassId} {A : Nat → Prop} {s U : State} {H : Heap} (hW : s.WarmedH U.vm) (h : SX cy A s H) : SX cy A U H :=
  ⟨h.1.moved hW.alike, fun i hi => (h.2.1 i hi).warm hW, h.2.2.1.moved hW.alike, h.2.2.2.moved hW.alike⟩
theorem SX.same {cy : Nat → ClassId} {A : Nat → Prop} {s U : State} {H : Heap} (hv : U.vm = s.vm) (ha : s.vm.Alike U.vm) (h : SX cy A s H) : SX cy A U H :=
  ⟨h.1.moved ha, fun i hi => (h.2.1 i hi).same hv, h.2.2.1.moved ha, h.2.2.2.moved ha⟩
theorem SX.kept {cy : Nat → ClassId} {A : Nat → Prop} {U : State} {H H1 : Heap} (h : SX cy A U H) (hq : ∀ a : Nat, a < H.size → ¬ A a → H1[a]? = H[a]?) : SX cy A U H1 :=
  ⟨h.1.kept hq, h.2.1, h.2.2.1.kept hq, h.2.2.2.kept hq⟩
theorem SX.narrow {cy : Nat → ClassId} {A B : Nat → Prop} {U : State} {H : Heap} (h : SX cy A U H) (hAB : ∀ q, B q → A q) : SX cy B U H :=
  ⟨h.1.narrow hAB, h.2.1, h.2.2.1.narrow hAB, h.2.2.2.narrow hAB⟩
abbrev aI (cy : Nat → ClassId) (n : Nat) (f : Nat → Int32) : va_E := .inl (cy 0, n, .inl f)
abbrev aJ (cy : Nat → ClassId) (n : Nat) (f : Nat → Int64) : va_E := .inl (cy 1, n, .inr (.inl f))
abbrev aB (cy : Nat → ClassId) (n : Nat) (f : Nat → Int32) : va_E := .inl (cy 2, n, .inl f)
abbrev aZ (cy : Nat → ClassId) (n : Nat) (f : Nat → Int32) : va_E := .inl (cy 3, n, .inl f)
abbrev oB (ci : Nat) (fs : List Value) : va_E := .inr (ci, fs)
def PB (D : va_G) (cy : Nat → ClassId) (sz : Nat) (ws : va_W) (U : State) : Prop := U.heap.size = sz ∧ va_P D vwCl ws U.heap ∧ va_D (fun _ => True) ws ∧ cx D cy U ∧ SX cy (va_A ws sz) U U.heap
def QB (D : va_G) (sz : Nat) (ws ws1 : va_W) (t : State) : Prop := va_P D vwCl ws1 t.heap ∧ va_D (va_A ws sz) ws1
theorem PB.blind {D : va_G} {cy : Nat → ClassId} {sz : Nat} {ws : va_W} {av : List Value} : FrameBlind (va_Pc av (PB D cy sz ws)) := fun a U g mk q => by
  obtain ⟨q0, q1, q2, q3, ⟨q4, q5⟩, q6⟩ := q
  exact ⟨q0, q1, q2, q3, ⟨va_K.moved (u := U) (U := U.calling g mk a) (Vm.Alike.refl U.vm) q4, NW.same (s := U) (U := U.calling g mk a) rfl q5⟩, SX.same (s := U) (U := U.calling g mk a) rfl (Vm.Alike.refl U.vm) q6⟩
/-- contracts: the answer and the world behind are told exactly -/
def CtI (l : Launch) (y : MethodName) (wd : List Cond) (rm : Room) (D : va_G) (cy : Nat → ClassId) (av : List Value) (ws ws1 : va_W) (r0 : Int32) : Prop :=
  ∀ sz : Nat, Met l y wd rm (va_Pc av (PB D cy sz ws)) (va_Qi (fun r (_ : Unit) => r = r0) (fun _ t => QB D sz ws ws1 t) (va_A ws sz)) 0 0 (va_A ws sz)
def CtL (l : Launch) (y : MethodName) (wd : List Cond) (rm : Room) (D : va_G) (cy : Nat → ClassId) (av : List Value) (ws ws1 : va_W) (r0 : Int64) : Prop :=
  ∀ sz : Nat, Met l y wd rm (va_Pc av (PB D cy sz ws)) (va_Ql (fun r (_ : Unit) => r = r0) (fun _ t => QB D sz ws ws1 t) (va_A ws sz)) 0 0 (va_A ws sz)
def CtV (l : Launch) (y : MethodName) (wd : List Cond) (rm : Room) (D : va_G) (cy : Nat → ClassId) (av : List Value) (ws ws1 : va_W) : Prop :=
  ∀ sz : Nat, Met l y wd rm (va_Pc av (PB D cy sz ws)) (va_Qv (fun (_ : Unit) => True) (fun _ t => QB D sz ws ws1 t) (va_A ws sz)) 0 0 (va_A ws sz)
def CtR (l : Launch) (y : MethodName) (wd : List Cond) (rm : Room) (D : va_G) (cy : Nat → ClassId) (av : List Value) (ws ws1 : va_W) (r0 : Nat) : Prop :=
  ∀ sz : Nat, Met l y wd rm (va_Pc av (PB D cy sz ws)) (va_Qr (fun (_ : Unit) => True) (fun _ a t => a = r0 ∧ QB D sz ws ws1 t) (va_A ws sz)) 0 0 (va_A ws sz)
/-- a constructor: its world behind it lies at addresses that nobody knows -/
def CtN (l : Launch) (y : MethodName) (wd : List Cond) (rm : Room) (D : va_G) (cy : Nat → ClassId) (av : List Value) (ws : va_W) (G : (Nat → Nat) → va_W) (mc ms : Nat) : Prop :=
  ∀ sz : Nat, Met l y wd rm (va_Pc av (PB D cy sz ws)) (va_Qv (fun (_ : Unit) => True) (fun _ t => ∃ qs : Nat → Nat, QB D sz ws (G qs) t) (va_A ws sz)) mc ms (va_A ws sz)
/-- what a walk of a method has at hand -/
def ME (p : Program) (s : State) (m : MethodId) (args : Array Value) (c : Code) (cc : ByteArray) (nL : Nat) (own : String) (Ts : List Cond) (D : va_G) (cy : Nat → ClassId) (A : Nat → Prop) : Prop :=
  p.tables.exec = Jvm.exec ∧ c.code = cc ∧ c.maxLocals = nL ∧ s.vm.findClass own = some m.cls ∧ (∀ w ∈ Ts, w.before args s = true) ∧ cx D cy s ∧ (∀ q, s.heap.size ≤ q → A q) ∧ SX cy A s s.heap
abbrev isB (v : Int32) : Prop := v = 0 ∨ v = 1
theorem isB.nar {v : Int32} (h : isB v) : narrow .boolean (.int v) = .int v := by
  rcases h with rfl | rfl <;> decide
theorem isB.fit {v : Int32} (h : isB v) : fits .boolean (.int v) = true := by
  rcases h with rfl | rfl <;> decide
section CT
variable {l : Launch} {y : MethodName} {wd wd' : List Cond} {rm : Room} {D : va_G} {cy : Nat → ClassId} {av : List Value} {ws ws1 : va_W} {cc : ByteArray} {nL : Nat}
theorem Ct_ofI {r0 : Int32} (hy : plainName y.cls = true) (hw : wd = Cond.code y cc nL (some .int) :: wd') (hlen : (lg_sl av).length ≤ nL)
    (body : ∀ (p : Program) (e : Env) (s : State) (m : MethodId) (args : Array Value) (below : List Frame) (meth : Method) (c : Code) (A : Nat → Prop) (Q : State → Prop), ME p s m args c cc nL y.cls wd D cy A →
      (∀ (pc : Nat) (ls : Array Slot) (H : Heap) (locs : List Loc) (v : Int32), decode cc pc = .ok (.ireturn, 1) → v = r0 → va_P D vwCl ws1 H → va_D A ws1 → va_S A s.heap H locs → W p l e rm s m args below meth c H locs 0 0 Q (F0 m pc ls [.int v])) →
      va_P D vwCl ws s.heap → va_D A ws → va_S A s.heap s.heap [] → ∀ ls : Array Slot, lv_has ls nL (lv_args 0 av) → W p l e rm s m args below meth c s.heap [] 0 0 Q (F0 m 0 ls [])) : CtI l y wd rm D cy av ws ws1 r0 := by
  intro sz
  refine Met.ofW (cc := cc) (maxL := nL) (ret := some .int) hy hw ?_
  intro p e s m args below meth c s₁ B hml hv
  obtain ⟨rfl, hsz, hP, hD0, hcx, hsx⟩ := hv
  subst hsz
  have hD := hD0.self (sz := s.heap.size)
  rw [lg_entry_eq]
  refine body p e s m _ below meth c (va_A ws s.heap.size) _ ⟨B.exec, B.bytes, hml, findClass_of_methodNamed B.named, atoms_spec (ws := wd) B.pre, hcx, fun q h => Or.inr h, hsx⟩ ?_ hP hD va_S.rf _ (lv_entry av hlen)
  intro pc ls H locs v hd hv hP1 hD1 hS
  have hlocks := B.notSynchronized
  exact W.iret (v := v) B.exec B.bytes B.returns (fun t ht hW => ⟨⟨v, (), rfl, hv, ⟨by rw [ht]; exact hP1, hD1⟩⟩, hS.F ht⟩) hS.2.2 hd
theorem Ct_ofZ {r0 : Int32} (hy : plainName y.cls = true) (hw : wd = Cond.code y cc nL (some .boolean) :: wd') (hlen : (lg_sl av).length ≤ nL)
    (body : ∀ (p : Program) (e : Env) (s : State) (m : MethodId) (args : Array Value) (below : List Frame) (meth : Method) (c : Code) (A : Nat → Prop) (Q : State → Prop), ME p s m args c cc nL y.cls wd D cy A →
      (∀ (pc : Nat) (ls : Array Slot) (H : Heap) (locs : List Loc) (v : Int32), decode cc pc = .ok (.ireturn, 1) → isB v → v = r0 → va_P D vwCl ws1 H → va_D A ws1 → va_S A s.heap H locs → W p l e rm s m args below meth c H locs 0 0 Q (F0 m pc ls [.int v])) →
      va_P D vwCl ws s.heap → va_D A ws → va_S A s.heap s.heap [] → ∀ ls : Array Slot, lv_has ls nL (lv_args 0 av) → W p l e rm s m args below meth c s.heap [] 0 0 Q (F0 m 0 ls [])) : CtI l y wd rm D cy av ws ws1 r0 := by
  intro sz
  refine Met.ofW (cc := cc) (maxL := nL) (ret := some .boolean) hy hw ?_
  intro p e s m args below meth c s₁ B hml hv
  obtain ⟨rfl, hsz, hP, hD0, hcx, hsx⟩ := hv
  subst hsz
  have hD := hD0.self (sz := s.heap.size)
  rw [lg_entry_eq]
  refine body p e s m _ below meth c (va_A ws s.heap.size) _ ⟨B.exec, B.bytes, hml, findClass_of_methodNamed B.named, atoms_spec (ws := wd) B.pre, hcx, fun q h => Or.inr h, hsx⟩ ?_ hP hD va_S.rf _ (lv_entry av hlen)
  intro pc ls H locs v hd hbv hv hP1 hD1 hS
  have hlocks := B.notSynchronized
  exact W.zret (v := v) B.exec B.bytes B.returns hbv.nar (fun t ht hW => ⟨⟨v, (), rfl, hv, ⟨by rw [ht]; exact hP1, hD1⟩⟩, hS.F ht⟩) hS.2.2 hd
theorem Ct_ofT {r0 : Int32} (ty : FieldType) (hy : plainName y.cls = true) (hw : wd = Cond.code y cc nL (some ty) :: wd') (hlen : (lg_sl av).length ≤ nL)
    (body : ∀ (p : Program) (e : Env) (s : State) (m : MethodId) (args : Array Value) (below : List Frame) (meth : Method) (c : Code) (A : Nat → Prop) (Q : State → Prop), ME p s m args c cc nL y.cls wd D cy A →
      (∀ (pc : Nat) (ls : Array Slot) (H : Heap) (locs : List Loc) (v : Int32), decode cc pc = .ok (.ireturn, 1) → narrow ty (.int v) = .int v → v = r0 → va_P D vwCl ws1 H → va_D A ws1 → va_S A s.heap H locs → W p l e rm s m args below meth c H locs 0 0 Q (F0 m pc ls [.int v])) →
      va_P D vwCl ws s.heap → va_D A ws → va_S A s.heap s.heap [] → ∀ ls : Array Slot, lv_has ls nL (lv_args 0 av) → W p l e rm s m args below meth c s.heap [] 0 0 Q (F0 m 0 ls [])) : CtI l y wd rm D cy av ws ws1 r0 := by
  intro sz
  refine Met.ofW (cc := cc) (maxL := nL) (ret := some ty) hy hw ?_
  intro p e s m args below meth c s₁ B hml hv
  obtain ⟨rfl, hsz, hP, hD0, hcx, hsx⟩ := hv
  subst hsz
  have hD := hD0.self (sz := s.heap.size)
  rw [lg_entry_eq]
  refine body p e s m _ below meth c (va_A ws s.heap.size) _ ⟨B.exec, B.bytes, hml, findClass_of_methodNamed B.named, atoms_spec (ws := wd) B.pre, hcx, fun q h => Or.inr h, hsx⟩ ?_ hP hD va_S.rf _ (lv_entry av hlen)
  intro pc ls H locs v hd hbv hv hP1 hD1 hS
  have hlocks := B.notSynchronized
  exact W.zret (v := v) B.exec B.bytes B.returns hbv (fun t ht hW => ⟨⟨v, (), rfl, hv, ⟨by rw [ht]; exact hP1, hD1⟩⟩, hS.F ht⟩) hS.2.2 hd
theorem Ct_ofL {r0 : Int64} (hy : plainName y.cls = true) (hw : wd = Cond.code y cc nL (some .long) :: wd') (hlen : (lg_sl av).length ≤ nL)
    (body : ∀ (p : Program) (e : Env) (s : State) (m : MethodId) (args : Array Value) (below : List Frame) (meth : Method) (c : Code) (A : Nat → Prop) (Q : State → Prop), ME p s m args c cc nL y.cls wd D cy A →
      (∀ (pc : Nat) (ls : Array Slot) (H : Heap) (locs : List Loc) (v : Int64), decode cc pc = .ok (.lreturn, 1) → v = r0 → va_P D vwCl ws1 H → va_D A ws1 → va_S A s.heap H locs → W p l e rm s m args below meth c H locs 0 0 Q (F0 m pc ls [.long v])) →
      va_P D vwCl ws s.heap → va_D A ws → va_S A s.heap s.heap [] → ∀ ls : Array Slot, lv_has ls nL (lv_args 0 av) → W p l e rm s m args below meth c s.heap [] 0 0 Q (F0 m 0 ls [])) : CtL l y wd rm D cy av ws ws1 r0 := by
  intro sz
  refine Met.ofW (cc := cc) (maxL := nL) (ret := some .long) hy hw ?_
  intro p e s m args below meth c s₁ B hml hv
  obtain ⟨rfl, hsz, hP, hD0, hcx, hsx⟩ := hv
  subst hsz
  have hD := hD0.self (sz := s.heap.size)
  rw [lg_entry_eq]
  refine body p e s m _ below meth c (va_A ws s.heap.size) _ ⟨B.exec, B.bytes, hml, findClass_of_methodNamed B.named, atoms_spec (ws := wd) B.pre, hcx, fun q h => Or.inr h, hsx⟩ ?_ hP hD va_S.rf _ (lv_entry av hlen)
  intro pc ls H locs v hd hv hP1 hD1 hS
  have hlocks := B.notSynchronized
  exact W.lret (v := v) B.exec B.bytes B.returns (fun t ht hW => ⟨⟨v, (), rfl, hv, ⟨by rw [ht]; exact hP1, hD1⟩⟩, hS.F ht⟩) hS.2.2 hd
theorem Ct_ofV (hy : plainName y.cls = true) (hw : wd = Cond.code y cc nL none :: wd') (hlen : (lg_sl av).length ≤ nL)
    (body : ∀ (p : Program) (e : Env) (s : State) (m : MethodId) (args : Array Value) (below : List Frame) (meth : Method) (c : Code) (A : Nat → Prop) (Q : State → Prop), ME p s m args c cc nL y.cls wd D cy A →
      (∀ (pc : Nat) (ls : Array Slot) (H : Heap) (locs : List Loc), decode cc pc = .ok (.return_, 1) → va_P D vwCl ws1 H → va_D A ws1 → va_S A s.heap H locs → W p l e rm s m args below meth c H locs 0 0 Q (F0 m pc ls [])) →
      va_P D vwCl ws s.heap → va_D A ws → va_S A s.heap s.heap [] → ∀ ls : Array Slot, lv_has ls nL (lv_args 0 av) → W p l e rm s m args below meth c s.heap [] 0 0 Q (F0 m 0 ls [])) : CtV l y wd rm D cy av ws ws1 := by
  intro sz
  refine Met.ofW (cc := cc) (maxL := nL) (ret := none) hy hw ?_
  intro p e s m args below meth c s₁ B hml hv
  obtain ⟨rfl, hsz, hP, hD0, hcx, hsx⟩ := hv
  subst hsz
  have hD := hD0.self (sz := s.heap.size)
  rw [lg_entry_eq]
  refine body p e s m _ below meth c (va_A ws s.heap.size) _ ⟨B.exec, B.bytes, hml, findClass_of_methodNamed B.named, atoms_spec (ws := wd) B.pre, hcx, fun q h => Or.inr h, hsx⟩ ?_ hP hD va_S.rf _ (lv_entry av hlen)
  intro pc ls H locs hd hP1 hD1 hS
  have hlocks := B.notSynchronized
  exact W.vret B.exec B.bytes B.returns (fun t ht hW => ⟨⟨(), rfl, trivial, ⟨by rw [ht]; exact hP1, hD1⟩⟩, hS.F ht⟩) hS.2.2 hd
theorem Ct_ofN {G : (Nat → Nat) → va_W} {mc ms : Nat} (hy : plainName y.cls = true) (hw : wd = Cond.code y cc nL none :: wd') (hlen : (lg_sl av).length ≤ nL)
    (body : ∀ (p : Program) (e : Env) (s : State) (m : MethodId) (args : Array Value) (below : List Frame) (meth : Method) (c : Code) (A : Nat → Prop) (Q : State → Prop), ME p s m args c cc nL y.cls wd D cy A → meth.name = y.name →
      (∀ (pc : Nat) (ls : Array Slot) (H : Heap) (locs : List Loc) (qs : Nat → Nat), decode cc pc = .ok (.return_, 1) → va_P D vwCl (G qs) H → va_D A (G qs) → va_S A s.heap H locs → W p l e rm s m args below meth c H locs mc ms Q (F0 m pc ls [])) →
      va_P D vwCl ws s.heap → va_D A ws → va_S A s.heap s.heap [] → ∀ ls : Array Slot, lv_has ls nL (lv_args 0 av) → W p l e rm s m args below meth c s.heap [] 0 0 Q (F0 m 0 ls [])) : CtN l y wd rm D cy av ws G mc ms := by
  intro sz
  refine Met.ofW (cc := cc) (maxL := nL) (ret := none) hy hw ?_
  intro p e s m args below meth c s₁ B hml hv
  obtain ⟨rfl, hsz, hP, hD0, hcx, hsx⟩ := hv
  subst hsz
  have hD := hD0.self (sz := s.heap.size)
  rw [lg_entry_eq]
  refine body p e s m _ below meth c (va_A ws s.heap.size) _ ⟨B.exec, B.bytes, hml, findClass_of_methodNamed B.named, atoms_spec (ws := wd) B.pre, hcx, fun q h => Or.inr h, hsx⟩ (name_of_methodNamed B.named B.method).1 ?_ hP hD va_S.rf _ (lv_entry av hlen)
  intro pc ls H locs qs hd hP1 hD1 hS
  have hlocks := B.notSynchronized
  exact W.vret B.exec B.bytes B.returns (fun t ht hW => ⟨⟨(), rfl, trivial, qs, ⟨by rw [ht]; exact hP1, hD1⟩⟩, hS.F ht⟩) hS.2.2 hd
theorem Ct_ofR {r0 : Nat} {C0 : String} (hy : plainName y.cls = true) (hw : wd = Cond.code y cc nL (some (.object C0)) :: wd') (hlen : (lg_sl av).length ≤ nL)
    (body : ∀ (p : Program) (e : Env) (s : State) (m : MethodId) (args : Array Value) (below : List Frame) (meth : Method) (c : Code) (A : Nat → Prop) (Q : State → Prop), ME p s m args c cc nL y.cls wd D cy A →
      (∀ (pc : Nat) (ls : Array Slot) (H : Heap) (locs : List Loc) (v : Nat), decode cc pc = .ok (.areturn, 1) → v = r0 → va_P D vwCl ws1 H → va_D A ws1 → va_S A s.heap H locs → W p l e rm s m args below meth c H locs 0 0 Q (F0 m pc ls [.ref v])) →
      va_P D vwCl ws s.heap → va_D A ws → va_S A s.heap s.heap [] → ∀ ls : Array Slot, lv_has ls nL (lv_args 0 av) → W p l e rm s m args below meth c s.heap [] 0 0 Q (F0 m 0 ls [])) : CtR l y wd rm D cy av ws ws1 r0 := by
  intro sz
  refine Met.ofW (cc := cc) (maxL := nL) (ret := some (.object C0)) hy hw ?_
  intro p e s m args below meth c s₁ B hml hv
  obtain ⟨rfl, hsz, hP, hD0, hcx, hsx⟩ := hv
  subst hsz
  have hD := hD0.self (sz := s.heap.size)
  rw [lg_entry_eq]
  refine body p e s m _ below meth c (va_A ws s.heap.size) _ ⟨B.exec, B.bytes, hml, findClass_of_methodNamed B.named, atoms_spec (ws := wd) B.pre, hcx, fun q h => Or.inr h, hsx⟩ ?_ hP hD va_S.rf _ (lv_entry av hlen)
  intro pc ls H locs v hd hv hP1 hD1 hS
  have hlocks := B.notSynchronized
  exact W.aret (v := .ref v) B.exec B.bytes B.returns (Or.inl ⟨_, rfl⟩) (Or.inr ⟨v, rfl⟩) (fun t ht hW => ⟨⟨(), v, rfl, trivial, hv, by rw [ht]; exact hP1, hD1⟩, hS.F ht⟩) hS.2.2 hd
end CT
theorem va_P.pick {D : va_G} {cl : List vw_C} {ws ws' : va_W} {H : Heap} (h : va_P D cl ws H) (is : List Nat) (hs : is.map (fun i => ws[i]?) = ws'.map some) : va_P D cl ws' H := by
  intro k q hk
  have h1 : (is.map (fun i => ws[i]?))[k]? = some (some q) := by rw [hs, List.getElem?_map, hk]; rfl
  rw [List.getElem?_map] at h1
  cases hi : is[k]? with
  | none => rw [hi] at h1; cases h1
  | some i => rw [hi] at h1; exact h i q (Option.some.inj h1)
section CALL
variable {p : Program} {l : Launch} {e : Env} {R : Room} {s : State} {m : MethodId} {args : Array Value} {below : List Frame} {meth : Method} {c : Code} {H : Heap} {locs : List Loc} {cells slots : Nat} {Q : State → Prop}
variable {cc : ByteArray} {pc nL : Nat} {ls : Array Slot} {rest st : List Value} {D : va_G} {cy : Nat → ClassId} {A : Nat → Prop} {Ts wd : List Cond} {own : String} {y : MethodName} {rm : Room} {ws wc wr w1 w2 : va_W} {free : Addr → Prop} {av : Array Value}
/-- behind a call: the caller's world, the callee's part anew, in the caller's order -/
theorem cl_back (hP : va_P D vwCl ws H) (hD : va_D A ws) (hS : va_S A s.heap H locs) (hA : ∀ q, s.heap.size ≤ q → A q) (isC isR isP : List Nat) (hC : isC.map (fun i => ws[i]?) = wc.map some) (hR : isR.map (fun i => ws[i]?) = wr.map some) (hnd : va_nd isR = true) (hdis : ∀ i ∈ isR, i ∉ isC) (hnp : va_nd isP = true) (h2 : isP.map (fun i => (wr ++ w1)[i]?) = w2.map some)
    {H1 : Heap} (hk : ∀ q : Nat, q < H.size → ¬ va_A wc H.size q → H1[q]? = H[q]?) {t : State} (ht : t.heap = H1) (hB : QB D H.size wc w1 t) : va_P D vwCl w2 H1 ∧ va_D A w2 := by
  obtain ⟨hP1, hD1⟩ := hB
  rw [ht] at hP1
  obtain ⟨a, b⟩ := va_join (wr := wr) (w1 := w1) hP hD isC isR hC hR hnd hdis hk (va_free hD hS hA isC hC) hP1 hD1
  exact ⟨a.pick isP h2, b.sub isP hnp h2⟩
theorem cl_i {r0 : Int32} (hr : va_Run p l e R s m args below meth c H locs cells slots 0 0 (F0 m pc ls st) rest (va_Qi (fun r (_ : Unit) => r = r0) (fun _ t => QB D H.size wc w1 t) (va_A wc H.size) av) (va_A wc H.size)) (hP : va_P D vwCl ws H) (hD : va_D A ws) (hS : va_S A s.heap H locs) (hA : ∀ q, s.heap.size ≤ q → A q) (isC isR isP : List Nat) (hC : isC.map (fun i => ws[i]?) = wc.map some) (hR : isR.map (fun i => ws[i]?) = wr.map some) (hnd : va_nd isR = true) (hdis : ∀ i ∈ isR, i ∉ isC) (hnp : va_nd isP = true) (h2 : isP.map (fun i => (wr ++ w1)[i]?) = w2.map some)
    (kk : ∀ (H1 : Heap) (locs1 : List Loc), va_P D vwCl w2 H1 → va_D A w2 → va_S A s.heap H1 locs1 → W p l e R s m args below meth c H1 locs1 cells slots Q (F0 m (pc + 3) ls (.int r0 :: rest))) : W p l e R s m args below meth c H locs cells slots Q (F0 m pc ls st) := by
  have hF := va_free hD hS hA isC hC
  refine va_calli hr hS (fun q _ h => hF q h) hF (fun r u t H1 locs1 ht hvm hw hB hz1 hk1 hS1 => ?_)
  subst hw
  obtain ⟨a, b⟩ := cl_back (wr := wr) (w2 := w2) hP hD hS hA isC isR isP hC hR hnd hdis hnp h2 hk1 ht hB
  exact kk H1 locs1 a b hS1
theorem cl_l {r0 : Int64} (hr : va_Run p l e R s m args below meth c H locs cells slots 0 0 (F0 m pc ls st) rest (va_Ql (fun r (_ : Unit) => r = r0) (fun _ t => QB D H.size wc w1 t) (va_A wc H.size) av) (va_A wc H.size)) (hP : va_P D vwCl ws H) (hD : va_D A ws) (hS : va_S A s.heap H locs) (hA : ∀ q, s.heap.size ≤ q → A q) (isC isR isP : List Nat) (hC : isC.map (fun i => ws[i]?) = wc.map some) (hR : isR.map (fun i => ws[i]?) = wr.map some) (hnd : va_nd isR = true) (hdis : ∀ i ∈ isR, i ∉ isC) (hnp : va_nd isP = true) (h2 : isP.map (fun i => (wr ++ w1)[i]?) = w2.map some)
    (kk : ∀ (H1 : Heap) (locs1 : List Loc), va_P D vwCl w2 H1 → va_D A w2 → va_S A s.heap H1 locs1 → W p l e R s m args below meth c H1 locs1 cells slots Q (F0 m (pc + 3) ls (.long r0 :: rest))) : W p l e R s m args below meth c H locs cells slots Q (F0 m pc ls st) := by
  have hF := va_free hD hS hA isC hC
  refine va_calll hr hS (fun q _ h => hF q h) hF (fun r u t H1 locs1 ht hvm hw hB hz1 hk1 hS1 => ?_)
  subst hw
  obtain ⟨a, b⟩ := cl_back (wr := wr) (w2 := w2) hP hD hS hA isC isR isP hC hR hnd hdis hnp h2 hk1 ht hB
  exact kk H1 locs1 a b hS1
theorem cl_v (hr : va_Run p l e R s m args below meth c H locs cells slots 0 0 (F0 m pc ls st) rest (va_Qv (fun (_ : Unit) => True) (fun _ t => QB D H.size wc w1 t) (va_A wc H.size) av) (va_A wc H.size)) (hP : va_P D vwCl ws H) (hD : va_D A ws) (hS : va_S A s.heap H locs) (hA : ∀ q, s.heap.size ≤ q → A q) (isC isR isP : List Nat) (hC : isC.map (fun i => ws[i]?) = wc.map some) (hR : isR.map (fun i => ws[i]?) = wr.map some) (hnd : va_nd isR = true) (hdis : ∀ i ∈ isR, i ∉ isC) (hnp : va_nd isP = true) (h2 : isP.map (fun i => (wr ++ w1)[i]?) = w2.map some)
    (kk : ∀ (H1 : Heap) (locs1 : List Loc), va_P D vwCl w2 H1 → va_D A w2 → va_S A s.heap H1 locs1 → W p l e R s m args below meth c H1 locs1 cells slots Q (F0 m (pc + 3) ls rest)) : W p l e R s m args below meth c H locs cells slots Q (F0 m pc ls st) := by
  have hF := va_free hD hS hA isC hC
  refine va_callv hr hS (fun q _ h => hF q h) hF (fun u t H1 locs1 ht hvm hw hB hz1 hk1 hS1 => ?_)
  obtain ⟨a, b⟩ := cl_back (wr := wr) (w2 := w2) hP hD hS hA isC isR isP hC hR hnd hdis hnp h2 hk1 ht hB
  exact kk H1 locs1 a b hS1
theorem cl_r {r0 : Nat} (hr : va_Run p l e R s m args below meth c H locs cells slots 0 0 (F0 m pc ls st) rest (va_Qr (fun (_ : Unit) => True) (fun _ a t => a = r0 ∧ QB D H.size wc w1 t) (va_A wc H.size) av) (va_A wc H.size)) (hP : va_P D vwCl ws H) (hD : va_D A ws) (hS : va_S A s.heap H locs) (hA : ∀ q, s.heap.size ≤ q → A q) (isC isR isP : List Nat) (hC : isC.map (fun i => ws[i]?) = wc.map some) (hR : isR.map (fun i => ws[i]?) = wr.map some) (hnd : va_nd isR = true) (hdis : ∀ i ∈ isR, i ∉ isC) (hnp : va_nd isP = true) (h2 : isP.map (fun i => (wr ++ w1)[i]?) = w2.map some)
    (kk : ∀ (H1 : Heap) (locs1 : List Loc), va_P D vwCl w2 H1 → va_D A w2 → va_S A s.heap H1 locs1 → W p l e R s m args below meth c H1 locs1 cells slots Q (F0 m (pc + 3) ls (.ref r0 :: rest))) : W p l e R s m args below meth c H locs cells slots Q (F0 m pc ls st) := by
  have hF := va_free hD hS hA isC hC
  refine va_callr hr hS (fun q _ h => hF q h) hF (fun u ra t H1 locs1 ht hvm hw hB hz1 hk1 hS1 => ?_)
  obtain ⟨rfl, hB⟩ := hB
  obtain ⟨a, b⟩ := cl_back (wr := wr) (w2 := w2) hP hD hS hA isC isR isP hC hR hnd hdis hnp h2 hk1 ht hB
  exact kk H1 locs1 a b hS1
theorem cl_n {G : (Nat → Nat) → va_W} {mc ms : Nat} (hr : va_Run p l e R s m args below meth c H locs cells slots mc ms (F0 m pc ls st) rest (va_Qv (fun (_ : Unit) => True) (fun _ t => ∃ qs : Nat → Nat, QB D H.size wc (G qs) t) (va_A wc H.size) av) (va_A wc H.size)) (hP : va_P D vwCl ws H) (hD : va_D A ws) (hS : va_S A s.heap H locs) (hA : ∀ q, s.heap.size ≤ q → A q) (isC isR : List Nat) (hC : isC.map (fun i => ws[i]?) = wc.map some) (hR : isR.map (fun i => ws[i]?) = wr.map some) (hnd : va_nd isR = true) (hdis : ∀ i ∈ isR, i ∉ isC)
    (kk : ∀ (qs : Nat → Nat) (H1 : Heap) (locs1 : List Loc), va_P D vwCl (wr ++ G qs) H1 → va_D A (wr ++ G qs) → va_S A s.heap H1 locs1 → W p l e R s m args below meth c H1 locs1 (cells + mc) (slots + ms) Q (F0 m (pc + 3) ls rest)) : W p l e R s m args below meth c H locs cells slots Q (F0 m pc ls st) := by
  have hF := va_free hD hS hA isC hC
  refine va_callv hr hS (fun q _ h => hF q h) hF (fun u t H1 locs1 ht hvm hw hB hz1 hk1 hS1 => ?_)
  obtain ⟨qs, hP1, hD1⟩ := hB
  rw [ht] at hP1
  obtain ⟨a, b⟩ := va_join (wr := wr) (w1 := G qs) hP hD isC isR hC hR hnd hdis hk1 hF hP1 hD1
  exact kk qs H1 locs1 a b hS1
theorem nw_arr {atype : ArrayType} {k : Nat} {ty : FieldType} {a0 : vp_A} {n : Int32} {N1 : Nat} {H0 : Heap} (hexec : p.tables.exec = Jvm.exec) (hb : c.code = cc) (harr : (Cond.arrayClass (newarray.typeOf atype)).before args s = true) (hty : newarray.typeOf atype = ty) (hk : (tyG cy)[k]? = some (cy k, ty)) (hK : va_K D vwCl (tyG cy) s) (hP : va_P D vwCl ws H) (hD : va_D A ws) (hS : va_S A H0 H locs) (hA : ∀ q, H0.size ≤ q → A q)
    (ha : ∀ cA : ClassId, vp_cell cA a0 = arrV cA N1 (fun _ => defaultValue ty)) (hn : ¬ n < 0) (hN : n.toNatClampNeg = N1) (hbytes : N1 * componentBytes ty ≤ 536870912) (hcells : cells + 1 ≤ R.cells) (hslots : slots + N1 ≤ R.slots) (hra : ∀ cA : ClassId, va_RA s cA ty = (s.vm.findClass ("[" ++ ty.toString) = some cA)) (htl : (tyG cy).length = 4) (hdg : decode cc pc = .ok (.newarray atype, 2))
    (kk : ∀ (q : Nat) (H1 : Heap), va_P D vwCl (ws ++ [(q, .inl (cy k, a0))]) H1 → va_D A (ws ++ [(q, .inl (cy k, a0))]) → va_S A H0 H1 locs → W p l e R s m args below meth c H1 locs (cells + 1) (slots + N1) Q (F0 m (pc + 2) ls (.ref q :: rest))) : W p l e R s m args below meth c H locs cells slots Q (F0 m pc ls (.int n :: rest)) := by
  refine va_newa hexec hb harr hty hK hP hD hS hA ha hn hN hbytes hcells hslots hdg (fun q cA H1 hK1 hP1 hD1 hS1 => ?_)
  have h1 := (hK1.2 4 (cA, ty) (by rw [List.getElem?_append_right (by rw [htl]; exact Nat.le_refl _), htl]; rfl)).2
  have h2 := (hK.2 k _ hk).2
  have e1 : s.vm.findClass ("[" ++ ty.toString) = some cA := by rw [← hra]; exact h1
  have e2 : s.vm.findClass ("[" ++ ty.toString) = some (cy k) := by rw [← hra]; exact h2
  have e3 : cA = cy k := Option.some.inj (e1.symm.trans e2)
  subst e3
  exact kk q H1 hP1 hD1 hS1
/-- the start of a callee, out of the caller's world -/
theorem pre_B (hcx : cx D cy s) (hsx : SX cy A s s.heap) (hS : va_S A s.heap H locs) (hA : ∀ q, s.heap.size ≤ q → A q) (hP : va_P D vwCl ws H) (hD : va_D A ws) (isC : List Nat) (hC : isC.map (fun i => ws[i]?) = wc.map some) (hn : va_nd isC = true) {U : State} (hU : U.heap = H) (hW : s.WarmedH U.vm) : PB D cy H.size wc U :=
  ⟨by rw [hU], by rw [hU]; exact hP.pick isC hC, (hD.sub isC hn hC).weaken (fun _ _ _ _ => trivial), hcx.warm hW, by rw [hU]; exact ((hsx.kept hS.2.1).warm hW).narrow (va_free hD hS hA isC hC)⟩
theorem pre_S {As : List Value} (hcx : cx D cy s) (hsx : SX cy A s s.heap) (hS : va_S A s.heap H locs) (hA : ∀ q, s.heap.size ≤ q → A q) (hP : va_P D vwCl ws H) (hD : va_D A ws) (isC : List Nat) (hC : isC.map (fun i => ws[i]?) = wc.map some) (hn : va_nd isC = true) : PreS s H (va_Pc As (PB D cy H.size wc)) As :=
  ⟨PB.blind, fun U hU hW => ⟨rfl, pre_B hcx hsx hS hA hP hD isC hC hn hU hW⟩⟩
theorem pre_V {As : List Value} {b ci : Nat} {C : String} {T : u_T} {N : Nat} {fs : List Value} (hcx : cx D cy s) (hsx : SX cy A s s.heap) (hS : va_S A s.heap H locs) (hA : ∀ q, s.heap.size ≤ q → A q) (hP : va_P D vwCl ws H) (hD : va_D A ws) (isC : List Nat) (hC : isC.map (fun i => ws[i]?) = wc.map some) (hn : va_nd isC = true) (hci : vwCl[ci]? = some (C, T, N)) (hb : wc[0]? = some (b, .inr (ci, fs))) : PreV s H C b (va_Pc (.ref b :: As) (PB D cy H.size wc)) As :=
  ⟨PB.blind, va_recv hcx.1 (hP.pick isC hC) hci hb, fun U hU hW => ⟨rfl, pre_B hcx hsx hS hA hP hD isC hC hn hU hW⟩⟩
/-- a text's own method: no cell of ours -/
theorem pre_T {As : List Value} {i : Nat} (hi : i < 5) (hcx : cx D cy s) (hsx : SX cy A s s.heap) (hS : va_S A s.heap H locs) (hA : ∀ q, s.heap.size ≤ q → A q) (hP : va_P D vwCl ws H) (hD : va_D A ws) : PreV s H "java/lang/String" (cy (10 + i)) (va_Pc (.ref (cy (10 + i)) :: As) (PB D cy H.size [])) As :=
  ⟨PB.blind, vk_recv (adK := fun i => cy (10 + i)) (i := i) hsx.1 hi hS, fun U hU hW => ⟨rfl, pre_B (wc := []) hcx hsx hS hA hP hD [] rfl rfl hU hW⟩⟩
end CALL
/-- guards, names, answers -/
def gd {α : Type} (c : Prop) [Decidable c] (a : Option α) : Option α := if c then a else none
theorem gd_some {α : Type} {c : Prop} [Decidable c] {a : Option α} {r : α} (h : gd c a = some r) : c ∧ a = some r := by
  unfold gd at h
  by_cases hc : c
  · rw [if_pos hc] at h; exact ⟨hc, h⟩
  · rw [if_neg hc] at h; cases h
theorem gd_t {α : Type} {c : Prop} [Decidable c] {a : Option α} (hc : c) : gd c a = a := by unfold gd; exact if_pos hc
def lets {α β : Type} (a : α) (k : α → Option β) : Option β := k a
theorem lets_at {α β : Type} {a : α} {k : α → Option β} {r : Option β} (h : lets a k = r) {x : α} (hx : x = a) : k x = r := by subst hx; exact h
theorem it_t {α : Type} {c : Prop} [Decidable c] {a b : Option α} {r : Option α} (h : (if c then a else b) = r) (hc : c) : a = r := by rw [if_pos hc] at h; exact h
theorem it_f {α : Type} {c : Prop} [Decidable c] {a b : Option α} {r : Option α} (h : (if c then a else b) = r) (hc : ¬ c) : b = r := by rw [if_neg hc] at h; exact h
theorem bd_some {α β : Type} {x : Option α} {f : α → Option β} {r : β} (h : x.bind f = some r) : ∃ a, x = some a ∧ f a = some r := Option.bind_eq_some_iff.mp h
abbrev okx (i : Int32) (n : Nat) : Prop := ¬ (i < 0 ∨ n ≤ i.toNatClampNeg)
theorem pfI : parseFieldDescriptor "I" = some .int := by decide +kernel
theorem pfJ : parseFieldDescriptor "J" = some .long := by decide +kernel
theorem pfZ : parseFieldDescriptor "Z" = some .boolean := by decide +kernel

def it1 {A0 R : Type} (f : (A0 → Option R) → A0 → Option R) : Nat → A0 → Option R
  | 0, _ => none
  | n + 1, a0 => f (it1 f n) a0
def it2 {A0 A1 R : Type} (f : (A0 → A1 → Option R) → A0 → A1 → Option R) : Nat → A0 → A1 → Option R
  | 0, _, _ => none
  | n + 1, a0, a1 => f (it2 f n) a0 a1
def it3 {A0 A1 A2 R : Type} (f : (A0 → A1 → A2 → Option R) → A0 → A1 → A2 → Option R) : Nat → A0 → A1 → A2 → Option R
  | 0, _, _, _ => none
  | n + 1, a0, a1, a2 => f (it3 f n) a0 a1 a2
def it4 {A0 A1 A2 A3 R : Type} (f : (A0 → A1 → A2 → A3 → Option R) → A0 → A1 → A2 → A3 → Option R) : Nat → A0 → A1 → A2 → A3 → Option R
  | 0, _, _, _, _ => none
  | n + 1, a0, a1, a2, a3 => f (it4 f n) a0 a1 a2 a3
def it5 {A0 A1 A2 A3 A4 R : Type} (f : (A0 → A1 → A2 → A3 → A4 → Option R) → A0 → A1 → A2 → A3 → A4 → Option R) : Nat → A0 → A1 → A2 → A3 → A4 → Option R
  | 0, _, _, _, _, _ => none
  | n + 1, a0, a1, a2, a3, a4 => f (it5 f n) a0 a1 a2 a3 a4
def it6 {A0 A1 A2 A3 A4 A5 R : Type} (f : (A0 → A1 → A2 → A3 → A4 → A5 → Option R) → A0 → A1 → A2 → A3 → A4 → A5 → Option R) : Nat → A0 → A1 → A2 → A3 → A4 → A5 → Option R
  | 0, _, _, _, _, _, _ => none
  | n + 1, a0, a1, a2, a3, a4, a5 => f (it6 f n) a0 a1 a2 a3 a4 a5
def it7 {A0 A1 A2 A3 A4 A5 A6 R : Type} (f : (A0 → A1 → A2 → A3 → A4 → A5 → A6 → Option R) → A0 → A1 → A2 → A3 → A4 → A5 → A6 → Option R) : Nat → A0 → A1 → A2 → A3 → A4 → A5 → A6 → Option R
  | 0, _, _, _, _, _, _, _ => none
  | n + 1, a0, a1, a2, a3, a4, a5, a6 => f (it7 f n) a0 a1 a2 a3 a4 a5 a6
def it8 {A0 A1 A2 A3 A4 A5 A6 A7 R : Type} (f : (A0 → A1 → A2 → A3 → A4 → A5 → A6 → A7 → Option R) → A0 → A1 → A2 → A3 → A4 → A5 → A6 → A7 → Option R) : Nat → A0 → A1 → A2 → A3 → A4 → A5 → A6 → A7 → Option R
  | 0, _, _, _, _, _, _, _, _ => none
  | n + 1, a0, a1, a2, a3, a4, a5, a6, a7 => f (it8 f n) a0 a1 a2 a3 a4 a5 a6 a7
def it9 {A0 A1 A2 A3 A4 A5 A6 A7 A8 R : Type} (f : (A0 → A1 → A2 → A3 → A4 → A5 → A6 → A7 → A8 → Option R) → A0 → A1 → A2 → A3 → A4 → A5 → A6 → A7 → A8 → Option R) : Nat → A0 → A1 → A2 → A3 → A4 → A5 → A6 → A7 → A8 → Option R
  | 0, _, _, _, _, _, _, _, _, _ => none
  | n + 1, a0, a1, a2, a3, a4, a5, a6, a7, a8 => f (it9 f n) a0 a1 a2 a3 a4 a5 a6 a7 a8
def it10 {A0 A1 A2 A3 A4 A5 A6 A7 A8 A9 R : Type} (f : (A0 → A1 → A2 → A3 → A4 → A5 → A6 → A7 → A8 → A9 → Option R) → A0 → A1 → A2 → A3 → A4 → A5 → A6 → A7 → A8 → A9 → Option R) : Nat → A0 → A1 → A2 → A3 → A4 → A5 → A6 → A7 → A8 → A9 → Option R
  | 0, _, _, _, _, _, _, _, _, _, _ => none
  | n + 1, a0, a1, a2, a3, a4, a5, a6, a7, a8, a9 => f (it10 f n) a0 a1 a2 a3 a4 a5 a6 a7 a8 a9
def it11 {A0 A1 A2 A3 A4 A5 A6 A7 A8 A9 A10 R : Type} (f : (A0 → A1 → A2 → A3 → A4 → A5 → A6 → A7 → A8 → A9 → A10 → Option R) → A0 → A1 → A2 → A3 → A4 → A5 → A6 → A7 → A8 → A9 → A10 → Option R) : Nat → A0 → A1 → A2 → A3 → A4 → A5 → A6 → A7 → A8 → A9 → A10 → Option R
  | 0, _, _, _, _, _, _, _, _, _, _, _ => none
  | n + 1, a0, a1, a2, a3, a4, a5, a6, a7, a8, a9, a10 => f (it11 f n) a0 a1 a2 a3 a4 a5 a6 a7 a8 a9 a10
def it12 {A0 A1 A2 A3 A4 A5 A6 A7 A8 A9 A10 A11 R : Type} (f : (A0 → A1 → A2 → A3 → A4 → A5 → A6 → A7 → A8 → A9 → A10 → A11 → Option R) → A0 → A1 → A2 → A3 → A4 → A5 → A6 → A7 → A8 → A9 → A10 → A11 → Option R) : Nat → A0 → A1 → A2 → A3 → A4 → A5 → A6 → A7 → A8 → A9 → A10 → A11 → Option R
  | 0, _, _, _, _, _, _, _, _, _, _, _, _ => none
  | n + 1, a0, a1, a2, a3, a4, a5, a6, a7, a8, a9, a10, a11 => f (it12 f n) a0 a1 a2 a3 a4 a5 a6 a7 a8 a9 a10 a11
def it13 {A0 A1 A2 A3 A4 A5 A6 A7 A8 A9 A10 A11 A12 R : Type} (f : (A0 → A1 → A2 → A3 → A4 → A5 → A6 → A7 → A8 → A9 → A10 → A11 → A12 → Option R) → A0 → A1 → A2 → A3 → A4 → A5 → A6 → A7 → A8 → A9 → A10 → A11 → A12 → Option R) : Nat → A0 → A1 → A2 → A3 → A4 → A5 → A6 → A7 → A8 → A9 → A10 → A11 → A12 → Option R
  | 0, _, _, _, _, _, _, _, _, _, _, _, _, _ => none
  | n + 1, a0, a1, a2, a3, a4, a5, a6, a7, a8, a9, a10, a11, a12 => f (it13 f n) a0 a1 a2 a3 a4 a5 a6 a7 a8 a9 a10 a11 a12
def it14 {A0 A1 A2 A3 A4 A5 A6 A7 A8 A9 A10 A11 A12 A13 R : Type} (f : (A0 → A1 → A2 → A3 → A4 → A5 → A6 → A7 → A8 → A9 → A10 → A11 → A12 → A13 → Option R) → A0 → A1 → A2 → A3 → A4 → A5 → A6 → A7 → A8 → A9 → A10 → A11 → A12 → A13 → Option R) : Nat → A0 → A1 → A2 → A3 → A4 → A5 → A6 → A7 → A8 → A9 → A10 → A11 → A12 → A13 → Option R
  | 0, _, _, _, _, _, _, _, _, _, _, _, _, _, _ => none
  | n + 1, a0, a1, a2, a3, a4, a5, a6, a7, a8, a9, a10, a11, a12, a13 => f (it14 f n) a0 a1 a2 a3 a4 a5 a6 a7 a8 a9 a10 a11 a12 a13
def it15 {A0 A1 A2 A3 A4 A5 A6 A7 A8 A9 A10 A11 A12 A13 A14 R : Type} (f : (A0 → A1 → A2 → A3 → A4 → A5 → A6 → A7 → A8 → A9 → A10 → A11 → A12 → A13 → A14 → Option R) → A0 → A1 → A2 → A3 → A4 → A5 → A6 → A7 → A8 → A9 → A10 → A11 → A12 → A13 → A14 → Option R) : Nat → A0 → A1 → A2 → A3 → A4 → A5 → A6 → A7 → A8 → A9 → A10 → A11 → A12 → A13 → A14 → Option R
  | 0, _, _, _, _, _, _, _, _, _, _, _, _, _, _, _ => none
  | n + 1, a0, a1, a2, a3, a4, a5, a6, a7, a8, a9, a10, a11, a12, a13, a14 => f (it15 f n) a0 a1 a2 a3 a4 a5 a6 a7 a8 a9 a10 a11 a12 a13 a14
def it16 {A0 A1 A2 A3 A4 A5 A6 A7 A8 A9 A10 A11 A12 A13 A14 A15 R : Type} (f : (A0 → A1 → A2 → A3 → A4 → A5 → A6 → A7 → A8 → A9 → A10 → A11 → A12 → A13 → A14 → A15 → Option R) → A0 → A1 → A2 → A3 → A4 → A5 → A6 → A7 → A8 → A9 → A10 → A11 → A12 → A13 → A14 → A15 → Option R) : Nat → A0 → A1 → A2 → A3 → A4 → A5 → A6 → A7 → A8 → A9 → A10 → A11 → A12 → A13 → A14 → A15 → Option R
  | 0, _, _, _, _, _, _, _, _, _, _, _, _, _, _, _, _ => none
  | n + 1, a0, a1, a2, a3, a4, a5, a6, a7, a8, a9, a10, a11, a12, a13, a14, a15 => f (it16 f n) a0 a1 a2 a3 a4 a5 a6 a7 a8 a9 a10 a11 a12 a13 a14 a15
def it17 {A0 A1 A2 A3 A4 A5 A6 A7 A8 A9 A10 A11 A12 A13 A14 A15 A16 R : Type} (f : (A0 → A1 → A2 → A3 → A4 → A5 → A6 → A7 → A8 → A9 → A10 → A11 → A12 → A13 → A14 → A15 → A16 → Option R) → A0 → A1 → A2 → A3 → A4 → A5 → A6 → A7 → A8 → A9 → A10 → A11 → A12 → A13 → A14 → A15 → A16 → Option R) : Nat → A0 → A1 → A2 → A3 → A4 → A5 → A6 → A7 → A8 → A9 → A10 → A11 → A12 → A13 → A14 → A15 → A16 → Option R
  | 0, _, _, _, _, _, _, _, _, _, _, _, _, _, _, _, _, _ => none
  | n + 1, a0, a1, a2, a3, a4, a5, a6, a7, a8, a9, a10, a11, a12, a13, a14, a15, a16 => f (it17 f n) a0 a1 a2 a3 a4 a5 a6 a7 a8 a9 a10 a11 a12 a13 a14 a15 a16
def it18 {A0 A1 A2 A3 A4 A5 A6 A7 A8 A9 A10 A11 A12 A13 A14 A15 A16 A17 R : Type} (f : (A0 → A1 → A2 → A3 → A4 → A5 → A6 → A7 → A8 → A9 → A10 → A11 → A12 → A13 → A14 → A15 → A16 → A17 → Option R) → A0 → A1 → A2 → A3 → A4 → A5 → A6 → A7 → A8 → A9 → A10 → A11 → A12 → A13 → A14 → A15 → A16 → A17 → Option R) : Nat → A0 → A1 → A2 → A3 → A4 → A5 → A6 → A7 → A8 → A9 → A10 → A11 → A12 → A13 → A14 → A15 → A16 → A17 → Option R
  | 0, _, _, _, _, _, _, _, _, _, _, _, _, _, _, _, _, _, _ => none
  | n + 1, a0, a1, a2, a3, a4, a5, a6, a7, a8, a9, a10, a11, a12, a13, a14, a15, a16, a17 => f (it18 f n) a0 a1 a2 a3 a4 a5 a6 a7 a8 a9 a10 a11 a12 a13 a14 a15 a16 a17

theorem nestW_tbl : ∀ w ∈ nestW, w ∈ tables_1 := by
  have h : nestW = [26, 32, 38, 49, 51, 53, 55, 56, 58, 59, 61, 62, 64, 65, 83, 86, 118, 121, 126, 132, 134, 136, 139, 141, 143, 145, 165, 173, 192, 197, 203, 205, 254, 266, 270, 274, 379, 383, 387, 391, 395, 403, 407, 416, 435, 447, 451, 457, 458, 462, 482, 487, 499, 507, 516, 525, 538, 542, 543, 548, 562, 577, 587, 595, 621, 625, 626, 638, 642, 663, 686, 718, 731, 735, 739].filterMap (fun i => tables_1[i]?) := by decide +kernel
  intro w hw
  rw [h] at hw
  obtain ⟨i, -, hi⟩ := List.mem_filterMap.mp hw
  exact List.mem_of_getElem? hi
