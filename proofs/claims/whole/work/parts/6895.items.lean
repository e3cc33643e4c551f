/-! begin of an item, an item, in class and reference -/
theorem once_eq : ∀ o, o < 512 → ∀ k, k < 9 → (nI o ||| ((1 : Int32) <<< (nI k &&& 31))) = nI (o ||| 2 ^ k) ∧ (o ||| 2 ^ k) < 512 ∧ (((nI o >>> (nI k &&& 31)) &&& 1) = 0 ↔ o.testBit k = false) := by decide +kernel
def may9 (k H o : Nat) : Prop := (k = 4 ∧ H < 6) ∨ k = 5 ∨ (6 ≤ k ∧ o.testBit k = false)
theorem begin_eq {k H o : Nat} (hk : k < 9) (hH : H ≤ 6) (ho : o < 512) {it tk : Int32} :
    (may9 k H o → fX2_beginItem (nI k) it tk (nI o) (nI H) = some (1, nI k, 0, nI (o ||| 2 ^ k))) ∧
    (¬ may9 k H o → fX2_beginItem (nI k) it tk (nI o) (nI H) = some (0, it, tk, nI o)) := by
  obtain ⟨o1, o2, o3⟩ := once_eq o ho k hk
  have c : ∀ j : Nat, j < 9 → (nI k = nI j ↔ k = j) := fun j hj => nI_eq (by omega) (by omega)
  have c4 : nI k = 4 ↔ k = 4 := c 4 (by omega)
  have c5 : nI k = 5 ↔ k = 5 := c 5 (by omega)
  have c6 : nI k = 6 ↔ k = 6 := c 6 (by omega)
  have c7 : nI k = 7 ↔ k = 7 := c 7 (by omega)
  have c8 : nI k = 8 ↔ k = 8 := c 8 (by omega)
  have h6 : nI H < 6 ↔ H < 6 := nI_ltI (a := H) (b := 6) (by omega) (by omega)
  simp only [fX2_beginItem, X2_beginItem_J27, X2_beginItem_J32, X2_beginItem_J53, X2_beginItem_J79, c4, c5, c6, c7, c8, h6, o1, o3, lets_def, if_neg one_ne, if_true]
  unfold may9
  have cs : k < 4 ∨ k = 4 ∨ k = 5 ∨ k = 6 ∨ k = 7 ∨ k = 8 := by omega
  rcases cs with z | rfl | rfl | rfl | rfl | rfl
  · rw [if_neg (by omega), if_neg (by omega), if_neg (by omega), if_neg (by omega), if_neg (by omega)]
    exact ⟨fun h => by omega, fun _ => rfl⟩
  · by_cases y : H < 6
    · simp [y]
    · simp [y]
  · simp
  · by_cases y : o.testBit 6 = false
    · simp [y]
    · simp [y]
  · by_cases y : o.testBit 7 = false
    · simp [y]
    · simp [y]
  · by_cases y : o.testBit 8 = false
    · simp [y]
    · simp [y]
section
variable {t : Nat} {tx tb : Nat → Int32} {AT PL KK VV : Nat → Nat}
theorem c_end {p r : Nat} (hT : Toks9 t tx tb AT PL KK VV) (ht : t ≤ 300) (hp : p ≤ t) (hr : r ≤ p) (h0 : KK p = 0) {items plc tok num taken once ho la pr me : Int32} {wc ea ba nb : Nat → Int32} {self : Int32 → Int32 → Int32 → Int32 → Int32 → Int32 → Int32 → Int32 → Int32 → Int32 → Int32 → Int32 → Int32 → (Nat → Int32) → (Nat → Int32) → (Nat → Int32) → (Nat → Int32) → Option (Int32 × Int32 × Int32 × Int32 × Int32 × Int32 × Int32 × Int32 × Int32 × Int32 × Int32 × Int32 × (Nat → Int32) × (Nat → Int32) × (Nat → Int32) × (Nat → Int32))} :
    ∃ a1 a2 a3 a4 a5 a6 a7, X2_read_S26 (nI t) tb self items (nI r) (nI p) plc tok num 0 taken once ho la pr me wc ea ba nb = some (items, a1, a2, a3, a4, a5, a6, a7, ho, la, pr, me, wc, ea, ba, nb) := by
  obtain ⟨t1, t2, t3, t4, t5, t6, t7, t8, -⟩ := hT p hp
  obtain ⟨num', e1, e2⟩ := t8 num
  have c300 : ¬ (300 : Int32) < nI r := nI_nlt (a := 300) (b := r) (by omega) (by omega)
  have k0 : nI (KK p) = 0 := by rw [h0]; rfl
  refine ⟨nI (AT p), nI (PL p), nI (KK p), num', 0, taken, once, ?_⟩
  simp only [X2_read_S26, if_neg c300, e1, some_bind9, if_pos k0, if_true]
theorem c_begin {p r H o : Nat} (hT : Toks9 t tx tb AT PL KK VV) (ht : t ≤ 300) (hp : p ≤ t) (hr : r ≤ p) (h0 : KK p ≠ 0) (hH : H ≤ 6) (ho : o < 512) {items plc tok num taken la pr me : Int32} {wc ea ba nb : Nat → Int32} {self : Int32 → Int32 → Int32 → Int32 → Int32 → Int32 → Int32 → Int32 → Int32 → Int32 → Int32 → Int32 → Int32 → (Nat → Int32) → (Nat → Int32) → (Nat → Int32) → (Nat → Int32) → Option (Int32 × Int32 × Int32 × Int32 × Int32 × Int32 × Int32 × Int32 × Int32 × Int32 × Int32 × Int32 × (Nat → Int32) × (Nat → Int32) × (Nat → Int32) × (Nat → Int32))} :
    (may9 (KK p) H o → ∃ plc' tok' num', X2_read_S26 (nI t) tb self items (nI r) (nI p) plc tok num 0 taken (nI o) (nI H) la pr me wc ea ba nb = self items (nI (r + 1)) (nI (AT p)) plc' tok' num' (nI (KK p)) 0 (nI (o ||| 2 ^ KK p)) (nI H) la pr me wc ea ba nb) ∧
    (¬ may9 (KK p) H o → FaultX (X2_read_S26 (nI t) tb self items (nI r) (nI p) plc tok num 0 taken (nI o) (nI H) la pr me wc ea ba nb) (PL p)) := by
  have k9 := kk8 hT hp
  obtain ⟨t1, t2, t3, t4, t5, t6, t7, t8, -⟩ := hT p hp
  obtain ⟨num', e1, e2⟩ := t8 num
  obtain ⟨b1, b2⟩ := begin_eq k9 hH ho (it := 0) (tk := taken)
  have c300 : ¬ (300 : Int32) < nI r := nI_nlt (a := 300) (b := r) (by omega) (by omega)
  have k0 : ¬ nI (KK p) = 0 := nI_ne0 (by omega) (by omega)
  have step : X2_read_S26 (nI t) tb self items (nI r) (nI p) plc tok num 0 taken (nI o) (nI H) la pr me wc ea ba nb = X2_read_J53 items (nI r) 0 taken (nI o) (nI H) la pr me wc ea ba nb self (nI (AT p), nI (PL p), nI (KK p), num') := by
    simp only [X2_read_S26, if_neg c300, e1, some_bind9, if_neg k0]
  constructor
  · intro h
    have n3 : ¬ nI (KK p) = 3 := nI_ne (a := KK p) (b := 3) (by omega) (by omega) (by unfold may9 at h; omega)
    refine ⟨nI (PL p), nI (KK p), num', ?_⟩
    rw [step]
    simp only [X2_read_J53, fX2_canStand, if_true, b1 h, some_bind9, gd_t (show isB 1 from Or.inr rfl), if_neg one_ne, if_neg n3, X2_read_J79, lets_def, Lp1]
  · intro h
    rw [step]
    simp only [X2_read_J53, fX2_canStand, if_true, b2 h, some_bind9, gd_t (show isB 0 from Or.inl rfl), X2_read_J60]
    exact ⟨_, _, _, _, _, _, _, _, _, _, _, _, _, _, _, rfl⟩
/-- the class's item, from its first number on -/
theorem c_item {it H m p r f : Nat} (hT : Toks9 t tx tb AT PL KK VV) (ht : t ≤ 300) (h4 : 4 ≤ it) (h8 : it ≤ 8) (hH : H ≤ 6) (h6 : it = 4 → H < 6) (hm1 : m ≤ Mn it) (hm : ∀ i, i < m → nOK AT KK VV it H p i) (hm' : m < Mn it → ¬ nOK AT KK VV it H p m) (hp : p ≤ t) (hr : r ≤ p) (hf : Mn it < f) {items plc tok num once la pr me : Int32} {wc ea ba nb : Nat → Int32} :
    (m < Mn it → FaultX (it17 (X2_read_S26 (nI t) tb) f items (nI r) (nI p) plc tok num (nI it) 0 once (nI H) la pr me wc ea ba nb) (PL (ps9 AT p m))) ∧
    (m = Mn it → ¬ KK (ps9 AT p m) = 3 → FaultX (it17 (X2_read_S26 (nI t) tb) f items (nI r) (nI p) plc tok num (nI it) 0 once (nI H) la pr me wc ea ba nb) (PL (ps9 AT p m))) ∧
    (m = Mn it → KK (ps9 AT p m) = 3 → ∃ plc' tok' num' r' nb', r' ≤ AT (ps9 AT p m) ∧ nb' = nbF AT VV nb p 0 (Mn it) ∧ it17 (X2_read_S26 (nI t) tb) f items (nI r) (nI p) plc tok num (nI it) 0 once (nI H) la pr me wc ea ba nb = it17 (X2_read_S26 (nI t) tb) (f - m - 1) (items + 1) (nI r') (nI (AT (ps9 AT p m))) plc' tok' num' 0 (nI (Mn it)) once (endD it H la pr me wc ea ba nb').1 (endD it H la pr me wc ea ba nb').2.1 (endD it H la pr me wc ea ba nb').2.2.1 (endD it H la pr me wc ea ba nb').2.2.2.1 (endD it H la pr me wc ea ba nb').2.2.2.2.1 (endD it H la pr me wc ea ba nb').2.2.2.2.2.1 (endD it H la pr me wc ea ba nb').2.2.2.2.2.2 nb') := by
  obtain ⟨plc1, tok1, num1, r1, e1, e2, e3, e4⟩ := c_nums hT ht h4 h8 hH (items := items) (once := once) (la := la) (pr := pr) (me := me) (wc := wc) (ea := ea) (ba := ba) m 0 p r f nb plc tok num (by omega) (by omega) hr hp (fun i hi => by rw [Nat.zero_add]; exact hm i hi)
  have e1' : it17 (X2_read_S26 (nI t) tb) f items (nI r) (nI p) plc tok num (nI it) 0 once (nI H) la pr me wc ea ba nb = it17 (X2_read_S26 (nI t) tb) (f - m) items (nI r1) (nI (ps9 AT p m)) plc1 tok1 num1 (nI it) (nI m) once (nI H) la pr me wc ea ba (nbF AT VV nb p 0 m) := by
    have e0 := e1
    rw [Nat.zero_add] at e0
    exact e0
  rw [e1']
  obtain ⟨f', hf'⟩ : ∃ k, f - m = k + 1 := ⟨f - m - 1, by omega⟩
  rw [hf']
  have h5' : m = Mn it → it = 5 → ∃ h, h < 6 ∧ nbF AT VV nb p 0 m 0 = nI h := fun h h5 => by
    subst h5
    have ev : nbF AT VV nb p 0 m = upd (upd nb 0 (nI (VV p))) 1 (nI (VV (AT p))) := by rw [h]; rfl
    have hv := (hm 0 (by rw [h]; decide)).2
    unfold okV at hv
    rw [if_neg (by omega), if_pos rfl, if_pos rfl] at hv
    have hv' : VV p < H := hv
    exact ⟨VV p, by omega, by rw [ev, pk_un (by omega), pk_us]⟩
  refine ⟨fun h => ?_, fun h hk => ?_, fun h hk => ?_⟩
  · exact (c_num hT ht e3 e2 h4 h8 hH h (items := items) (plc := plc1) (tok := tok1) (num := num1) (once := once) (la := la) (pr := pr) (me := me) (wc := wc) (ea := ea) (ba := ba) (nb := nbF AT VV nb p 0 m) (self := it17 (X2_read_S26 (nI t) tb) f')).2 (hm' h)
  · have h5 := h5' h
    subst h
    exact (c_stop hT ht e3 e2 h4 h8 hH (items := items) (plc := plc1) (tok := tok1) (num := num1) (once := once) (la := la) (pr := pr) (me := me) (wc := wc) (ea := ea) (ba := ba) (nb := nbF AT VV nb p 0 (Mn it)) h6 h5 (self := it17 (X2_read_S26 (nI t) tb) f')).2 hk
  · have h5 := h5' h
    subst h
    obtain ⟨plc2, tok2, num2, e5⟩ := (c_stop hT ht e3 e2 h4 h8 hH (items := items) (plc := plc1) (tok := tok1) (num := num1) (once := once) (la := la) (pr := pr) (me := me) (wc := wc) (ea := ea) (ba := ba) (nb := nbF AT VV nb p 0 (Mn it)) h6 h5 (self := it17 (X2_read_S26 (nI t) tb) f')).1 hk
    have g := at_gt hT e3 (show KK (ps9 AT p (Mn it)) ≠ 0 by rw [hk]; decide)
    refine ⟨plc2, tok2, num2, r1 + 1, nbF AT VV nb p 0 (Mn it), by omega, rfl, ?_⟩
    rw [Nat.add_sub_cancel]
    exact e5
end
