/-! the class reads the text -/
def Toks9 (t : Nat) (tx tb : Nat → Int32) (AT PL KK VV : Nat → Nat) : Prop := ∀ p, p ≤ t → Tok9 t tx tb p (AT p) (PL p) (KK p) (VV p)
theorem toks_ex {t : Nat} {b : Nat → Nat} {tx tb : Nat → Int32} (h : T9 t b tx tb) : ∃ AT PL KK VV, Toks9 t tx tb AT PL KK VV := by
  have ex : ∀ p, ∃ c : Nat × Nat × Nat × Nat, p ≤ t → Tok9 t tx tb p c.1 c.2.1 c.2.2.1 c.2.2.2 := fun p => by
    by_cases hp : p ≤ t
    · obtain ⟨a, l, k, v, e⟩ := tok_ex h hp
      exact ⟨(a, l, k, v), fun _ => e⟩
    · exact ⟨(0, 0, 0, 0), fun z => absurd z hp⟩
  obtain ⟨g, hg⟩ := Classical.axiomOfChoice ex
  exact ⟨fun p => (g p).1, fun p => (g p).2.1, fun p => (g p).2.2.1, fun p => (g p).2.2.2, fun p hp => hg p hp⟩
def Mn (it : Nat) : Nat := if it = 4 then 5 else if it = 5 then 2 else 1
def okV (it H j v : Nat) : Prop := if it = 4 then (if j = 4 then 1 ≤ v ∧ v ≤ 9 else v ≤ 9) else if it = 5 then (if j = 0 then v < H else v ≤ 3) else if it = 6 then v ≤ 2 else v ≤ 9
theorem Mn_eq : ∀ it, it < 9 → 4 ≤ it → fX2_numbersOf (nI it) = some (nI (Mn it)) ∧ Mn it ≤ 5 ∧ 1 ≤ Mn it ∧ ¬ nI it = 0 := by decide +kernel
theorem great_eq {it H j : Nat} (h4 : 4 ≤ it) (h8 : it ≤ 8) (hH : H ≤ 6) (hj : j < Mn it) {v : Nat} (hv : v ≤ 99) : ∃ g lo, fX2_greatestNumber (nI it) (nI j) (nI H) = some g ∧ ((if it = 4 then (if j = 4 then (1 : Int32) else 0) else 0) = nI lo) ∧ ((¬ nI v < nI lo ∧ nI v ≤ g) ↔ okV it H j v) := by
  have lv : ∀ c : Nat, c < 100 → (nI v ≤ nI c ↔ v ≤ c) := fun c hc => nI_leI (by omega) (by omega)
  have lo0 : ¬ nI v < nI 0 := nI_nlt (Nat.zero_le v) (by omega)
  rcases (show it = 4 ∨ it = 5 ∨ it = 6 ∨ it = 7 ∨ it = 8 by omega) with rfl | rfl | rfl | rfl | rfl
  · have eg : fX2_greatestNumber (nI 4) (nI j) (nI H) = some (nI 9) := by
      simp only [fX2_greatestNumber, if_neg (show ¬ nI 4 = 5 by decide), if_neg (show ¬ nI 4 = 6 by decide)]; rfl
    by_cases z : j = 4
    · refine ⟨nI 9, 1, eg, by rw [if_pos rfl, if_pos z]; rfl, ?_⟩
      unfold okV
      rw [if_pos rfl, if_pos z, lv 9 (by omega), nI_ltI (by omega) (by omega)]
      omega
    · refine ⟨nI 9, 0, eg, by rw [if_pos rfl, if_neg z]; rfl, ?_⟩
      unfold okV
      rw [if_pos rfl, if_neg z, lv 9 (by omega)]
      exact ⟨fun h => h.2, fun h => ⟨lo0, h⟩⟩
  · by_cases z : j = 0
    · have eg : fX2_greatestNumber (nI 5) (nI j) (nI H) = some (nI H - 1) := by
        rw [z]
        simp only [fX2_greatestNumber, if_pos (show nI 5 = 5 from rfl), if_pos (show nI 0 = 0 from rfl)]
      refine ⟨nI H - 1, 0, eg, by rw [if_neg (by omega)]; rfl, ?_⟩
      unfold okV
      rw [if_neg (by omega), if_pos rfl, if_pos z, Int32.le_iff_toInt_le, sub1_toInt (by omega), nI_toInt (by omega)]
      exact ⟨fun h => by omega, fun h => ⟨lo0, by omega⟩⟩
    · have nz : ¬ nI j = 0 := nI_ne0 (by omega) (by have h2 : Mn 5 = 2 := rfl; rw [h2] at hj; omega)
      have eg : fX2_greatestNumber (nI 5) (nI j) (nI H) = some (nI 3) := by
        simp only [fX2_greatestNumber, if_pos (show nI 5 = 5 from rfl), if_neg nz]; rfl
      refine ⟨nI 3, 0, eg, by rw [if_neg (by omega)]; rfl, ?_⟩
      unfold okV
      rw [if_neg (by omega), if_pos rfl, if_neg z, lv 3 (by omega)]
      exact ⟨fun h => h.2, fun h => ⟨lo0, h⟩⟩
  · have eg : fX2_greatestNumber (nI 6) (nI j) (nI H) = some (nI 2) := by
      simp only [fX2_greatestNumber, if_neg (show ¬ nI 6 = 5 by decide), if_pos (show nI 6 = 6 from rfl)]; rfl
    refine ⟨nI 2, 0, eg, by rw [if_neg (by omega)]; rfl, ?_⟩
    unfold okV
    rw [if_neg (by omega), if_neg (by omega), if_pos rfl, lv 2 (by omega)]
    exact ⟨fun h => h.2, fun h => ⟨lo0, h⟩⟩
  · have eg : fX2_greatestNumber (nI 7) (nI j) (nI H) = some (nI 9) := by
      simp only [fX2_greatestNumber, if_neg (show ¬ nI 7 = 5 by decide), if_neg (show ¬ nI 7 = 6 by decide)]; rfl
    refine ⟨nI 9, 0, eg, by rw [if_neg (by omega)]; rfl, ?_⟩
    unfold okV
    rw [if_neg (by omega), if_neg (by omega), if_neg (by omega), lv 9 (by omega)]
    exact ⟨fun h => h.2, fun h => ⟨lo0, h⟩⟩
  · have eg : fX2_greatestNumber (nI 8) (nI j) (nI H) = some (nI 9) := by
      simp only [fX2_greatestNumber, if_neg (show ¬ nI 8 = 5 by decide), if_neg (show ¬ nI 8 = 6 by decide)]; rfl
    refine ⟨nI 9, 0, eg, by rw [if_neg (by omega)]; rfl, ?_⟩
    unfold okV
    rw [if_neg (by omega), if_neg (by omega), if_neg (by omega), lv 9 (by omega)]
    exact ⟨fun h => h.2, fun h => ⟨lo0, h⟩⟩
theorem take_eq {it H j k v : Nat} (h4 : 4 ≤ it) (h8 : it ≤ 8) (hH : H ≤ 6) (hj : j < Mn it) (hk : k ≤ 8) (hv : k = 2 → v ≤ 99) {num : Int32} (hn : k = 2 → num = nI v) {nb : Nat → Int32} : (k = 2 ∧ okV it H j v → fX2_takeNumber (nI k) num (nI it) (nI j) (nI H) nb = some (1, nI (j + 1), upd nb j (nI v))) ∧ (¬ (k = 2 ∧ okV it H j v) → fX2_takeNumber (nI k) num (nI it) (nI j) (nI H) nb = some (0, nI j, nb)) := by
  have hj5 : j < 5 := by have := (Mn_eq it (by omega) h4).2.1; omega
  have e21 : fX2_takeNumber (nI k) num (nI it) (nI j) (nI H) nb = X2_takeNumber_J21 (nI k) num (nI it) (nI j) (nI H) nb (if it = 4 then (if j = 4 then (1 : Int32) else 0) else 0) := by
    unfold fX2_takeNumber X2_takeNumber_J20
    have c4 : (nI it = 4) ↔ it = 4 := nI_eq (a := it) (b := 4) (by omega) (by omega)
    have d4 : (nI j = 4) ↔ j = 4 := nI_eq (a := j) (b := 4) (by omega) (by omega)
    simp only [c4, d4]
    by_cases z : it = 4
    · by_cases y : j = 4
      · simp only [if_pos z, if_pos y]
      · simp only [if_pos z, if_neg y]
    · simp only [if_neg z]
  rw [e21]
  unfold X2_takeNumber_J21
  have c2 : (nI k = 2) ↔ k = 2 := nI_eq (a := k) (b := 2) (by omega) (by omega)
  have ok : okx (nI j) 5 := okx_nI hj5 (by omega)
  by_cases z : k = 2
  · obtain ⟨g, lo, g1, g2, g3⟩ := great_eq h4 h8 hH hj (hv z)
    rw [if_pos (c2.mpr z), hn z, g2, g1, some_bind9, gd_t ok, nI_clamp (by omega), lets_def, lets_def, Lp1]
    constructor
    · rintro ⟨-, h⟩
      obtain ⟨w1, w2⟩ := g3.mpr h
      rw [if_neg w1, if_pos w2]
    · intro h
      by_cases w1 : nI v < nI lo
      · rw [if_pos w1]
      · rw [if_neg w1, if_neg (fun w2 => h ⟨z, g3.mp ⟨w1, w2⟩⟩)]
  · rw [if_neg (fun y => z (c2.mp y))]
    exact ⟨fun h => absurd h.1 z, fun _ => rfl⟩
def ps9 (AT : Nat → Nat) (p : Nat) : Nat → Nat
  | 0 => p
  | i + 1 => ps9 AT (AT p) i
def nbF (AT VV : Nat → Nat) (nb : Nat → Int32) (p j : Nat) : Nat → (Nat → Int32)
  | 0 => nb
  | c + 1 => nbF AT VV (upd nb j (nI (VV p))) (AT p) (j + 1) c
def FaultX (res : Option (Int32 × Int32 × Int32 × Int32 × Int32 × Int32 × Int32 × Int32 × Int32 × Int32 × Int32 × Int32 × (Nat → Int32) × (Nat → Int32) × (Nat → Int32) × (Nat → Int32))) (pl : Nat) : Prop := ∃ a1 a2 a3 a4 a5 a6 a7 a8 a9 b1 b2 b3 b4 b5 b6, res = some (-10 - nI pl, a1, a2, a3, a4, a5, a6, a7, a8, a9, b1, b2, b3, b4, b5, b6)
section
variable {t : Nat} {tx tb : Nat → Int32} {AT PL KK VV : Nat → Nat}
theorem c_num {p r it H j : Nat} (hT : Toks9 t tx tb AT PL KK VV) (ht : t ≤ 300) (hp : p ≤ t) (hr : r ≤ p) (h4 : 4 ≤ it) (h8 : it ≤ 8) (hH : H ≤ 6) (hj : j < Mn it) {items plc tok num once la pr me : Int32} {wc ea ba nb : Nat → Int32} {self : Int32 → Int32 → Int32 → Int32 → Int32 → Int32 → Int32 → Int32 → Int32 → Int32 → Int32 → Int32 → Int32 → (Nat → Int32) → (Nat → Int32) → (Nat → Int32) → (Nat → Int32) → Option (Int32 × Int32 × Int32 × Int32 × Int32 × Int32 × Int32 × Int32 × Int32 × Int32 × Int32 × Int32 × (Nat → Int32) × (Nat → Int32) × (Nat → Int32) × (Nat → Int32))} :
    (KK p = 2 ∧ okV it H j (VV p) → ∃ plc' tok' num', X2_read_S26 (nI t) tb self items (nI r) (nI p) plc tok num (nI it) (nI j) once (nI H) la pr me wc ea ba nb = self items (nI (r + 1)) (nI (AT p)) plc' tok' num' (nI it) (nI (j + 1)) once (nI H) la pr me wc ea ba (upd nb j (nI (VV p)))) ∧
    (¬ (KK p = 2 ∧ okV it H j (VV p)) → FaultX (X2_read_S26 (nI t) tb self items (nI r) (nI p) plc tok num (nI it) (nI j) once (nI H) la pr me wc ea ba nb) (PL p)) := by
  obtain ⟨t1, t2, t3, t4, t5, t6, t7, t8, -⟩ := hT p hp
  obtain ⟨num', e1, e2⟩ := t8 num
  obtain ⟨m1, m2, m3, m4⟩ := Mn_eq it (by omega) h4
  obtain ⟨k1, k2⟩ := take_eq h4 h8 hH hj t6 t7 e2 (nb := nb)
  have c300 : ¬ (300 : Int32) < nI r := nI_nlt (a := 300) (b := r) (by omega) (by omega)
  have nm : ¬ nI (Mn it) ≤ nI j := nI_ge (a := j) (b := Mn it) hj (by omega)
  have n5 : ¬ (5 : Int32) ≤ nI j := nI_ge (a := j) (b := 5) (by omega) (by omega)
  have step : X2_read_S26 (nI t) tb self items (nI r) (nI p) plc tok num (nI it) (nI j) once (nI H) la pr me wc ea ba nb = X2_read_J53 items (nI r) (nI it) (nI j) once (nI H) la pr me wc ea ba nb self (nI (AT p), nI (PL p), nI (KK p), num') := by
    simp only [X2_read_S26, if_neg c300, e1, some_bind9, if_neg m4, ite_self]
  have cs : fX2_canStand (nI (KK p)) num' (nI it) (nI j) once (nI H) la pr me wc ea ba nb = (fX2_takeNumber (nI (KK p)) num' (nI it) (nI j) (nI H) nb).bind (fun r_39 => gd (isB r_39.1) (some (r_39.1, nI it, r_39.2.1, once, nI H, la, pr, me, wc, ea, ba, r_39.2.2))) := by
    simp only [fX2_canStand, if_neg m4, m1, some_bind9, if_neg nm, if_neg n5]
  constructor
  · intro h
    have n3 : ¬ nI (KK p) = 3 := by rw [h.1]; decide
    refine ⟨nI (PL p), nI (KK p), num', ?_⟩
    rw [step]
    simp only [X2_read_J53, cs, k1 h, some_bind9, gd_t (show isB 1 from Or.inr rfl), if_neg one_ne, if_neg n3, X2_read_J79, lets_def, Lp1]
  · intro h
    rw [step]
    simp only [X2_read_J53, cs, k2 h, some_bind9, gd_t (show isB 0 from Or.inl rfl), if_true, X2_read_J60]
    exact ⟨_, _, _, _, _, _, _, _, _, _, _, _, _, _, _, rfl⟩
theorem at_gt {p : Nat} (hT : Toks9 t tx tb AT PL KK VV) (hp : p ≤ t) (hk : KK p ≠ 0) : p < AT p ∧ AT p ≤ t := by
  obtain ⟨t1, t2, t3, t4, -⟩ := hT p hp
  have := t4 hk
  omega
theorem c_nums {it H : Nat} (hT : Toks9 t tx tb AT PL KK VV) (ht : t ≤ 300) (h4 : 4 ≤ it) (h8 : it ≤ 8) (hH : H ≤ 6) {items once la pr me : Int32} {wc ea ba : Nat → Int32} : ∀ (c j p r f : Nat) (nb : Nat → Int32) (plc tok num : Int32), j + c ≤ Mn it → c ≤ f → r ≤ p → p ≤ t → (∀ i, i < c → KK (ps9 AT p i) = 2 ∧ okV it H (j + i) (VV (ps9 AT p i))) →
    ∃ plc' tok' num' r', it17 (X2_read_S26 (nI t) tb) f items (nI r) (nI p) plc tok num (nI it) (nI j) once (nI H) la pr me wc ea ba nb = it17 (X2_read_S26 (nI t) tb) (f - c) items (nI r') (nI (ps9 AT p c)) plc' tok' num' (nI it) (nI (j + c)) once (nI H) la pr me wc ea ba (nbF AT VV nb p j c) ∧ r' ≤ ps9 AT p c ∧ ps9 AT p c ≤ t ∧ p + c ≤ ps9 AT p c
  | 0, j, p, r, f, nb, plc, tok, num, hj, hf, hr, hp, hok => ⟨plc, tok, num, r, rfl, hr, hp, Nat.le_refl _⟩
  | c + 1, j, p, r, f, nb, plc, tok, num, hj, hf, hr, hp, hok => by
    obtain ⟨f, rfl⟩ : ∃ m, f = m + 1 := ⟨f - 1, by omega⟩
    have h0 := hok 0 (by omega)
    have h0' : KK p = 2 ∧ okV it H j (VV p) := h0
    obtain ⟨g1, g2⟩ := at_gt hT hp (show KK p ≠ 0 by rw [h0'.1]; decide)
    obtain ⟨plc1, tok1, num1, e1⟩ := (c_num hT ht hp hr h4 h8 hH (show j < Mn it by omega) (items := items) (plc := plc) (tok := tok) (num := num) (once := once) (la := la) (pr := pr) (me := me) (wc := wc) (ea := ea) (ba := ba) (nb := nb) (self := it17 (X2_read_S26 (nI t) tb) f)).1 h0'
    obtain ⟨plc', tok', num', r', e2, e3, e4, e5⟩ := c_nums hT ht h4 h8 hH (items := items) (once := once) (la := la) (pr := pr) (me := me) (wc := wc) (ea := ea) (ba := ba) c (j + 1) (AT p) (r + 1) f (upd nb j (nI (VV p))) plc1 tok1 num1 (by omega) (by omega) (by omega) g2 (fun i hi => by
      have := hok (i + 1) (by omega)
      rw [show j + 1 + i = j + (i + 1) by omega]
      exact this)
    refine ⟨plc', tok', num', r', ?_, e3, e4, ?_⟩
    · show X2_read_S26 (nI t) tb (it17 (X2_read_S26 (nI t) tb) f) items (nI r) (nI p) plc tok num (nI it) (nI j) once (nI H) la pr me wc ea ba nb = _
      rw [e1, e2, show f + 1 - (c + 1) = f - c by omega, show j + 1 + c = j + (c + 1) by omega]
      rfl
    · show p + (c + 1) ≤ ps9 AT (AT p) c
      omega
theorem ps_add {p : Nat} : ∀ i, ps9 AT p (i + 1) = AT (ps9 AT p i)
  | 0 => rfl
  | i + 1 => ps_add (p := AT p) i
/-- what an item's end makes of the draft -/
def endD (it : Nat) (H : Nat) (la pr me : Int32) (wc ea ba nb : Nat → Int32) : Int32 × Int32 × Int32 × Int32 × (Nat → Int32) × (Nat → Int32) × (Nat → Int32) :=
  if it = 4 then (nI (H + 1), la, pr, me, upd (upd (upd (upd wc (4 * H) (nb 0)) (4 * H + 1) (nb 1)) (4 * H + 2) (nb 2)) (4 * H + 3) (nb 3), upd ea H (nb 4), ba)
  else if it = 5 then (nI H, la, pr, me, wc, ea, upd ba (nb 0).toNatClampNeg (ba (nb 0).toNatClampNeg ||| ((1 : Int32) <<< (nb 1 &&& 31))))
  else if it = 6 then (nI H, nb 0, pr, me, wc, ea, ba) else if it = 7 then (nI H, la, nb 0, me, wc, ea, ba) else (nI H, la, pr, nb 0, wc, ea, ba)
theorem addHouse_eq {H : Nat} (hH : H < 6) {wc ea nb : Nat → Int32} : fX3_addHouse (nI H) wc ea nb = some (nI (H + 1), upd (upd (upd (upd wc (4 * H) (nb 0)) (4 * H + 1) (nb 1)) (4 * H + 2) (nb 2)) (4 * H + 3) (nb 3), upd ea H (nb 4)) := by
  have ok : okx (nI H) 6 := okx_nI hH (by omega)
  have c4 : (4 : Int32).toNatClampNeg = 4 := rfl
  unfold fX3_addHouse
  rw [if_neg (show ¬ (6 : Int32) ≤ nI H from nI_ge (a := H) (b := 6) hH (by omega)), if_pos (by decide)]
  have st : ∀ i, i < 4 → ∀ (W : Nat → Int32) (self : Int32 → (Nat → Int32) → Option (Int32 × (Nat → Int32) × (Nat → Int32))), X3_addHouse_S18 (nI H) ea nb self (nI i) W = self (nI (i + 1)) (upd W (4 * H + i) (nb i)) := fun i hi W self => by
    have ok5 : okx (nI i) 5 := okx_nI (by omega) (by omega)
    simp only [X3_addHouse_S18, if_neg (show ¬ (4 : Int32) ≤ nI i from nI_ge (a := i) (b := 4) hi (by omega)), gd_t ok5, nI_clamp (show i < 2 ^ 31 by omega), put_eq hH hi, some_bind9, lets_def, Lp1]
  refine it2_go 4 (fun i => nI i) (fun i => if i = 0 then wc else if i = 1 then upd wc (4 * H) (nb 0) else if i = 2 then upd (upd wc (4 * H) (nb 0)) (4 * H + 1) (nb 1) else if i = 3 then upd (upd (upd wc (4 * H) (nb 0)) (4 * H + 1) (nb 1)) (4 * H + 2) (nb 2) else upd (upd (upd (upd wc (4 * H) (nb 0)) (4 * H + 1) (nb 1)) (4 * H + 2) (nb 2)) (4 * H + 3) (nb 3)) _ rfl rfl (fun i hi self => ?_) (fun self => ?_) 100000 (by decide)
  · rw [st i hi]
    rcases (show i = 0 ∨ i = 1 ∨ i = 2 ∨ i = 3 by omega) with rfl | rfl | rfl | rfl <;> rfl
  · simp only [X3_addHouse_S18, X3_addHouse_J44, if_pos (show (4 : Int32) ≤ nI 4 by decide), gd_t ok, nI_clamp (show H < 2 ^ 31 by omega), c4, lets_def, Lp1]
    rfl
theorem c_stop {p r it H : Nat} (hT : Toks9 t tx tb AT PL KK VV) (ht : t ≤ 300) (hp : p ≤ t) (hr : r ≤ p) (h4 : 4 ≤ it) (h8 : it ≤ 8) (hH : H ≤ 6) {items plc tok num once la pr me : Int32} {wc ea ba nb : Nat → Int32} (h6 : it = 4 → H < 6) (h5 : it = 5 → ∃ h, h < 6 ∧ nb 0 = nI h) {self : Int32 → Int32 → Int32 → Int32 → Int32 → Int32 → Int32 → Int32 → Int32 → Int32 → Int32 → Int32 → Int32 → (Nat → Int32) → (Nat → Int32) → (Nat → Int32) → (Nat → Int32) → Option (Int32 × Int32 × Int32 × Int32 × Int32 × Int32 × Int32 × Int32 × Int32 × Int32 × Int32 × Int32 × (Nat → Int32) × (Nat → Int32) × (Nat → Int32) × (Nat → Int32))} :
    (KK p = 3 → ∃ plc' tok' num', X2_read_S26 (nI t) tb self items (nI r) (nI p) plc tok num (nI it) (nI (Mn it)) once (nI H) la pr me wc ea ba nb = self (items + 1) (nI (r + 1)) (nI (AT p)) plc' tok' num' 0 (nI (Mn it)) once (endD it H la pr me wc ea ba nb).1 (endD it H la pr me wc ea ba nb).2.1 (endD it H la pr me wc ea ba nb).2.2.1 (endD it H la pr me wc ea ba nb).2.2.2.1 (endD it H la pr me wc ea ba nb).2.2.2.2.1 (endD it H la pr me wc ea ba nb).2.2.2.2.2.1 (endD it H la pr me wc ea ba nb).2.2.2.2.2.2 nb) ∧
    (¬ KK p = 3 → FaultX (X2_read_S26 (nI t) tb self items (nI r) (nI p) plc tok num (nI it) (nI (Mn it)) once (nI H) la pr me wc ea ba nb) (PL p)) := by
  obtain ⟨t1, t2, t3, t4, t5, t6, t7, t8, -⟩ := hT p hp
  obtain ⟨num', e1, e2⟩ := t8 num
  obtain ⟨m1, m2, m3, m4⟩ := Mn_eq it (by omega) h4
  have c300 : ¬ (300 : Int32) < nI r := nI_nlt (a := 300) (b := r) (by omega) (by omega)
  have nm : nI (Mn it) ≤ nI (Mn it) := nI_le (Nat.le_refl _) (by omega)
  have c3 : (nI (KK p) = 3) ↔ KK p = 3 := nI_eq (a := KK p) (b := 3) (by omega) (by omega)
  have step : X2_read_S26 (nI t) tb self items (nI r) (nI p) plc tok num (nI it) (nI (Mn it)) once (nI H) la pr me wc ea ba nb = X2_read_J53 items (nI r) (nI it) (nI (Mn it)) once (nI H) la pr me wc ea ba nb self (nI (AT p), nI (PL p), nI (KK p), num') := by
    simp only [X2_read_S26, if_neg c300, e1, some_bind9, if_neg m4, ite_self]
  constructor
  · intro h
    have ee : fX2_endItem (nI (KK p)) (nI it) (nI H) la pr me wc ea ba nb = some (1, 0, (endD it H la pr me wc ea ba nb).1, (endD it H la pr me wc ea ba nb).2.1, (endD it H la pr me wc ea ba nb).2.2.1, (endD it H la pr me wc ea ba nb).2.2.2.1, (endD it H la pr me wc ea ba nb).2.2.2.2.1, (endD it H la pr me wc ea ba nb).2.2.2.2.2.1, (endD it H la pr me wc ea ba nb).2.2.2.2.2.2) := by
      have c0 : (0 : Int32).toNatClampNeg = 0 := rfl
      have c1 : (1 : Int32).toNatClampNeg = 1 := rfl
      rcases (show it = 4 ∨ it = 5 ∨ it = 6 ∨ it = 7 ∨ it = 8 by omega) with rfl | rfl | rfl | rfl | rfl
      · simp only [fX2_endItem, X2_endItem_J125, if_pos (c3.mpr h), if_pos (show nI 4 = 4 from rfl), addHouse_eq (h6 rfl), some_bind9, endD, if_pos]
      · obtain ⟨x, hx, ex⟩ := h5 rfl
        have okb : okx (nI x) 6 := okx_nI hx (by omega)
        simp only [fX2_endItem, X2_endItem_J125, if_pos (c3.mpr h), if_neg (show ¬ nI 5 = 4 by decide), if_pos (show nI 5 = 5 from rfl), c0, c1, fX3_bar, ex, gd_t okb, lets_def, some_bind9, endD, if_neg (show ¬ (5 = 4) by decide), if_pos]
      · simp only [fX2_endItem, X2_endItem_J125, if_pos (c3.mpr h), if_neg (show ¬ nI 6 = 4 by decide), if_neg (show ¬ nI 6 = 5 by decide), if_pos (show nI 6 = 6 from rfl), c0, lets_def, endD, if_neg (show ¬ (6 = 4) by decide), if_neg (show ¬ (6 = 5) by decide), if_pos]
      · simp only [fX2_endItem, X2_endItem_J125, if_pos (c3.mpr h), if_neg (show ¬ nI 7 = 4 by decide), if_neg (show ¬ nI 7 = 5 by decide), if_neg (show ¬ nI 7 = 6 by decide), if_pos (show nI 7 = 7 from rfl), c0, lets_def, endD, if_neg (show ¬ (7 = 4) by decide), if_neg (show ¬ (7 = 5) by decide), if_neg (show ¬ (7 = 6) by decide), if_pos]
      · simp only [fX2_endItem, X2_endItem_J125, if_pos (c3.mpr h), if_neg (show ¬ nI 8 = 4 by decide), if_neg (show ¬ nI 8 = 5 by decide), if_neg (show ¬ nI 8 = 6 by decide), if_neg (show ¬ nI 8 = 7 by decide), c0, lets_def, endD, if_neg (show ¬ (8 = 4) by decide), if_neg (show ¬ (8 = 5) by decide), if_neg (show ¬ (8 = 6) by decide), if_neg (show ¬ (8 = 7) by decide)]
    refine ⟨nI (PL p), nI (KK p), num', ?_⟩
    rw [step]
    simp only [X2_read_J53, fX2_canStand, X2_canStand_J43, if_neg m4, m1, some_bind9, if_pos nm, ee, gd_t (show isB 1 from Or.inr rfl), if_neg one_ne, if_pos (c3.mpr h), X2_read_J79, lets_def, Lp1]
  · intro h
    have n3 : ¬ nI (KK p) = 3 := fun z => h (c3.mp z)
    rw [step]
    simp only [X2_read_J53, fX2_canStand, X2_canStand_J43, if_neg m4, m1, some_bind9, if_pos nm, fX2_endItem, if_neg n3, gd_t (show isB 0 from Or.inl rfl), if_true, X2_read_J60]
    exact ⟨_, _, _, _, _, _, _, _, _, _, _, _, _, _, _, rfl⟩
end
