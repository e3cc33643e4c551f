/-! tokens of the text, in class and reference -/
def T9 (t : Nat) (b : Nat → Nat) (tx tb : Nat → Int32) : Prop := t ≤ 300 ∧ ∀ i, i < t → b i < 256 ∧ tx i = nI (b i) ∧ tb i = (nI (b i)).toInt8.toInt32
def isL9 (c : Nat) : Bool := decide (97 ≤ c ∧ c ≤ 122)
def isD9 (c : Nat) : Bool := decide (48 ≤ c ∧ c ≤ 57)
theorem by_eq : ∀ c, c < 256 → (((nI c).toInt8.toInt32 = 32 ↔ c = 32) ∧ ((nI c).toInt8.toInt32 = 59 ↔ c = 59) ∧ ((nI c).toInt8.toInt32 = 48 ↔ c = 48)) := by decide +kernel
theorem by_let : ∀ c, c < 256 → fX2_isLetter ((nI c).toInt8.toInt32) = some (if isL9 c = true then 1 else 0) ∧ fX2_isDigit ((nI c).toInt8.toInt32) = some (if isD9 c = true then 1 else 0) ∧ fX7_in (nI c) 97 122 = some (if isL9 c = true then 1 else 0) ∧ fX7_in (nI c) 48 57 = some (if isD9 c = true then 1 else 0) := by decide +kernel
theorem by_pl : ∀ c, c < 256 → (isL9 c = true ∨ isD9 c = true) → (nI c).toInt8.toInt32 = nI c := by decide +kernel
theorem in_m1 : fX7_in (-1) 97 122 = some 0 ∧ fX7_in (-1) 48 57 = some 0 := by decide
theorem byteAt_in {t i : Nat} {b : Nat → Nat} {tx tb : Nat → Int32} (h : T9 t b tx tb) (hi : i < t) : fX7_byteAt (nI t) tx (nI i) = some (nI (b i)) := by
  have ht := h.1
  have ok : okx (nI i) 300 := okx_nI (by omega) (by omega)
  simp only [fX7_byteAt, if_neg (nI_ge (a := i) (b := t) hi (by omega)), gd_t ok, nI_clamp (show i < 2 ^ 31 by omega), (h.2 i hi).2.1]
theorem byteAt_end {t : Nat} {tx : Nat → Int32} (ht : t ≤ 300) : fX7_byteAt (nI t) tx (nI t) = some (-1) := by
  simp only [fX7_byteAt, if_pos (nI_le (Nat.le_refl t) (show t < 2 ^ 31 by omega))]
theorem run_ex {P : Nat → Prop} [DecidablePred P] {q t : Nat} (h : q ≤ t) : ∃ e, q ≤ e ∧ e ≤ t ∧ (∀ i, q ≤ i → i < e → P i) ∧ (e < t → ¬ P e) := by
  obtain ⟨i, h1, h2, h3⟩ := fb_first (p := fun i => q + i = t ∨ ¬ P (q + i)) (n := t - q + 1) ⟨t - q, by omega, Or.inl (by omega)⟩
  refine ⟨q + i, by omega, by omega, fun k g1 g2 => ?_, fun g => ?_⟩
  · have := h3 (k - q) (by omega)
    rw [show q + (k - q) = k by omega] at this
    apply Decidable.byContradiction
    intro n
    exact this (Or.inr n)
  · rcases h2 with z | z
    · omega
    · exact z
/-! words -/
def wL (w : Nat) : Nat := [5, 3, 3, 5, 6].getD w 0
def wC (w k : Nat) : Nat := ([[104, 111, 117, 115, 101], [98, 97, 114], [108, 97, 119], [112, 114, 105, 100, 101], [109, 101, 109, 111, 114, 121]].getD w []).getD k 0
theorem w_str : ∀ w, w < 5 → slen w = nI (wL w) ∧ sLen.getD w 0 = wL w ∧ wL w ≤ 6 ∧ ∀ k, k < 6 → k < wL w → sch w (nI k) = nI (wC w k) ∧ wC w k < 256 := by decide +kernel
def isW9 (b : Nat → Nat) (q e w : Nat) : Bool := decide (e - q = wL w) && allN (fun k => decide (b (q + k) = wC w k)) (wL w)
theorem isWord_eq {t q e : Nat} {b : Nat → Nat} {tx tb : Nat → Int32} (h : T9 t b tx tb) (hq : q ≤ e) (he : e ≤ t) (hL : ∀ i, q ≤ i → i < e → isL9 (b i) = true) {w : Nat} (hw : w < 5) : fX2_isWord (nI e) (nI q) tb w = some (if isW9 b q e w = true then 1 else 0) := by
  obtain ⟨s1, s2, s3, s4⟩ := w_str w hw
  have ht := h.1
  have e1 : nI e - nI q = nI (e - q) := pk_sub hq
  unfold fX2_isWord isW9
  rw [gd_t hw, e1, s1]
  by_cases hl : e - q = wL w
  · rw [if_pos (by rw [hl]), decide_eq_true hl, Bool.true_and]
    refine it1_all (f := X2_isWord_S20 (nI q) tb w) (wL w) (fun k => decide (b (q + k) = wC w k)) (some 1) (some 0) (fun k hk self => ?_) (fun self => ?_) 100000 (by omega) |>.trans ?_
    · have ok : okx (nI (q + k)) 300 := okx_nI (by omega) (by omega)
      have ok2 : okx (nI k) (wL w) := okx_nI hk (by omega)
      have lt : nI k < nI (wL w) := nI_lt hk (by omega)
      obtain ⟨g1, g2⟩ := s4 k (by omega) hk
      have hb := h.2 (q + k) (by omega)
      have eb : tb (q + k) = nI (b (q + k)) := hb.2.2.trans (by_pl _ hb.1 (Or.inl (hL (q + k) (by omega) (by omega))))
      simp only [X2_isWord_S20, gd_t hw, s1, s2, if_neg (nI_ge (a := k) (b := wL w) hk (by omega)), nI_add, gd_t ok, gd_t ok2, gd_t lt, nI_clamp (show q + k < 2 ^ 31 by omega), eb, g1, nI_eq (show b (q + k) < 2 ^ 31 by omega) (show wC w k < 2 ^ 31 by omega), lets_def, Lp1]
      by_cases g : b (q + k) = wC w k
      · simp [g]
      · simp [g]
    · simp only [X2_isWord_S20, gd_t hw, s1, if_pos (nI_le (Nat.le_refl (wL w)) (show wL w < 2 ^ 31 by omega))]
    · cases allN (fun k => decide (b (q + k) = wC w k)) (wL w) <;> rfl
  · rw [if_neg (fun g => hl ((nI_eq (by omega) (by omega)).mp g)), decide_eq_false hl, Bool.false_and]
    rfl
def codeW (b : Nat → Nat) (q e : Nat) : Nat := if isW9 b q e 0 = true then 4 else if isW9 b q e 1 = true then 5 else if isW9 b q e 2 = true then 6 else if isW9 b q e 3 = true then 7 else if isW9 b q e 4 = true then 8 else 1
theorem nextWord_eq {t q e : Nat} {b : Nat → Nat} {tx tb : Nat → Int32} (h : T9 t b tx tb) (hq : q ≤ e) (he : e ≤ t) (hL : ∀ i, q ≤ i → i < e → isL9 (b i) = true) (hE : e < t → ¬ isL9 (b e) = true) : fX2_nextWord (nI t) (nI q) (nI q) tb = some (nI e, nI (codeW b q e)) := by
  have ht := h.1
  have fin : X2_nextWord_J39 (nI q) tb (nI e) = some (nI e, nI (codeW b q e)) := by
    unfold X2_nextWord_J39 codeW
    rw [isWord_eq h hq he hL (show 0 < 5 by omega), some_bind9, bool_i]
    by_cases g0 : isW9 b q e 0 = true
    · rw [if_pos g0, if_pos g0]; rfl
    · rw [if_neg g0, if_neg g0, isWord_eq h hq he hL (show 1 < 5 by omega), some_bind9, bool_i]
      by_cases g1 : isW9 b q e 1 = true
      · rw [if_pos g1, if_pos g1]; rfl
      · rw [if_neg g1, if_neg g1, isWord_eq h hq he hL (show 2 < 5 by omega), some_bind9, bool_i]
        by_cases g2 : isW9 b q e 2 = true
        · rw [if_pos g2, if_pos g2]; rfl
        · rw [if_neg g2, if_neg g2, isWord_eq h hq he hL (show 3 < 5 by omega), some_bind9, bool_i]
          by_cases g3 : isW9 b q e 3 = true
          · rw [if_pos g3, if_pos g3]; rfl
          · rw [if_neg g3, if_neg g3, isWord_eq h hq he hL (show 4 < 5 by omega), some_bind9, bool_i]
            by_cases g4 : isW9 b q e 4 = true
            · rw [if_pos g4, if_pos g4]; rfl
            · rw [if_neg g4, if_neg g4]; rfl
  unfold fX2_nextWord
  refine it1_go (e - q) (fun i => nI (q + i)) _ rfl (fun i hi self => ?_) (fun self => ?_) 100000 (by omega)
  · have ok : okx (nI (q + i)) 300 := okx_nI (by omega) (by omega)
    have hb := h.2 (q + i) (by omega)
    simp only [X2_nextWord_S0, if_neg (nI_ge (a := q + i) (b := t) (by omega) (by omega)), gd_t ok, nI_clamp (show q + i < 2 ^ 31 by omega), hb.2.2, (by_let _ hb.1).1, some_bind9, bool_i, if_pos (hL (q + i) (by omega) (by omega)), lets_def, Lp1]
    rfl
  · have ee : q + (e - q) = e := by omega
    rcases Nat.lt_or_ge e t with g | g
    · have ok : okx (nI e) 300 := okx_nI (by omega) (by omega)
      have hb := h.2 e g
      simp only [X2_nextWord_S0, ee, if_neg (nI_ge (a := e) (b := t) g (by omega)), gd_t ok, nI_clamp (show e < 2 ^ 31 by omega), hb.2.2, (by_let _ hb.1).1, some_bind9, bool_i, if_neg (hE g), fin, if_true]
    · have e2 : e = t := by omega
      subst e2
      simp only [X2_nextWord_S0, ee, if_pos (nI_le (Nat.le_refl e) (show e < 2 ^ 31 by omega)), fin]
/-! words as numbers -/
def wN (b : Nat → Nat) (q : Nat) : Nat → Nat
  | 0 => 0
  | i + 1 => 256 * wN b q i + b (q + i)
theorem wN_lt {b : Nat → Nat} {q : Nat} : ∀ i, (∀ k, k < i → isL9 (b (q + k)) = true) → wN b q i < 256 ^ i ∧ (0 < i → 256 ^ (i - 1) ≤ wN b q i)
  | 0, _ => ⟨by simp [wN], fun h => absurd h (by omega)⟩
  | i + 1, h => by
    obtain ⟨h1, h2⟩ := wN_lt i (fun k hk => h k (by omega))
    have g := h i (by omega)
    simp only [isL9, decide_eq_true_eq] at g
    rw [wN, Nat.pow_succ]
    refine ⟨by omega, fun _ => ?_⟩
    rw [Nat.add_sub_cancel]
    rcases Nat.eq_zero_or_pos i with z | z
    · subst z; rw [Nat.pow_zero]; omega
    · have := h2 z
      have e : 256 ^ (i - 1 + 1) = 256 ^ (i - 1) * 256 := Nat.pow_succ _ _
      rw [show i - 1 + 1 = i by omega] at e
      omega
def wK (w : Nat) : Nat := [448546567013, 6447474, 7102839, 482955846757, 120282395144825].getD w 0
theorem named_eq : fX7_named 104 111 117 115 101 0 = some (lN (wK 0)) ∧ fX7_named 98 97 114 0 0 0 = some (lN (wK 1)) ∧ fX7_named 108 97 119 0 0 0 = some (lN (wK 2)) ∧ fX7_named 112 114 105 100 101 0 = some (lN (wK 3)) ∧ fX7_named 109 101 109 111 114 121 = some (lN (wK 4)) := by decide +kernel
theorem wordOf_eq {x : Nat} (hx : x < 2 ^ 63) : fX7_wordOf (lN x) = some (if x = wK 0 then 0 else if x = wK 1 then 1 else if x = wK 2 then 2 else if x = wK 3 then 3 else if x = wK 4 then 4 else -9) := by
  obtain ⟨n0, n1, n2, n3, n4⟩ := named_eq
  have k : ∀ w, w < 5 → wK w < 2 ^ 63 := by decide
  have i0 : (lN x = lN (wK 0)) ↔ x = wK 0 := fb_lN_inj hx (k 0 (by omega))
  have i1 : (lN x = lN (wK 1)) ↔ x = wK 1 := fb_lN_inj hx (k 1 (by omega))
  have i2 : (lN x = lN (wK 2)) ↔ x = wK 2 := fb_lN_inj hx (k 2 (by omega))
  have i3 : (lN x = lN (wK 3)) ↔ x = wK 3 := fb_lN_inj hx (k 3 (by omega))
  have i4 : (lN x = lN (wK 4)) ↔ x = wK 4 := fb_lN_inj hx (k 4 (by omega))
  simp only [fX7_wordOf, X7_wordOf_J67, n0, n1, n2, n3, n4, some_bind9, lg_cmp_eq, i0, i1, i2, i3, i4]
  by_cases g0 : x = wK 0
  · simp only [if_pos g0, if_neg (show ¬ (0 : Int32) = -9 by decide)]
  · by_cases g1 : x = wK 1
    · simp only [if_neg g0, if_pos g1, if_neg (show ¬ (1 : Int32) = -9 by decide)]
    · by_cases g2 : x = wK 2
      · simp only [if_neg g0, if_neg g1, if_pos g2, if_neg (show ¬ (2 : Int32) = -9 by decide)]
      · simp only [if_neg g0, if_neg g1, if_neg g2, if_pos]
        by_cases g3 : x = wK 3
        · simp only [if_pos g3]
        · by_cases g4 : x = wK 4
          · simp only [if_neg g3, if_pos g4]
          · simp only [if_neg g3, if_neg g4]
theorem word_num {b : Nat → Nat} {q e w : Nat} (hw : w < 5) (hq : q < e) (hL : ∀ i, q ≤ i → i < e → isL9 (b i) = true) : wN b q (if e - q < 7 then e - q else 7) = wK w ↔ isW9 b q e w = true := by
  have hl : ∀ k, k < e - q → isL9 (b (q + k)) = true := fun k hk => hL _ (by omega) (by omega)
  obtain ⟨m, hm, hm0, hm7⟩ : ∃ m, (if e - q < 7 then e - q else 7) = m ∧ 0 < m ∧ m ≤ e - q ∧ (m = e - q ∨ m = 7) ∧ m ≤ 7 := by
    by_cases g : e - q < 7
    · exact ⟨e - q, if_pos g, by omega, by omega, Or.inl rfl, by omega⟩
    · exact ⟨7, if_neg g, by omega, by omega, Or.inr rfl, by omega⟩
  rw [hm]
  obtain ⟨l1, l2⟩ := wN_lt (b := b) (q := q) m (fun k hk => hl k (by omega))
  have l2 := l2 hm0
  unfold isW9
  rw [Bool.and_eq_true, decide_eq_true_eq]
  have dg : ∀ k, k < m → 97 ≤ b (q + k) ∧ b (q + k) ≤ 122 := fun k hk => by
    have := hl k (by omega)
    simp only [isL9, decide_eq_true_eq] at this
    exact this
  have big : ∀ L, m ≠ L → wL w = L → 256 ^ (L - 1) ≤ wK w → wK w < 256 ^ L → (wN b q m = wK w ↔ e - q = L ∧ allN (fun k => decide (b (q + k) = wC w k)) L = true) := fun L hne hL1 k1 k2 => by
    refine ⟨fun g => ?_, fun g => ?_⟩
    · exfalso
      rcases Nat.lt_or_ge m L with z | z
      · have := Nat.pow_le_pow_right (show 0 < 256 by omega) (show m ≤ L - 1 by omega)
        omega
      · have := Nat.pow_le_pow_right (show 0 < 256 by omega) (show L ≤ m - 1 by omega)
        omega
    · exfalso
      have h6 : L ≤ 6 := by
        have := (w_str w hw).2.2.1
        omega
      rcases hm7.2.1 with z | z <;> omega
  rcases (show w = 0 ∨ w = 1 ∨ w = 2 ∨ w = 3 ∨ w = 4 by omega) with rfl | rfl | rfl | rfl | rfl
  · by_cases g : m = 5
    · subst g
      have a0 := dg 0 (by omega); have a1 := dg 1 (by omega); have a2 := dg 2 (by omega); have a3 := dg 3 (by omega); have a4 := dg 4 (by omega)
      have e5 : wN b q 5 = 256 * (256 * (256 * (256 * (256 * 0 + b (q + 0)) + b (q + 1)) + b (q + 2)) + b (q + 3)) + b (q + 4) := rfl
      have al5 : allN (fun k => decide (b (q + k) = wC 0 k)) (wL 0) = (((((true && decide (b (q + 0) = 104)) && decide (b (q + 1) = 111)) && decide (b (q + 2) = 117)) && decide (b (q + 3) = 115)) && decide (b (q + 4) = 101)) := rfl
      have eK : wK 0 = 448546567013 := rfl
      have eL : wL 0 = 5 := rfl
      rw [e5, al5, eK, eL]
      simp only [Bool.and_eq_true, decide_eq_true_eq, true_and]
      omega
    · exact big 5 g rfl (by decide) (by decide)
  · by_cases g : m = 3
    · subst g
      have a0 := dg 0 (by omega); have a1 := dg 1 (by omega); have a2 := dg 2 (by omega)
      have e5 : wN b q 3 = 256 * (256 * (256 * 0 + b (q + 0)) + b (q + 1)) + b (q + 2) := rfl
      have al5 : allN (fun k => decide (b (q + k) = wC 1 k)) (wL 1) = (((true && decide (b (q + 0) = 98)) && decide (b (q + 1) = 97)) && decide (b (q + 2) = 114)) := rfl
      have eK : wK 1 = 6447474 := rfl
      have eL : wL 1 = 3 := rfl
      rw [e5, al5, eK, eL]
      simp only [Bool.and_eq_true, decide_eq_true_eq, true_and]
      omega
    · exact big 3 g rfl (by decide) (by decide)
  · by_cases g : m = 3
    · subst g
      have a0 := dg 0 (by omega); have a1 := dg 1 (by omega); have a2 := dg 2 (by omega)
      have e5 : wN b q 3 = 256 * (256 * (256 * 0 + b (q + 0)) + b (q + 1)) + b (q + 2) := rfl
      have al5 : allN (fun k => decide (b (q + k) = wC 2 k)) (wL 2) = (((true && decide (b (q + 0) = 108)) && decide (b (q + 1) = 97)) && decide (b (q + 2) = 119)) := rfl
      have eK : wK 2 = 7102839 := rfl
      have eL : wL 2 = 3 := rfl
      rw [e5, al5, eK, eL]
      simp only [Bool.and_eq_true, decide_eq_true_eq, true_and]
      omega
    · exact big 3 g rfl (by decide) (by decide)
  · by_cases g : m = 5
    · subst g
      have a0 := dg 0 (by omega); have a1 := dg 1 (by omega); have a2 := dg 2 (by omega); have a3 := dg 3 (by omega); have a4 := dg 4 (by omega)
      have e5 : wN b q 5 = 256 * (256 * (256 * (256 * (256 * 0 + b (q + 0)) + b (q + 1)) + b (q + 2)) + b (q + 3)) + b (q + 4) := rfl
      have al5 : allN (fun k => decide (b (q + k) = wC 3 k)) (wL 3) = (((((true && decide (b (q + 0) = 112)) && decide (b (q + 1) = 114)) && decide (b (q + 2) = 105)) && decide (b (q + 3) = 100)) && decide (b (q + 4) = 101)) := rfl
      have eK : wK 3 = 482955846757 := rfl
      have eL : wL 3 = 5 := rfl
      rw [e5, al5, eK, eL]
      simp only [Bool.and_eq_true, decide_eq_true_eq, true_and]
      omega
    · exact big 5 g rfl (by decide) (by decide)
  · by_cases g : m = 6
    · subst g
      have a0 := dg 0 (by omega); have a1 := dg 1 (by omega); have a2 := dg 2 (by omega); have a3 := dg 3 (by omega); have a4 := dg 4 (by omega); have a5 := dg 5 (by omega)
      have e5 : wN b q 6 = 256 * (256 * (256 * (256 * (256 * (256 * 0 + b (q + 0)) + b (q + 1)) + b (q + 2)) + b (q + 3)) + b (q + 4)) + b (q + 5) := rfl
      have al5 : allN (fun k => decide (b (q + k) = wC 4 k)) (wL 4) = ((((((true && decide (b (q + 0) = 109)) && decide (b (q + 1) = 101)) && decide (b (q + 2) = 109)) && decide (b (q + 3) = 111)) && decide (b (q + 4) = 114)) && decide (b (q + 5) = 121)) := rfl
      have eK : wK 4 = 120282395144825 := rfl
      have eL : wL 4 = 6 := rfl
      rw [e5, al5, eK, eL]
      simp only [Bool.and_eq_true, decide_eq_true_eq, true_and]
      omega
    · exact big 6 g rfl (by decide) (by decide)
