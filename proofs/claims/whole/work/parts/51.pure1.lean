/-! numbers of the calls: houses, sorts, halves -/
theorem L24 (h : Nat) : (24 : Int32) + nI h = nI (24 + h) := nI_add 24 h
theorem L30 (h : Nat) : (30 : Int32) + nI h = nI (30 + h) := nI_add 30 h
theorem L54 (h : Nat) : (54 : Int32) + nI h = nI (54 + h) := nI_add 54 h
theorem L59 (h : Nat) : (59 : Int32) + nI h = nI (59 + h) := nI_add 59 h
theorem L4m (h : Nat) : (4 : Int32) * nI h = nI (4 * h) := pk_mul 4 h
theorem Lm4 (h : Nat) : nI h * (4 : Int32) = nI (4 * h) := by
  have e : nI h * nI 4 = nI (h * 4) := pk_mul h 4
  rw [Nat.mul_comm] at e
  exact e
theorem Lp1 (h : Nat) : nI h + (1 : Int32) = nI (h + 1) := nI_add h 1
theorem Lp2 (h : Nat) : nI h + (2 : Int32) = nI (h + 2) := nI_add h 2
theorem Lp3 (h : Nat) : nI h + (3 : Int32) = nI (h + 3) := nI_add h 3
theorem some_bind9 {α β : Type} (a : α) (f : α → Option β) : (some a).bind f = f a := rfl
theorem in_t {x a b : Int32} (h1 : ¬ x < a) (h2 : ¬ b < x) : fX7_in x a b = some 1 := by unfold fX7_in; rw [if_neg h1, if_neg h2]
theorem in_f1 {x a b : Int32} (h1 : x < a) : fX7_in x a b = some 0 := by unfold fX7_in; rw [if_pos h1]
theorem in_f2 {x a b : Int32} (h2 : b < x) : fX7_in x a b = some 0 := by
  unfold fX7_in
  by_cases h : x < a
  · rw [if_pos h]
  · rw [if_neg h, if_pos h2]
theorem sub1_toInt {n : Nat} (hn : n < 2 ^ 30) : (nI n - 1).toInt = (n : Int) - 1 := pk_sub_toInt (a := n) (b := 1) hn (by decide)
theorem house_cases {n : Nat} (hn : n ≤ 6) (x : Int32) : (∃ h, h < n ∧ x = nI h ∧ fX6_isHouse (nI n) x = some 1 ∧ fX7_isHouse (nI n) x = some 1) ∨ (fX6_isHouse (nI n) x = some 0 ∧ fX7_isHouse (nI n) x = some 0) := by
  rcases pk_ix x (n := n) (by omega) with h | h | ⟨j, hj, rfl⟩
  · right
    refine ⟨?_, ?_⟩
    · unfold fX6_isHouse; rw [if_pos h]
    · unfold fX7_isHouse; rw [in_f1 h]; rfl
  · right
    have h0 : ¬ x < 0 := by
      rw [Int32.lt_iff_toInt_lt]
      rw [Int32.le_iff_toInt_le, nI_toInt (by omega)] at h
      show ¬ x.toInt < 0
      omega
    refine ⟨?_, ?_⟩
    · unfold fX6_isHouse; rw [if_neg h0, if_pos h]
    · have h2 : nI n - 1 < x := by
        rw [Int32.lt_iff_toInt_lt, sub1_toInt (by omega)]
        rw [Int32.le_iff_toInt_le, nI_toInt (by omega)] at h
        omega
      unfold fX7_isHouse; rw [in_f2 h2]; rfl
  · left
    refine ⟨j, hj, rfl, ?_, ?_⟩
    · unfold fX6_isHouse; rw [if_neg (nI_pos (by omega)), if_neg (nI_ge hj (by omega))]
    · have h2 : ¬ nI n - 1 < nI j := by
        rw [Int32.lt_iff_toInt_lt, sub1_toInt (by omega), nI_toInt (by omega)]
        omega
      unfold fX7_isHouse; rw [in_t (nI_pos (by omega)) h2]; rfl
theorem sort_cases (x : Int32) : (∃ k, k < 4 ∧ x = nI k ∧ fX6_isSort x = some 1 ∧ fX7_isSort x = some 1) ∨ (fX6_isSort x = some 0 ∧ fX7_isSort x = some 0) := by
  rcases pk_ix x (n := 4) (by omega) with h | h | ⟨j, hj, rfl⟩
  · right
    refine ⟨?_, ?_⟩
    · unfold fX6_isSort; rw [if_pos h]
    · unfold fX7_isSort; rw [in_f1 h]; rfl
  · right
    have e4 : (nI 4).toInt = 4 := rfl
    have e3 : (3 : Int32).toInt = 3 := rfl
    have h0 : ¬ x < 0 := by
      rw [Int32.lt_iff_toInt_lt]
      rw [Int32.le_iff_toInt_le] at h
      show ¬ x.toInt < 0
      omega
    refine ⟨?_, ?_⟩
    · unfold fX6_isSort; rw [if_neg h0]; exact if_pos h
    · have h2 : (3 : Int32) < x := by
        rw [Int32.lt_iff_toInt_lt]
        rw [Int32.le_iff_toInt_le] at h
        omega
      unfold fX7_isSort; rw [in_f2 h2]; rfl
  · left
    refine ⟨j, hj, rfl, ?_, ?_⟩
    · unfold fX6_isSort; rw [if_neg (nI_pos (by omega))]; exact if_neg (nI_ge hj (by omega))
    · have h2 : ¬ (3 : Int32) < nI j := nI_nlt (a := 3) (b := j) (by omega) (by omega)
      unfold fX7_isSort; rw [in_t (nI_pos (by omega)) h2]; rfl
theorem half_cases (x : Int32) : ((x = 0 ∨ x = 1) ∧ fX6_isHalf x = some 1 ∧ fX7_in x 0 1 = some 1) ∨ (¬ x = 0 ∧ ¬ x = 1 ∧ fX6_isHalf x = some 0 ∧ fX7_in x 0 1 = some 0) := by
  by_cases h0 : x = 0
  · left; subst h0; exact ⟨Or.inl rfl, rfl, by decide⟩
  · by_cases h1 : x = 1
    · left; subst h1; exact ⟨Or.inr rfl, rfl, by decide⟩
    · right
      refine ⟨h0, h1, ?_, ?_⟩
      · unfold fX6_isHalf; rw [if_neg h0, if_neg h1]
      · have e0 : x.toInt ≠ 0 := fun h => h0 (Int32.toInt_inj.mp h)
        have e1 : x.toInt ≠ 1 := fun h => h1 (Int32.toInt_inj.mp h)
        by_cases hl : x < 0
        · exact in_f1 hl
        · refine in_f2 ?_
          rw [Int32.lt_iff_toInt_lt] at hl ⊢
          show (1 : Int) < x.toInt
          have : ¬ x.toInt < 0 := hl
          omega
theorem cl66 : (66 : Int32).toNatClampNeg = 66 := rfl
theorem cl58 : (58 : Int32).toNatClampNeg = 58 := rfl
theorem cl65 : (65 : Int32).toNatClampNeg = 65 := rfl
theorem of_eq {w : Nat → Int32} {h s : Nat} (hh : h < 6) (hs : s < 4) : fX4_of w (nI h) (nI s) = some (w (4 * h + s)) := by
  unfold fX4_of
  rw [nI4, gd_t (okx_nI (by omega) (by omega)), nI_clamp (by omega)]
theorem spoonsOf_eq {w : Nat → Int32} {h s : Nat} (hh : h < 6) (hs : s < 4) : fX1_spoonsOf w (nI h) (nI s) = some (w (4 * h + s)) := by
  unfold fX1_spoonsOf
  rw [nI4, gd_t (okx_nI (by omega) (by omega)), nI_clamp (by omega)]
