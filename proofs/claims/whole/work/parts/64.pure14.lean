/-! the heaviest sort -/
def hvP (f : Nat → Int32) : Nat → Int32 × Int32
  | 0 => (-9, 0)
  | i + 1 => if f i ≤ (hvP f i).2 then hvP f i else (nI i, f i)
theorem hvP_cg {f g : Nat → Int32} : ∀ {n : Nat}, (∀ i, i < n → f i = g i) → hvP f n = hvP g n
  | 0, _ => rfl
  | n + 1, h => by
    have e := hvP_cg (f := f) (g := g) (n := n) (fun i hi => h i (by omega))
    simp only [hvP, e, h n (by omega)]
theorem hv_0 {f : Nat → Int32} : ∀ {n : Nat}, (∀ i, i < n → f i = 0) → hvP f n = (-9, 0)
  | 0, _ => rfl
  | n + 1, h => by
    have e := hv_0 (f := f) (n := n) (fun i hi => h i (by omega))
    simp only [hvP, e, h n (by omega), if_pos (show (0 : Int32) ≤ 0 by decide)]
theorem hv_enc (f : Nat → Int32) : ∀ n, ∃ o : Option Nat, (hvP f n).1 = encO o ∧ ∀ k, o = some k → k < n
  | 0 => ⟨none, rfl, fun k h => by cases h⟩
  | n + 1 => by
    obtain ⟨o, h1, h2⟩ := hv_enc f n
    unfold hvP
    split
    · exact ⟨o, h1, fun k h => by have := h2 k h; omega⟩
    · exact ⟨some n, rfl, fun k h => by cases h; omega⟩
theorem heaviest_eq {w : Nat → Int32} {h : Nat} (hh : h < 6) : fX4_heaviest w (nI h) = some (hvP (fun s => w (4 * h + s)) 4).1 := by
  unfold fX4_heaviest
  refine it3_go 4 (fun i => (hvP (fun s => w (4 * h + s)) i).1) (fun i => (hvP (fun s => w (4 * h + s)) i).2) (fun i => nI i) _ rfl rfl rfl (fun i hi self => ?_) (fun self => ?_) 100000 (by decide)
  · simp only [X4_heaviest_S8, X4_heaviest_J36, if_neg (show ¬ (4 : Int32) ≤ nI i from nI_ge (a := i) (b := 4) hi (by omega)), of_eq hh hi, some_bind9, lets_def, Lp1, hvP]
    split <;> rfl
  · simp only [X4_heaviest_S8, if_pos (show (4 : Int32) ≤ nI 4 by decide)]
theorem greatNow_eq {S Y : Nat → Int32} {h : Nat} (hh : h < 6) : fX7_greatest S Y (nI (4 * h)) 1 = some (hvP (fun s => S (4 * h + s)) 4).1 := by
  unfold fX7_greatest
  refine it3_go 4 (fun i => (hvP (fun s => S (4 * h + s)) i).1) (fun i => (hvP (fun s => S (4 * h + s)) i).2) (fun i => nI i) _ rfl rfl rfl (fun i hi self => ?_) (fun self => ?_) 100000 (by decide)
  · have ok : okx (nI (4 * h + i)) 67 := okx_nI (by omega) (by omega)
    simp only [X7_greatest_S9, X7_greatest_J40, X7_greatest_J56, if_neg (show ¬ (4 : Int32) ≤ nI i from nI_ge (a := i) (b := 4) hi (by omega)), if_neg one_ne, nI_add, gd_t ok, nI_clamp (show 4 * h + i < 2 ^ 31 by omega), lets_def, Lp1, hvP]
    split <;> rfl
  · simp only [X7_greatest_S9, if_pos (show (4 : Int32) ≤ nI 4 by decide)]
theorem greatYear_eq {S Y : Nat → Int32} {a : Nat} (ha : a + 3 < 4824) : fX7_greatest S Y (nI a) 0 = some (hvP (fun s => Y (a + s)) 4).1 := by
  unfold fX7_greatest
  refine it3_go 4 (fun i => (hvP (fun s => Y (a + s)) i).1) (fun i => (hvP (fun s => Y (a + s)) i).2) (fun i => nI i) _ rfl rfl rfl (fun i hi self => ?_) (fun self => ?_) 100000 (by decide)
  · have ok : okx (nI (a + i)) 4824 := okx_nI (by omega) (by omega)
    simp only [X7_greatest_S9, X7_greatest_J40, X7_greatest_J56, if_neg (show ¬ (4 : Int32) ≤ nI i from nI_ge (a := i) (b := 4) hi (by omega)), if_pos, nI_add, gd_t ok, nI_clamp (show a + i < 2 ^ 31 by omega), lets_def, Lp1, hvP]
    split <;> rfl
  · simp only [X7_greatest_S9, if_pos (show (4 : Int32) ≤ nI 4 by decide)]
theorem encO_inj {a b : Option Nat} (ha : ∀ k, a = some k → k < 4) (hb : ∀ k, b = some k → k < 4) : encO a = encO b ↔ a = b := by
  refine ⟨fun h => ?_, fun h => by rw [h]⟩
  cases a with
  | none =>
    cases b with
    | none => rfl
    | some j => exact absurd h (m9_ne j (by have := hb j rfl; omega))
  | some i =>
    cases b with
    | none => exact absurd h.symm (m9_ne i (by have := ha i rfl; omega))
    | some j => rw [(nI_eq (by have := ha i rfl; omega) (by have := hb j rfl; omega)).mp h]
theorem encO_9 {a : Option Nat} (ha : ∀ k, a = some k → k < 4) : encO a = -9 ↔ a = none := encO_inj (b := none) ha (fun k h => by cases h)
/-! bits of sets of houses -/
theorem bit6 : ∀ x, x < 64 → ∀ h, h < 6 → ((nI x >>> (nI h &&& 31)) &&& (1 : Int32)) = if x.testBit h then 1 else 0 := by decide +kernel
theorem setb6 : ∀ x, x < 64 → ∀ h, h < 6 → (nI x ||| ((1 : Int32) <<< (nI h &&& 31))) = nI (x ||| 2 ^ h) ∧ x ||| 2 ^ h < 64 := by decide +kernel
theorem clrb6 : ∀ x, x < 64 → ∀ h, h < 6 → (nI x &&& (((1 : Int32) <<< (nI h &&& 31)) ^^^ (-1 : Int32))) = nI (x &&& (63 - 2 ^ h)) ∧ x &&& (63 - 2 ^ h) < 64 := by decide +kernel
theorem setb_b : ∀ x, x < 64 → ∀ h, h < 6 → ∀ i, i < 6 → (x ||| 2 ^ h).testBit i = (x.testBit i || decide (i = h)) ∧ (x &&& (63 - 2 ^ h)).testBit i = (x.testBit i && !decide (i = h)) := by decide +kernel
theorem hi6 : ∀ n, n ≤ 6 → ∀ x, x < 64 → 2 ^ n ≤ x → ∃ h, h < 6 ∧ n ≤ h ∧ x.testBit h = true := by decide +kernel
theorem pow6 : ∀ n, n ≤ 6 → ((1 : Int32) <<< (nI n &&& 31)) = nI (2 ^ n) ∧ 2 ^ n ≤ 64 := by decide +kernel
theorem bit_is {x h : Nat} (hx : x < 64) (hh : h < 6) : (((nI x >>> (nI h &&& 31)) &&& (1 : Int32)) = 1) ↔ x.testBit h = true := by
  rw [bit6 x hx h hh]
  cases x.testBit h <;> decide
theorem bit_is0 {x h : Nat} (hx : x < 64) (hh : h < 6) : (((nI x >>> (nI h &&& 31)) &&& (1 : Int32)) = 0) ↔ x.testBit h = false := by
  rw [bit6 x hx h hh]
  cases x.testBit h <;> decide
/-- somebody of the set brings a sort -/
def anyN (p : Nat → Bool) : Nat → Bool
  | 0 => false
  | n + 1 => anyN p n || p n
theorem anyN_iff {p : Nat → Bool} : ∀ {n : Nat}, anyN p n = true ↔ ∃ i, i < n ∧ p i = true
  | 0 => by simp [anyN]
  | n + 1 => by
    rw [anyN, Bool.or_eq_true, anyN_iff]
    constructor
    · rintro (⟨i, hi, h⟩ | h)
      · exact ⟨i, by omega, h⟩
      · exact ⟨n, by omega, h⟩
    · rintro ⟨i, hi, h⟩
      rcases Nat.lt_or_ge i n with q | q
      · exact Or.inl ⟨i, q, h⟩
      · rw [show i = n by omega] at h; exact Or.inr h
def hasS (fv : Nat → Option Nat) (x s : Nat) (n : Nat) : Bool := anyN (fun h => x.testBit h && decide (fv h = some s)) n
def cntS (fv : Nat → Option Nat) (x n : Nat) : Nat := fb_sm (fun s => if hasS fv x s n then 1 else 0) 4
theorem one_shl : ∀ k, k < 4 → ∀ s, s < 4 → bt ((1 : Int32) <<< (nI k &&& 31)) s = decide (k = s) := by decide +kernel
theorem one_shl9 : ∀ s, s < 4 → bt ((1 : Int32) <<< ((-9 : Int32) &&& 31)) s = false := by decide +kernel
theorem b_one : ∀ i, i < 32 → bt 1 i = decide (i = 0) := by decide +kernel
theorem bit_bt (m : Int32) {s : Nat} (hs : s < 4) : ((m >>> (nI s &&& 31)) &&& (1 : Int32)) = if bt m s then 1 else 0 := by
  refine b_ext (fun i hi => ?_)
  rw [b_and, b_sshr s (by omega) m hi, b_one i hi]
  by_cases q : i = 0
  · subst q
    rw [if_pos (by omega), Nat.add_zero]
    cases bt m s <;> decide
  · rw [decide_eq_false q, Bool.and_false]
    cases bt m s
    · exact (b_0 i).symm
    · exact ((b_one i hi).trans (decide_eq_false q)).symm
def orM (fv : Nat → Option Nat) (x : Nat) : Nat → Int32 := orI (fun h => if x.testBit h then (1 : Int32) <<< (encO (fv h) &&& 31) else 0)
theorem orM_bt {fv : Nat → Option Nat} (hf : ∀ h k, fv h = some k → k < 4) {x s : Nat} (hs : s < 4) : ∀ n, bt (orM fv x n) s = hasS fv x s n
  | 0 => b_0 s
  | n + 1 => by
    have e := orM_bt hf (x := x) hs n
    unfold orM hasS at e ⊢
    rw [orI, b_or, e, anyN]
    congr 1
    cases x.testBit n
    · simp [b_0]
    · rw [if_pos rfl, Bool.true_and]
      cases ho : fv n with
      | none => rw [show encO none = -9 from rfl, one_shl9 s hs]; simp
      | some k => rw [show encO (some k) = nI k from rfl, one_shl k (hf n k ho) s hs]; simp
theorem sortsBy_eq {n : Nat} (hn : n ≤ 6) {S Y : Nat → Int32} {fv : Nat → Option Nat} (hf : ∀ h k, fv h = some k → k < 4) (hF : ∀ h, h < n → (hvP (fun s => S (4 * h + s)) 4).1 = encO (fv h)) {x : Nat} (hx : x < 64) : fX7_sortsBy (nI n) S Y (nI x) = some (nI (cntS fv x n)) := by
  unfold fX7_sortsBy
  refine it2_go n (fun i => orM fv x i) (fun i => nI i) _ rfl rfl (fun i hi self => ?_) (fun self => ?_) 100000 (by omega)
  · simp only [X7_sortsBy_S4, X7_sortsBy_J36, if_neg (nI_ge (a := i) (b := n) hi (by omega)), L4m, greatNow_eq (show i < 6 by omega), some_bind9, lets_def, Lp1, hF i hi]
    unfold orM
    rw [orI]
    cases hb : x.testBit i
    · rw [if_neg (fun e => by rw [bit_is hx (by omega), hb] at e; exact absurd e (by decide))]
      simp
    · rw [if_pos ((bit_is hx (by omega)).mpr hb)]
      simp
  · simp only [X7_sortsBy_S4, X7_sortsBy_J44, if_pos (nI_le (Nat.le_refl n) (show n < 2 ^ 31 by omega))]
    refine it2_go 4 (fun i => nI (fb_sm (fun s => if hasS fv x s n then 1 else 0) i)) (fun i => nI i) _ rfl rfl (fun i hi self2 => ?_) (fun self2 => ?_) 100000 (by decide)
    · simp only [X7_sortsBy_S49, if_neg (show ¬ (4 : Int32) ≤ nI i from nI_ge (a := i) (b := 4) hi (by omega)), bit_bt _ hi, orM_bt hf hi, lets_def, Lp1, fb_sm]
      congr 1
      cases hasS fv x i n
      · simp
      · simp only [if_pos]; exact Lp1 _
    · simp only [X7_sortsBy_S49, if_pos (show (4 : Int32) ≤ nI 4 by decide)]
      rfl
/-- another of the set brings what a house would -/
def thereW (fv : Nat → Option Nat) (x h n : Nat) : Bool := anyN (fun i => !decide (i = h) && (x.testBit i && decide (fv i = fv h))) n
theorem cnt_with {fv : Nat → Option Nat} {n : Nat} (hn : n ≤ 6) {x h k : Nat} (hx : x < 64) (hh : h < n) (hk : k < 4) (hv : fv h = some k) : cntS fv (x ||| 2 ^ h) n = cntS fv (x &&& (63 - 2 ^ h)) n + (if thereW fv x h n then 0 else 1) := by
  have h1 : ∀ s, hasS fv (x ||| 2 ^ h) s n = (hasS fv (x &&& (63 - 2 ^ h)) s n || decide (s = k)) := fun s => by
    unfold hasS
    rw [Bool.eq_iff_iff, Bool.or_eq_true, anyN_iff, anyN_iff]
    constructor
    · rintro ⟨i, hi, g⟩
      rw [(setb_b x hx h (by omega) i (by omega)).1] at g
      by_cases q : i = h
      · right
        rw [q, hv] at g
        simp at g
        simp [g]
      · left
        refine ⟨i, hi, ?_⟩
        rw [(setb_b x hx h (by omega) i (by omega)).2]
        simp [q] at g ⊢
        exact g
    · rintro (⟨i, hi, g⟩ | g)
      · refine ⟨i, hi, ?_⟩
        rw [(setb_b x hx h (by omega) i (by omega)).2] at g
        rw [(setb_b x hx h (by omega) i (by omega)).1]
        simp at g ⊢
        exact ⟨Or.inl g.1.1, g.2⟩
      · refine ⟨h, hh, ?_⟩
        rw [(setb_b x hx h (by omega) h (by omega)).1, hv]
        simp at g ⊢
        exact g.symm
  have h2 : hasS fv (x &&& (63 - 2 ^ h)) k n = thereW fv x h n := by
    unfold hasS thereW
    rw [Bool.eq_iff_iff, anyN_iff, anyN_iff]
    constructor
    · rintro ⟨i, hi, g⟩
      refine ⟨i, hi, ?_⟩
      rw [(setb_b x hx h (by omega) i (by omega)).2] at g
      rw [hv]
      simp at g ⊢
      exact ⟨g.1.2, g.1.1, g.2⟩
    · rintro ⟨i, hi, g⟩
      refine ⟨i, hi, ?_⟩
      rw [(setb_b x hx h (by omega) i (by omega)).2]
      rw [hv] at g
      simp at g ⊢
      exact ⟨⟨g.2.1, g.1⟩, g.2.2⟩
  rw [← h2]
  unfold cntS
  simp only [h1, sm4]
  rcases (show k = 0 ∨ k = 1 ∨ k = 2 ∨ k = 3 by omega) with rfl | rfl | rfl | rfl <;> cases hasS fv (x &&& (63 - 2 ^ h)) 0 n <;> cases hasS fv (x &&& (63 - 2 ^ h)) 1 n <;> cases hasS fv (x &&& (63 - 2 ^ h)) 2 n <;> cases hasS fv (x &&& (63 - 2 ^ h)) 3 n <;> rfl
theorem cntS_le {fv : Nat → Option Nat} {x n : Nat} : cntS fv x n ≤ 4 := by
  have := fb_sm_bound (f := fun s => if hasS fv x s n then 1 else 0) (c := 1) (n := 4) (fun k _ => by split <;> omega)
  exact this
/-- a house has no regret -/
def restB (fv : Nat → Option Nat) (c w x n h : Nat) : Bool := if x.testBit h then decide (c ≤ (if fv h = none ∨ thereW fv x h n = true then 0 else w)) else decide ((if fv h = none ∨ thereW fv x h n = true then 0 else w) ≤ c)
theorem areAtRest_eq {n : Nat} (hn : n ≤ 6) {S Y : Nat → Int32} {fv : Nat → Option Nat} (hf : ∀ h k, fv h = some k → k < 4) (hF : ∀ h, h < n → (hvP (fun s => S (4 * h + s)) 4).1 = encO (fv h)) {x c w : Nat} (hx : x < 64) (hc1 : 1 ≤ c) (hc : c ≤ 99) (hw : w ≤ 99) : fX7_areAtRest (nI n) S Y (nI x) (nI c) (nI w) = some (if allN (restB fv c w x n) n = true then 1 else 0) := by
  unfold fX7_areAtRest
  refine it2_go n (fun i => if allN (restB fv c w x n) i = true then (1 : Int32) else 0) (fun i => nI i) _ rfl rfl (fun h hh self => ?_) (fun self => ?_) 100000 (by omega)
  · have h6 : h < 6 := by omega
    have st : (if allN (restB fv c w x n) (h + 1) = true then (1 : Int32) else 0) = (if allN (restB fv c w x n) h = true then (if restB fv c w x n h = true then (1 : Int32) else 0) else 0) := by
      have e1 : allN (restB fv c w x n) (h + 1) = (allN (restB fv c w x n) h && restB fv c w x n h) := rfl
      rw [e1]
      cases allN (restB fv c w x n) h <;> cases restB fv c w x n h <;> rfl
    have acc : ∀ b : Bool, ∀ T E : Option Int32, (if (if b = true then (1 : Int32) else 0) = 0 then T else E) = if b = true then E else T := fun b T E => by cases b <;> rfl
    show X7_areAtRest_S6 _ _ _ _ _ _ _ _ _ = self (if allN (restB fv c w x n) (h + 1) = true then (1 : Int32) else 0) (nI (h + 1))
    rw [st]
    simp only [X7_areAtRest_S6, X7_areAtRest_J34, X7_areAtRest_J51, X7_areAtRest_J72, X7_areAtRest_J73, X7_areAtRest_J137, X7_areAtRest_J141, X7_areAtRest_J142, X7_areAtRest_J144, if_neg (nI_ge (a := h) (b := n) hh (by omega)), L4m, greatNow_eq h6, some_bind9, hF h hh, lets_def, Lp1]
    cases hv : fv h with
    | none =>
      rw [if_pos (show encO none = -9 from rfl)]
      cases hb : x.testBit h
      · have hr : restB fv c w x n h = true := by simp [restB, hb, hv]
        have nb : ¬ ((nI x >>> (nI h &&& 31)) &&& (1 : Int32)) = 1 := fun e => by rw [bit_is hx h6, hb] at e; exact absurd e (by decide)
        simp only [if_neg nb, if_true, acc, hr]
        cases allN (restB fv c w x n) h <;> rfl
      · have hr : restB fv c w x n h = false := by simp [restB, hb, hv]; omega
        have pb : ((nI x >>> (nI h &&& 31)) &&& (1 : Int32)) = 1 := (bit_is hx h6).mpr hb
        simp only [if_pos pb, if_true, if_neg one_ne, acc, hr]
        cases allN (restB fv c w x n) h <;> rfl
    | some k =>
      have hk := hf h k hv
      have n9 : ¬ encO (some k) = -9 := fun e => m9_ne k (by omega) e.symm
      rw [if_neg n9]
      obtain ⟨s1, s2⟩ := setb6 x hx h h6
      obtain ⟨s3, s4⟩ := clrb6 x hx h h6
      have ecn := cnt_with (fv := fv) hn hx hh hk hv
      have l1 := cntS_le (fv := fv) (x := x ||| 2 ^ h) (n := n)
      have l2 := cntS_le (fv := fv) (x := x &&& (63 - 2 ^ h)) (n := n)
      have m1 : w * cntS fv (x ||| 2 ^ h) n ≤ 99 * 4 := Nat.mul_le_mul hw l1
      have m2 : w * cntS fv (x &&& (63 - 2 ^ h)) n ≤ 99 * 4 := Nat.mul_le_mul hw l2
      have m3 : w * cntS fv (x ||| 2 ^ h) n = w * cntS fv (x &&& (63 - 2 ^ h)) n + (if thereW fv x h n = true then 0 else w) := by
        rw [ecn, Nat.mul_add]
        cases thereW fv x h n <;> simp
      have i1 : (nI (w * cntS fv (x ||| 2 ^ h) n) - nI c).toInt = ((w * cntS fv (x ||| 2 ^ h) n : Nat) : Int) - c := pk_sub_toInt (by omega) (by omega)
      have i2 : (nI (w * cntS fv (x &&& (63 - 2 ^ h)) n)).toInt = ((w * cntS fv (x &&& (63 - 2 ^ h)) n : Nat) : Int) := nI_toInt (by omega)
      simp only [s1, s3, sortsBy_eq hn hf hF s2, sortsBy_eq hn hf hF s4, some_bind9, pk_mul, if_neg one_ne]
      cases hb : x.testBit h
      · have nb : ¬ ((nI x >>> (nI h &&& 31)) &&& (1 : Int32)) = 1 := fun e => by rw [bit_is hx h6, hb] at e; exact absurd e (by decide)
        simp only [if_neg nb, if_true, acc]
        have hr : restB fv c w x n h = decide ((if thereW fv x h n = true then 0 else w) ≤ c) := by
          simp [restB, hb, hv]
        by_cases hl : nI (w * cntS fv (x &&& (63 - 2 ^ h)) n) < nI (w * cntS fv (x ||| 2 ^ h) n) - nI c
        · rw [if_pos hl]
          rw [Int32.lt_iff_toInt_lt, i1, i2] at hl
          have : restB fv c w x n h = false := by rw [hr, decide_eq_false_iff_not]; omega
          rw [this]
          cases allN (restB fv c w x n) h <;> rfl
        · rw [if_neg hl]
          rw [Int32.lt_iff_toInt_lt, i1, i2] at hl
          have : restB fv c w x n h = true := by rw [hr, decide_eq_true_eq]; omega
          rw [this]
          cases allN (restB fv c w x n) h <;> rfl
      · have pb : ((nI x >>> (nI h &&& 31)) &&& (1 : Int32)) = 1 := (bit_is hx h6).mpr hb
        simp only [if_pos pb, acc]
        have hr : restB fv c w x n h = decide (c ≤ (if thereW fv x h n = true then 0 else w)) := by
          simp [restB, hb, hv]
        by_cases hl : nI (w * cntS fv (x ||| 2 ^ h) n) - nI c < nI (w * cntS fv (x &&& (63 - 2 ^ h)) n)
        · rw [if_pos hl]
          rw [Int32.lt_iff_toInt_lt, i1, i2] at hl
          have : restB fv c w x n h = false := by rw [hr, decide_eq_false_iff_not]; omega
          rw [this]
          cases allN (restB fv c w x n) h <;> rfl
        · rw [if_neg hl]
          rw [Int32.lt_iff_toInt_lt, i1, i2] at hl
          have : restB fv c w x n h = true := by rw [hr, decide_eq_true_eq]; omega
          rw [this]
          cases allN (restB fv c w x n) h <;> rfl
  · have hB : isB (if allN (restB fv c w x n) n = true then (1 : Int32) else 0) := by
      cases allN (restB fv c w x n) n
      · exact Or.inl rfl
      · exact Or.inr rfl
    simp only [X7_areAtRest_S6, if_pos (nI_le (Nat.le_refl n) (show n < 2 ^ 31 by omega)), gd_t hB]
def canB (fv : Nat → Option Nat) (x h : Nat) : Bool := !x.testBit h || decide (fv h ≠ none)
theorem canAll_eq {n : Nat} (hn : n ≤ 6) {S Y : Nat → Int32} {fv : Nat → Option Nat} (hf : ∀ h k, fv h = some k → k < 4) (hF : ∀ h, h < n → (hvP (fun s => S (4 * h + s)) 4).1 = encO (fv h)) {x : Nat} (hx : x < 64) : fX7_canAll (nI n) S Y (nI x) = some (if allN (canB fv x) n = true then 1 else 0) := by
  unfold fX7_canAll
  refine it2_go n (fun i => if allN (canB fv x) i = true then (1 : Int32) else 0) (fun i => nI i) _ rfl rfl (fun h hh self => ?_) (fun self => ?_) 100000 (by omega)
  · have h6 : h < 6 := by omega
    have st : (if allN (canB fv x) (h + 1) = true then (1 : Int32) else 0) = (if allN (canB fv x) h = true then (if canB fv x h = true then (1 : Int32) else 0) else 0) := by
      have e1 : allN (canB fv x) (h + 1) = (allN (canB fv x) h && canB fv x h) := rfl
      rw [e1]
      cases allN (canB fv x) h <;> cases canB fv x h <;> rfl
    have acc : ∀ b : Bool, ∀ T E : Option Int32, (if (if b = true then (1 : Int32) else 0) = 0 then T else E) = if b = true then E else T := fun b T E => by cases b <;> rfl
    show X7_canAll_S4 _ _ _ _ _ _ _ = self (if allN (canB fv x) (h + 1) = true then (1 : Int32) else 0) (nI (h + 1))
    rw [st]
    simp only [X7_canAll_S4, X7_canAll_J37, X7_canAll_J41, X7_canAll_J42, if_neg (nI_ge (a := h) (b := n) hh (by omega)), L4m, greatNow_eq h6, some_bind9, hF h hh, lets_def, Lp1]
    rw [acc]
    cases hb : x.testBit h
    · have hr : canB fv x h = true := by simp [canB, hb]
      have pb : ((nI x >>> (nI h &&& 31)) &&& (1 : Int32)) = 0 := (bit_is0 hx h6).mpr hb
      simp only [if_pos pb, hr]
      cases allN (canB fv x) h <;> rfl
    · have nb : ¬ ((nI x >>> (nI h &&& 31)) &&& (1 : Int32)) = 0 := fun e => by rw [bit_is0 hx h6, hb] at e; exact absurd e (by decide)
      simp only [if_neg nb]
      cases hv : fv h with
      | none =>
        have hr : canB fv x h = false := by simp [canB, hb, hv]
        simp only [if_pos (show encO none = -9 from rfl), hr]
        cases allN (canB fv x) h <;> rfl
      | some k =>
        have hr : canB fv x h = true := by simp [canB, hb, hv]
        have n9 : ¬ encO (some k) = -9 := fun e => m9_ne k (by have := hf h k hv; omega) e.symm
        simp only [if_neg n9, hr]
        cases allN (canB fv x) h <;> rfl
  · have hB : isB (if allN (canB fv x) n = true then (1 : Int32) else 0) := by
      cases allN (canB fv x) n
      · exact Or.inl rfl
      · exact Or.inr rfl
    simp only [X7_canAll_S4, if_pos (nI_le (Nat.le_refl n) (show n < 2 ^ 31 by omega)), gd_t hB]
theorem isThere_eq {Fv : Nat → Int32} {fv : Nat → Option Nat} (hf : ∀ h k, fv h = some k → k < 4) (hF : ∀ h, h < 6 → Fv h = encO (fv h)) {x h : Nat} (hx : x < 64) (hh : h < 6) : fX6_isThereWithout Fv (nI h) (nI x) = some (if thereW fv x h 6 = true then 1 else 0) := by
  have e := it1_all (f := X6_isThereWithout_S2 Fv (nI h) (nI x)) 6 (fun i => !(!decide (i = h) && (x.testBit i && decide (fv i = fv h)))) (some 0) (some 1) (fun i hi self => ?_) (fun self => ?_) 100000 (by decide)
  · unfold fX6_isThereWithout
    refine e.trans ?_
    have hn : ∀ m, allN (fun i => !(!decide (i = h) && (x.testBit i && decide (fv i = fv h)))) m = !thereW fv x h m := by
      intro m
      induction m with
      | zero => rfl
      | succ m ih => unfold thereW at ih ⊢; rw [allN, ih, anyN, Bool.not_or]
    rw [hn]
    cases thereW fv x h 6 <;> rfl
  · have ok : okx (nI i) 6 := okx_nI hi (by omega)
    have ok2 : okx (nI h) 6 := okx_nI hh (by omega)
    simp only [X6_isThereWithout_S2, X6_isThereWithout_J39, if_neg (show ¬ (6 : Int32) ≤ nI i from nI_ge (a := i) (b := 6) hi (by omega)), gd_t ok, gd_t ok2, nI_clamp (show i < 2 ^ 31 by omega), nI_clamp (show h < 2 ^ 31 by omega), hF i hi, hF h hh, lets_def, Lp1, nI_eq (show i < 2 ^ 31 by omega) (show h < 2 ^ 31 by omega), encO_inj (fun k => hf i k) (fun k => hf h k), bit_is hx hi]
    by_cases q : i = h
    · simp [q]
    · by_cases g : x.testBit i = true
      · by_cases g2 : fv i = fv h
        · simp [q, g, g2]
        · simp [q, g, g2]
      · simp only [Bool.not_eq_true] at g
        simp [q, g]
  · simp only [X6_isThereWithout_S2, if_pos (show (6 : Int32) ≤ nI 6 by decide)]
theorem isRest_eq {Fv : Nat → Int32} {fv : Nat → Option Nat} (hf : ∀ h k, fv h = some k → k < 4) (hF : ∀ h, h < 6 → Fv h = encO (fv h)) {x c w : Nat} (hx : x < 64) (hc : c ≤ 99) (hw : w ≤ 99) : fX6_isRest Fv (nI x) (nI c) (nI w) = some (if allN (restB fv c w x 6) 6 = true then 1 else 0) := by
  have e := it1_all (f := X6_isRest_S3 Fv (nI x) (nI c) (nI w)) 6 (restB fv c w x 6) (some 1) (some 0) (fun i hi self => ?_) (fun self => ?_) 100000 (by decide)
  · unfold fX6_isRest
    refine e.trans ?_
    split <;> rfl
  · have ok : okx (nI i) 6 := okx_nI hi (by omega)
    have tb : ∀ b : Bool, ∀ A B : Option Int32, (if (if b = true then (1 : Int32) else 0) = 0 then A else B) = if b = true then B else A := fun b A B => by cases b <;> rfl
    have zc : nI 0 ≤ nI c := nI_le (by omega) (by omega)
    simp only [X6_isRest_S3, X6_isRest_J25, X6_isRest_J49, X6_isRest_J54, X6_isRest_J86, if_neg (show ¬ (6 : Int32) ≤ nI i from nI_ge (a := i) (b := 6) hi (by omega)), gd_t ok, nI_clamp (show i < 2 ^ 31 by omega), hF i hi, isThere_eq hf hF hx hi, some_bind9, lets_def, Lp1, encO_9 (fun k => hf i k), bit_is hx hi, if_neg one_ne, if_pos, tb]
    have l0 : (nI c ≤ 0) ↔ c = 0 := by
      have := nI_leI (a := c) (b := 0) (by omega) (by omega)
      rw [nI_0] at this; rw [this]; omega
    have l1 : ((0 : Int32) ≤ nI c) := nI_pos' (by omega)
    have l2 : (nI w ≤ nI c) ↔ w ≤ c := nI_leI (by omega) (by omega)
    have l3 : (nI c ≤ nI w) ↔ c ≤ w := nI_leI (by omega) (by omega)
    simp only [l0, l2, l3, if_pos l1]
    unfold restB
    by_cases g : x.testBit i = true
    · by_cases g2 : fv i = none
      · by_cases z : c = 0
        · simp [g, g2, z]
        · simp [g, g2, z]
      · by_cases g3 : thereW fv x i 6 = true
        · by_cases z : c = 0
          · simp [g, g2, g3, z]
          · simp [g, g2, g3, z]
        · by_cases z : c ≤ w
          · simp [g, g2, g3, z]
          · simp [g, g2, g3, z]
    · by_cases g2 : fv i = none
      · simp [g, g2]
      · by_cases g3 : thereW fv x i 6 = true
        · simp [g, g2, g3]
        · by_cases z : w ≤ c
          · simp [g, g2, g3, z]
          · simp [g, g2, g3, z]
  · simp only [X6_isRest_S3, if_pos (show (6 : Int32) ≤ nI 6 by decide)]
