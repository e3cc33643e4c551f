/-! Euclid -/
theorem gcd_next (a b : Nat) : Nat.gcd a b = Nat.gcd b (a % b) := by
  rw [Nat.gcd_comm, Nat.gcd_rec, Nat.gcd_comm]
theorem half_rem {b r k : Nat} (hr : r < b) (h0 : 0 < r) (hb : b < 2 ^ (k + 1)) : b % r < 2 ^ k := by
  have h1 : b % r < r := Nat.mod_lt b h0
  have h2 : b % r + r * (b / r) = b := Nat.mod_add_div b r
  have h3 : 1 ≤ b / r := (Nat.le_div_iff_mul_le h0).mpr (by omega)
  have h4 : r * 1 ≤ r * (b / r) := Nat.mul_le_mul_left r h3
  rw [Nat.pow_succ] at hb
  omega
theorem lN0 : (0 : Int64) = lN 0 := rfl
theorem lN_eq0 {b : Nat} (hb : b < 2 ^ 63) : (lN b = 0) ↔ b = 0 := by rw [lN0]; exact fb_lN_inj hb (by omega)
theorem gcdM_eq : ∀ (k a b f : Nat), k ≤ 40 → a < 2 ^ 63 → b < 2 ^ k → 2 * k + 1 ≤ f → it2 (X7_gcd_S6) f (lN a) (lN b) = some (lN (Nat.gcd a b))
  | 0, a, b, f, hk, ha, hb, hf => by
    obtain ⟨f, rfl⟩ : ∃ m, f = m + 1 := ⟨f - 1, by omega⟩
    have e : b = 0 := by omega
    subst e
    show X7_gcd_S6 (it2 (X7_gcd_S6) f) (lN a) (lN 0) = _
    simp only [X7_gcd_S6, lg_cmp_eq, if_pos (show lN 0 = 0 from rfl), Nat.gcd_zero_right]
  | k + 1, a, b, f, hk, ha, hb, hf => by
    obtain ⟨f, rfl⟩ : ∃ m, f = m + 2 := ⟨f - 2, by omega⟩
    have h40 : 2 ^ (k + 1) ≤ 2 ^ 40 := Nat.pow_le_pow_right (by omega) hk
    have b63 : b < 2 ^ 63 := by omega
    show X7_gcd_S6 (it2 (X7_gcd_S6) (f + 1)) (lN a) (lN b) = _
    rcases Nat.eq_zero_or_pos b with z | hp
    · subst z
      simp only [X7_gcd_S6, lg_cmp_eq, if_pos (show lN 0 = 0 from rfl), Nat.gcd_zero_right]
    · have n0 : ¬ lN b = 0 := fun e => by rw [lN_eq0 b63] at e; omega
      have hr : a % b < b := Nat.mod_lt a hp
      simp only [X7_gcd_S6, lg_cmp_eq, if_neg n0, gd_t n0, lets_def, pk_lRem ha hp b63]
      show X7_gcd_S6 (it2 (X7_gcd_S6) f) (lN b) (lN (a % b)) = _
      rw [gcd_next a b]
      rcases Nat.eq_zero_or_pos (a % b) with z | hq
      · rw [z]
        simp only [X7_gcd_S6, lg_cmp_eq, if_pos (show lN 0 = 0 from rfl), Nat.gcd_zero_right]
      · have n1 : ¬ lN (a % b) = 0 := fun e => by rw [lN_eq0 (by omega)] at e; omega
        simp only [X7_gcd_S6, lg_cmp_eq, if_neg n1, gd_t n1, lets_def, pk_lRem b63 hq (show a % b < 2 ^ 63 by omega)]
        rw [gcd_next b (a % b)]
        exact gcdM_eq k (a % b) (b % (a % b)) f (by omega) (by omega) (half_rem hr hq hb) (by omega)
theorem gcdX_eq : ∀ (k a b s f : Nat), k ≤ 40 → a < 2 ^ 63 → b < 2 ^ k → 2 * k + 1 ≤ f → s + 2 * k ≤ 100 → it3 (X6_greatestDivisor_S9) f (lN a) (lN b) (nI s) = some (lN (Nat.gcd a b))
  | 0, a, b, s, f, hk, ha, hb, hf, hs => by
    obtain ⟨f, rfl⟩ : ∃ m, f = m + 1 := ⟨f - 1, by omega⟩
    have e : b = 0 := by omega
    subst e
    show X6_greatestDivisor_S9 (it3 (X6_greatestDivisor_S9) f) (lN a) (lN 0) (nI s) = _
    simp only [X6_greatestDivisor_S9, lg_cmp_eq, if_pos (show lN 0 = 0 from rfl), Nat.gcd_zero_right, ite_self]
  | k + 1, a, b, s, f, hk, ha, hb, hf, hs => by
    obtain ⟨f, rfl⟩ : ∃ m, f = m + 2 := ⟨f - 2, by omega⟩
    have h40 : 2 ^ (k + 1) ≤ 2 ^ 40 := Nat.pow_le_pow_right (by omega) hk
    have b63 : b < 2 ^ 63 := by omega
    show X6_greatestDivisor_S9 (it3 (X6_greatestDivisor_S9) (f + 1)) (lN a) (lN b) (nI s) = _
    rcases Nat.eq_zero_or_pos b with z | hp
    · subst z
      simp only [X6_greatestDivisor_S9, lg_cmp_eq, if_pos (show lN 0 = 0 from rfl), Nat.gcd_zero_right, ite_self]
    · have n0 : ¬ lN b = 0 := fun e => by rw [lN_eq0 b63] at e; omega
      have hr : a % b < b := Nat.mod_lt a hp
      simp only [X6_greatestDivisor_S9, lg_cmp_eq, if_neg (show ¬ (100 : Int32) ≤ nI s from nI_ge (a := s) (b := 100) (by omega) (by omega)), if_neg n0, gd_t n0, lets_def, pk_lRem ha hp b63, Lp1]
      show X6_greatestDivisor_S9 (it3 (X6_greatestDivisor_S9) f) (lN b) (lN (a % b)) (nI (s + 1)) = _
      rw [gcd_next a b]
      rcases Nat.eq_zero_or_pos (a % b) with z | hq
      · rw [z]
        simp only [X6_greatestDivisor_S9, lg_cmp_eq, if_pos (show lN 0 = 0 from rfl), Nat.gcd_zero_right, ite_self]
      · have n1 : ¬ lN (a % b) = 0 := fun e => by rw [lN_eq0 (by omega)] at e; omega
        simp only [X6_greatestDivisor_S9, lg_cmp_eq, if_neg (show ¬ (100 : Int32) ≤ nI (s + 1) from nI_ge (a := s + 1) (b := 100) (by omega) (by omega)), if_neg n1, gd_t n1, lets_def, pk_lRem b63 hq (show a % b < 2 ^ 63 by omega), Lp1]
        rw [gcd_next b (a % b)]
        exact gcdX_eq k (a % b) (b % (a % b)) (s + 1 + 1) f (by omega) (by omega) (half_rem hr hq hb) (by omega) (by omega)
theorem terms_eq {a b : Nat} (ha : a < 2 ^ 32) (hb : b < 2 ^ 32) (h0 : 0 < b) (x : Int32) : ∃ r, fX6_inLeastTerms (lN a) (lN b) x = some r ∧ fX7_inLeastTerms (lN a) (lN b) x = some r := by
  have g1 := gcdM_eq 32 a b 100000 (by omega) (by omega) hb (by omega)
  have g2 := gcdX_eq 32 a b 0 100000 (by omega) (by omega) hb (by omega) (by omega)
  have g0 : 0 < Nat.gcd a b := Nat.gcd_pos_of_pos_right a h0
  have gl : Nat.gcd a b ≤ b := Nat.le_of_dvd h0 (Nat.gcd_dvd_right a b)
  have n0 : ¬ lN (Nat.gcd a b) = 0 := fun e => by rw [lN_eq0 (by omega)] at e; omega
  have e1 : fX7_gcd (lN a) (lN b) = some (lN (Nat.gcd a b)) := g1
  have e2 : fX6_greatestDivisor (lN a) (lN b) = some (lN (Nat.gcd a b)) := g2
  by_cases z : x = 0
  · refine ⟨lN a / lN (Nat.gcd a b), ?_, ?_⟩
    · simp only [fX6_inLeastTerms, X6_inLeastTerms_J10, if_pos z, e2, some_bind9, lg_cmp_eq, if_neg n0, gd_t n0]
    · simp only [fX7_inLeastTerms, if_pos z, e1, some_bind9, gd_t n0]
  · refine ⟨lN b / lN (Nat.gcd a b), ?_, ?_⟩
    · simp only [fX6_inLeastTerms, X6_inLeastTerms_J10, if_neg z, e2, some_bind9, lg_cmp_eq, if_neg n0, gd_t n0]
    · simp only [fX7_inLeastTerms, if_neg z, e1, some_bind9, gd_t n0]
/-! odds: so many bring a sort -/
def stP (p : Nat → Nat) (b o : Nat) (k : Nat) : Nat := p k * o + (if k = 0 then 0 else p (k - 1) * b)
def pH (q : Nat → Nat) (s : Nat) : Nat → (Nat → Nat)
  | 0 => fun k => if k = 0 then 1 else 0
  | h + 1 => if fb_sm (fun t => q (4 * h + t)) 4 = 0 then pH q s h else stP (pH q s h) (q (4 * h + s)) (fb_sm (fun t => q (4 * h + t)) 4 - q (4 * h + s))
def aH (q : Nat → Nat) : Nat → Nat
  | 0 => 1
  | h + 1 => if fb_sm (fun t => q (4 * h + t)) 4 = 0 then aH q h else aH q h * fb_sm (fun t => q (4 * h + t)) 4
theorem le_sm {q : Nat → Nat} {h s : Nat} (hs : s < 4) : q (4 * h + s) ≤ fb_sm (fun t => q (4 * h + t)) 4 := by
  have := fb_sm_part (fun t => q (4 * h + t)) hs
  omega
theorem pH_0 {q : Nat → Nat} {s : Nat} : ∀ h k, h < k → pH q s h k = 0
  | 0, k, hk => by show (if k = 0 then 1 else 0) = 0; rw [if_neg (by omega)]
  | h + 1, k, hk => by
    unfold pH
    split
    · exact pH_0 h k (by omega)
    · unfold stP
      rw [pH_0 h k (by omega), if_neg (by omega), pH_0 h (k - 1) (by omega)]
      simp
theorem st_sum (p : Nat → Nat) (b o : Nat) : ∀ m, fb_sm (stP p b o) (m + 1) = fb_sm p (m + 1) * o + fb_sm p m * b
  | 0 => by simp [fb_sm, stP]
  | m + 1 => by
    rw [fb_sm_succ, st_sum p b o m, fb_sm_succ p (m + 1), fb_sm_succ p m]
    unfold stP
    rw [if_neg (by omega), show m + 1 - 1 = m by omega]
    simp only [Nat.add_mul]
    omega
theorem pH_sum {q : Nat → Nat} {s : Nat} (hs : s < 4) : ∀ h, h ≤ 6 → fb_sm (pH q s h) 7 = aH q h
  | 0, _ => by simp [fb_sm, pH, aH]
  | h + 1, hh => by
    have ih := pH_sum (q := q) hs h (by omega)
    unfold pH aH
    split
    · exact ih
    · rw [st_sum]
      have e : fb_sm (pH q s h) 6 = fb_sm (pH q s h) 7 := by rw [fb_sm_succ (pH q s h) 6, pH_0 h 6 (by omega)]; rfl
      have l := le_sm (q := q) (h := h) hs
      rw [e, ih, ← Nat.mul_add]
      congr 1
      omega
theorem aH_b {q : Nat → Nat} (h9 : ∀ j, j < 24 → q j ≤ 9) : ∀ h, h ≤ 6 → 0 < aH q h ∧ aH q h ≤ 36 ^ h
  | 0, _ => by simp [aH]
  | h + 1, hh => by
    obtain ⟨i1, i2⟩ := aH_b h9 h (by omega)
    have hb : fb_sm (fun t => q (4 * h + t)) 4 ≤ 4 * 9 := fb_sm_bound (fun t ht => h9 _ (by omega))
    unfold aH
    rw [Nat.pow_succ]
    split
    · exact ⟨i1, by omega⟩
    · exact ⟨Nat.mul_pos i1 (by omega), Nat.mul_le_mul i2 (by omega)⟩
theorem lN1 : (1 : Int64) = lN 1 := rfl
theorem addB_eq {ways : Nat → Int64} {p : Nat → Nat} (hw : ∀ j, j < 7 → ways j = lN (p j)) {b o : Nat} (hb : b < 100) (ho : o < 100) : ∃ ways', fX0_addBringer ways (nI b) (nI o) = some ways' ∧ ∀ j, j < 7 → ways' j = lN (stP p b o j) := by
  refine ⟨vp_updL (fun j => if 0 < j ∧ j ≤ 6 then lN (stP p b o j) else ways j) 0 (lN (p 0) * lN o), ?_, fun j hj => ?_⟩
  · unfold fX0_addBringer
    refine it2_go 6 (fun i => nI (6 - i)) (fun i => (fun j => if 6 - i < j ∧ j ≤ 6 then lN (stP p b o j) else ways j)) _ rfl ?_ (fun i hi self => ?_) (fun self => ?_) 100000 (by decide)
    · funext j; rw [if_neg (by omega)]
    · have ok : okx (nI (6 - i)) 7 := okx_nI (by omega) (by omega)
      have e1 : nI (6 - i) - 1 = nI (6 - i - 1) := pk_sub (a := 6 - i) (b := 1) (by omega)
      have ok2 : okx (nI (6 - i - 1)) 7 := okx_nI (by omega) (by omega)
      have e2 : nI (6 - i) + (-1) = nI (6 - (i + 1)) := by
        have := pk_m1 (6 - (i + 1))
        rw [show 6 - (i + 1) + 1 = 6 - i by omega] at this
        exact this
      simp only [X0_addBringer_S3, if_neg (show ¬ nI (6 - i) ≤ 0 from nI_nle (by omega) (by omega)), e1, e2, gd_t ok, gd_t ok2, nI_clamp (show 6 - i < 2 ^ 31 by omega), nI_clamp (show 6 - i - 1 < 2 ^ 31 by omega), lets_def, nI_l (show b < 2 ^ 31 by omega), nI_l (show o < 2 ^ 31 by omega), if_neg (show ¬ (6 - i < 6 - i ∧ 6 - i ≤ 6) by omega), if_neg (show ¬ (6 - i < 6 - i - 1 ∧ 6 - i - 1 ≤ 6) by omega), hw (6 - i) (by omega), hw (6 - i - 1) (by omega), lN_mul, lN_add]
      congr 1
      funext j
      by_cases e : j = 6 - i
      · subst e
        rw [pk_uLs, if_pos (by omega)]
        unfold stP
        rw [if_neg (by omega)]
      · rw [pk_uLn e]
        exact if_iff9 (by omega)
    · have c0 : (0 : Int32).toNatClampNeg = 0 := rfl
      simp only [X0_addBringer_S3, X0_addBringer_J40, if_pos (show nI (6 - 6) ≤ 0 by decide), c0, lets_def, nI_l (show o < 2 ^ 31 by omega)]
      rw [if_neg (show ¬ (6 - 6 < 0 ∧ 0 ≤ 6) by omega), hw 0 (by omega)]
  · by_cases e : j = 0
    · subst e
      rw [pk_uLs, lN_mul]
      unfold stP
      rw [if_pos rfl, Nat.add_zero]
    · rw [pk_uLn e, if_pos (by omega)]
theorem count_go {q : Nat → Nat} {V : Nat → Int32} (hV : ∀ j, j < 24 → V j = nI (q j)) (h9 : ∀ j, j < 24 → q j ≤ 9) {s : Nat} (hs : s < 4) : ∀ (d h f : Nat) (ways : Nat → Int64), h + d = 6 → d < f → (∀ j, j < 7 → ways j = lN (pH q s h j)) → ∃ ways', it2 (X0_countBringers_S34 V (nI s)) f (nI h) ways = some ways' ∧ ∀ j, j < 7 → ways' j = lN (pH q s 6 j)
  | 0, h, f, ways, hd, hf, hw => by
    obtain ⟨f, rfl⟩ : ∃ m, f = m + 1 := ⟨f - 1, by omega⟩
    have e : h = 6 := by omega
    subst e
    refine ⟨ways, ?_, hw⟩
    show X0_countBringers_S34 V (nI s) (it2 (X0_countBringers_S34 V (nI s)) f) (nI 6) ways = _
    simp only [X0_countBringers_S34, if_pos (show (6 : Int32) ≤ nI 6 by decide)]
  | d + 1, h, f, ways, hd, hf, hw => by
    obtain ⟨f, rfl⟩ : ∃ m, f = m + 1 := ⟨f - 1, by omega⟩
    have hh : h < 6 := by omega
    have hq4 : ∀ t, t < 4 → (fun t => V (4 * h + t)) t = nI ((fun t => q (4 * h + t)) t) := fun t ht => hV _ (by omega)
    have hb : fb_sm (fun t => q (4 * h + t)) 4 ≤ 4 * 9 := fb_sm_bound (fun t ht => h9 _ (by omega))
    have l := le_sm (q := q) (h := h) hs
    show ∃ ways', X0_countBringers_S34 V (nI s) (it2 (X0_countBringers_S34 V (nI s)) f) (nI h) ways = some ways' ∧ _
    rcases Nat.eq_zero_or_pos (fb_sm (fun t => q (4 * h + t)) 4) with z | hp
    · have ep : pH q s (h + 1) = pH q s h := by rw [pH, if_pos z]
      simp only [X0_countBringers_S34, X0_countBringers_J71, if_neg (show ¬ (6 : Int32) ≤ nI h from nI_ge (a := h) (b := 6) hh (by omega)), together_eq hh, some_bind9, sumI_nI hq4, z, if_pos (show nI 0 ≤ 0 by decide), lets_def, Lp1]
      exact count_go hV h9 hs d (h + 1) f ways (by omega) (by omega) (by rw [ep]; exact hw)
    · have ep : pH q s (h + 1) = stP (pH q s h) (q (4 * h + s)) (fb_sm (fun t => q (4 * h + t)) 4 - q (4 * h + s)) := by rw [pH, if_neg (by omega)]
      obtain ⟨w2, e1, e2⟩ := addB_eq hw (b := q (4 * h + s)) (o := fb_sm (fun t => q (4 * h + t)) 4 - q (4 * h + s)) (by omega) (by omega)
      have np : ¬ nI (fb_sm (fun t => q (4 * h + t)) 4) ≤ 0 := nI_nle hp (by omega)
      simp only [X0_countBringers_S34, X0_countBringers_J71, if_neg (show ¬ (6 : Int32) ≤ nI h from nI_ge (a := h) (b := 6) hh (by omega)), together_eq hh, some_bind9, sumI_nI hq4, if_neg np, of_eq hh hs, hV (4 * h + s) (by omega), pk_sub l, e1, lets_def, Lp1]
      exact count_go hV h9 hs d (h + 1) f w2 (by omega) (by omega) (by rw [ep]; exact e2)
theorem countBringers_eq {q : Nat → Nat} {V : Nat → Int32} (hV : ∀ j, j < 24 → V j = nI (q j)) (h9 : ∀ j, j < 24 → q j ≤ 9) {s : Nat} (hs : s < 4) {ways : Nat → Int64} : ∃ ways', fX0_countBringers ways V (nI s) = some ways' ∧ ∀ j, j < 7 → ways' j = lN (pH q s 6 j) := by
  obtain ⟨w', e1, e2⟩ := count_go hV h9 hs 6 0 100000 (fa_fill (fun k => if k = 0 then 1 else 0) ways 7) (by omega) (by omega) (fun j hj => by
    rw [fa_fill_in hj]
    show _ = lN (if j = 0 then 1 else 0)
    split <;> rfl)
  refine ⟨w', ?_, e2⟩
  unfold fX0_countBringers
  refine it2_go 7 (fun i => nI i) (fun i => fa_fill (fun k => if k = 0 then 1 else 0) ways i) _ rfl (fa_fill_0 _ _).symm (fun i hi self => ?_) (fun self => ?_) 100000 (by decide)
  · have ok : okx (nI i) 7 := okx_nI hi (by omega)
    have st : ∀ v : Int64, v = (if i = 0 then 1 else 0) → vp_updL (fa_fill (fun k => if k = 0 then (1 : Int64) else 0) ways i) i v = fa_fill (fun k => if k = 0 then (1 : Int64) else 0) ways (i + 1) := fun v hv => by
      funext j
      by_cases e : j = i
      · subst e; rw [pk_uLs, fa_fill_in (by omega)]; exact hv
      · rw [pk_uLn e]
        unfold fa_fill
        exact if_iff9 (by omega)
    rcases Nat.eq_zero_or_pos i with z | hp
    · subst z
      simp only [X0_countBringers_S2, X0_countBringers_J25, if_neg (show ¬ (7 : Int32) ≤ nI 0 by decide), if_pos (show nI 0 = 0 from rfl), gd_t ok, nI_clamp (show 0 < 2 ^ 31 by omega), lets_def, Lp1]
      rw [st 1 rfl]
    · simp only [X0_countBringers_S2, X0_countBringers_J25, if_neg (show ¬ (7 : Int32) ≤ nI i from nI_ge (a := i) (b := 7) hi (by omega)), if_neg (nI_ne0 hp (by omega)), gd_t ok, nI_clamp (show i < 2 ^ 31 by omega), lets_def, Lp1]
      rw [st 0 (by rw [if_neg (by omega)])]
  · simp only [X0_countBringers_S2, X0_countBringers_J32, if_pos (show (7 : Int32) ≤ nI 7 by decide)]
    exact e1
theorem waysFrom_eq {ways : Nat → Int64} {p : Nat → Nat} (hw : ∀ j, j < 7 → ways j = lN (p j)) {k : Nat} (hk : k ≤ 6) : fX0_waysFrom ways (nI k) = some (lN (fb_sm (fun j => p (k + j)) (7 - k))) := by
  unfold fX0_waysFrom
  refine it2_go (7 - k) (fun i => lN (fb_sm (fun j => p (k + j)) i)) (fun i => nI (k + i)) _ rfl rfl (fun i hi self => ?_) (fun self => ?_) 100000 (by omega)
  · have ok : okx (nI (k + i)) 7 := okx_nI (by omega) (by omega)
    simp only [X0_waysFrom_S5, if_neg (show ¬ (6 : Int32) < nI (k + i) from nI_nlt (a := 6) (b := k + i) (by omega) (by omega)), gd_t ok, nI_clamp (show k + i < 2 ^ 31 by omega), hw (k + i) (by omega), lN_add, lets_def, Lp1, fb_sm_succ]
    rfl
  · have e : k + (7 - k) = 7 := by omega
    simp only [X0_waysFrom_S5, e, if_pos (show (6 : Int32) < nI 7 by decide)]
theorem pre_sum {p : Nat → Nat} {k : Nat} (hk : k ≤ 7) : fb_sm (fun j => p (k + j)) (7 - k) ≤ fb_sm p 7 := by
  have := fb_sm_split p k (7 - k)
  rw [show k + (7 - k) = 7 by omega] at this
  omega
