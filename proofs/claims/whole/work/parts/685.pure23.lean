/-! told rows: numbers, counts, likely enough -/
def dg9 (x : Nat) : Nat := if x = 9 then 0 else x + 1
def numF (r : Nat → Nat) : Nat → Nat → Nat
  | 0, _ => 0
  | d + 1, h => dg9 (r h) * 5 ^ d + numF r d (h + 1)
def ctF (r : Nat → Nat) : Nat → Nat → Nat
  | 0, _ => 0
  | d + 1, h => (if r h = 9 then 0 else 1) + ctF r d (h + 1)
theorem num_lt {r : Nat → Nat} : ∀ (d h : Nat), (∀ k, h ≤ k → k < h + d → r k = 9 ∨ r k < 4) → numF r d h < 5 ^ d
  | 0, h, _ => by simp [numF]
  | d + 1, h, hv => by
    have e := num_lt d (h + 1) (fun k h1 h2 => hv k (by omega) (by omega))
    have g : dg9 (r h) ≤ 4 := by
      have := hv h (Nat.le_refl h) (by omega)
      unfold dg9
      split <;> omega
    have m : dg9 (r h) * 5 ^ d ≤ 4 * 5 ^ d := Nat.mul_le_mul_right _ g
    rw [numF, Nat.pow_succ]
    omega
theorem dg_inj {x y : Nat} (hx : x = 9 ∨ x < 4) (hy : y = 9 ∨ y < 4) (e : dg9 x = dg9 y) : x = y := by
  unfold dg9 at e
  split at e <;> split at e <;> omega
theorem num_inj {r r' : Nat → Nat} : ∀ (d h : Nat), (∀ k, h ≤ k → k < h + d → (r k = 9 ∨ r k < 4) ∧ (r' k = 9 ∨ r' k < 4)) → numF r d h = numF r' d h → ∀ k, h ≤ k → k < h + d → r k = r' k
  | 0, h, _, _, k, h1, h2 => absurd h2 (by omega)
  | d + 1, h, hv, e, k, h1, h2 => by
    have l1 := num_lt (r := r) d (h + 1) (fun k h1 h2 => (hv k (by omega) (by omega)).1)
    have l2 := num_lt (r := r') d (h + 1) (fun k h1 h2 => (hv k (by omega) (by omega)).2)
    rw [numF, numF] at e
    have hp : 0 < 5 ^ d := Nat.pow_pos (by omega)
    have e1 : dg9 (r h) = dg9 (r' h) := by
      have a := congrArg (· / 5 ^ d) e
      simp only [Nat.mul_comm (dg9 _), Nat.mul_add_div hp, Nat.div_eq_of_lt l1, Nat.div_eq_of_lt l2, Nat.add_zero] at a
      exact a
    have e2 : numF r d (h + 1) = numF r' d (h + 1) := by rw [e1] at e; omega
    have hv0 := hv h (Nat.le_refl h) (by omega)
    rcases Nat.lt_or_ge h k with g | g
    · exact num_inj d (h + 1) (fun k h1 h2 => hv k (by omega) (by omega)) e2 k (by omega) (by omega)
    · rw [show k = h by omega]; exact dg_inj hv0.1 hv0.2 e1
theorem num_cg {r r' : Nat → Nat} : ∀ (d h : Nat), (∀ k, h ≤ k → k < h + d → r k = r' k) → numF r d h = numF r' d h
  | 0, _, _ => rfl
  | d + 1, h, hc => by rw [numF, numF, hc h (Nat.le_refl h) (by omega), num_cg d (h + 1) (fun k h1 h2 => hc k (by omega) (by omega))]
theorem ct_cg {r r' : Nat → Nat} : ∀ (d h : Nat), (∀ k, h ≤ k → k < h + d → r k = r' k) → ctF r d h = ctF r' d h
  | 0, _, _ => rfl
  | d + 1, h, hc => by rw [ctF, ctF, hc h (Nat.le_refl h) (by omega), ct_cg d (h + 1) (fun k h1 h2 => hc k (by omega) (by omega))]
theorem ct_le {r : Nat → Nat} : ∀ (d h : Nat), ctF r d h ≤ d
  | 0, _ => Nat.le_refl 0
  | d + 1, h => by
    have := ct_le (r := r) d (h + 1)
    rw [ctF]
    split <;> omega
theorem num_short {r : Nat → Nat} : ∀ (d e h : Nat), (∀ k, h + d ≤ k → k < h + d + e → r k = 9) → numF r (d + e) h = numF r d h * 5 ^ e
  | 0, 0, h, _ => by simp [numF]
  | 0, e + 1, h, hc => by
    have i := num_short 0 e (h + 1) (fun k h1 h2 => hc k (by omega) (by omega))
    rw [Nat.zero_add] at i ⊢
    show dg9 (r h) * 5 ^ e + numF r e (h + 1) = _
    rw [i, hc h (by omega) (by omega)]
    simp [numF, dg9]
  | d + 1, e, h, hc => by
    have i := num_short d e (h + 1) (fun k h1 h2 => hc k (by omega) (by omega))
    rw [show d + 1 + e = d + e + 1 by omega, numF, numF, i, Nat.add_mul, Nat.mul_assoc, Nat.pow_add]
theorem ct_short {r : Nat → Nat} : ∀ (d e h : Nat), (∀ k, h + d ≤ k → k < h + d + e → r k = 9) → ctF r (d + e) h = ctF r d h
  | 0, 0, h, _ => rfl
  | 0, e + 1, h, hc => by
    have i := ct_short 0 e (h + 1) (fun k h1 h2 => hc k (by omega) (by omega))
    rw [Nat.zero_add] at i ⊢
    show (if r h = 9 then 0 else 1) + ctF r e (h + 1) = _
    rw [i, hc h (by omega) (by omega)]
    simp [ctF]
  | d + 1, e, h, hc => by
    have i := ct_short d e (h + 1) (fun k h1 h2 => hc k (by omega) (by omega))
    rw [show d + 1 + e = d + e + 1 by omega, ctF, ctF, i]
theorem ct_upd {r : Nat → Nat} {j : Nat} (hj : ¬ r j = 9) : ∀ (d h : Nat), h ≤ j → j < h + d → ctF (updN r j 9) d h + 1 = ctF r d h
  | 0, h, h1, h2 => absurd h2 (by omega)
  | d + 1, h, h1, h2 => by
    rw [ctF, ctF]
    by_cases e : h = j
    · subst e
      have e1 : updN r h 9 h = 9 := if_pos rfl
      have e2 : ctF (updN r h 9) d (h + 1) = ctF r d (h + 1) := ct_cg d (h + 1) (fun k g1 g2 => if_neg (by omega))
      rw [e1, e2, if_pos rfl, if_neg hj]
      omega
    · have e1 : updN r j 9 h = r h := if_neg e
      have i := ct_upd hj d (h + 1) (by omega) (by omega)
      rw [e1]
      omega
def lk9 (q : Nat → Nat) (a b : Nat) (r : Nat → Nat) : Prop := aH q 6 * a ≤ vV (idl9 q r) (cw9 q r) 6 0 0 * b
def dist9 (r : Nat → Nat) (m : Nat) : Prop := ∀ i j, i < j → j < m → r i ≠ 9 → r i ≠ r j
theorem vr_cg {q r r' : Nat → Nat} (h : ∀ k, k < 6 → r k = r' k) : vV (idl9 q r) (cw9 q r) 6 0 0 = vV (idl9 q r') (cw9 q r') 6 0 0 :=
  vV_cg 6 0 0 (fun k _ h2 => ⟨by simp only [idl9, h k (by omega)], fun s _ => by simp only [cw9, h k (by omega)]⟩)
theorem tb_or : ∀ S, S < 16 → ∀ s, s < 4 → ∀ t, t < 4 → (S ||| 2 ^ t).testBit s = (S.testBit s || decide (s = t)) := by decide +kernel
theorem or_self9 : ∀ S, S < 16 → ∀ s, s < 4 → S.testBit s = true → S ||| 2 ^ s = S := by decide +kernel
/-- one of two that are told the same may as well be free -/
theorem free_one {q r : Nat → Nat} {j s : Nat} (hs : s < 4) (hj : r j = s) (hw : 0 < Wt9 q j) : ∀ (d h S : Nat), S < 16 → h ≤ j → (S.testBit s = true ∨ ∃ i, h ≤ i ∧ i < j ∧ r i = s) → vV (idl9 q r) (cw9 q r) d h S ≤ vV (idl9 q (updN r j 9)) (cw9 q (updN r j 9)) d h S
  | 0, h, S, hS, hh, hP => Nat.le_refl _
  | d + 1, h, S, hS, hh, hP => by
    by_cases e : h = j
    · subst e
      have hb : S.testBit s = true := by
        rcases hP with g | ⟨i, g1, g2, -⟩
        · exact g
        · omega
      have u1 : updN r h 9 h = 9 := if_pos rfl
      have i1 : idl9 q r h = false := by simp [idl9, hj]; omega
      have i2 : idl9 q (updN r h 9) h = false := by simp [idl9, u1]; omega
      have later : ∀ S, vV (idl9 q (updN r h 9)) (cw9 q (updN r h 9)) d (h + 1) S = vV (idl9 q r) (cw9 q r) d (h + 1) S := fun S => vV_cg d (h + 1) S (fun k g1 g2 => by
        have : updN r h 9 k = r k := if_neg (by omega)
        exact ⟨by simp only [idl9, this], fun t _ => by simp only [cw9, this]⟩)
      rw [vV, vV, i1, i2, if_neg (by decide), if_neg (by decide)]
      have l1 : fb_sm (fun t => cw9 q r h t * vV (idl9 q r) (cw9 q r) d (h + 1) (S ||| 2 ^ t)) 4 = Wt9 q h * vV (idl9 q r) (cw9 q r) d (h + 1) S := by
        have hc : ∀ t, cw9 q r h t = if s = t then Wt9 q h else 0 := fun t => by simp only [cw9, hj, if_neg (show ¬ s = 9 by omega)]
        have es := or_self9 S hS s hs hb
        simp only [hc, sm4]
        rcases (show s = 0 ∨ s = 1 ∨ s = 2 ∨ s = 3 by omega) with g | g | g | g <;> subst g <;> simp_all
      have l2 : fb_sm (fun t => q (4 * h + t) * vV (idl9 q r) (cw9 q r) d (h + 1) S) 4 ≤ fb_sm (fun t => cw9 q (updN r h 9) h t * vV (idl9 q (updN r h 9)) (cw9 q (updN r h 9)) d (h + 1) (S ||| 2 ^ t)) 4 := fb_sm_le (fun t ht => by
        have : cw9 q (updN r h 9) h t = q (4 * h + t) := by simp only [cw9, u1, if_pos]
        rw [this, later]
        exact Nat.mul_le_mul_left _ (vV_mono d (h + 1) S t hS ht))
      have l3 : fb_sm (fun t => q (4 * h + t) * vV (idl9 q r) (cw9 q r) d (h + 1) S) 4 = Wt9 q h * vV (idl9 q r) (cw9 q r) d (h + 1) S := by
        unfold Wt9
        rw [sm4, sm4, Nat.add_mul, Nat.add_mul, Nat.add_mul]
      rw [l1, ← l3]
      exact l2
    · have u1 : updN r j 9 h = r h := if_neg e
      have i1 : idl9 q (updN r j 9) h = idl9 q r h := by simp only [idl9, u1]
      have c1 : ∀ t, cw9 q (updN r j 9) h t = cw9 q r h t := fun t => by simp only [cw9, u1]
      rw [vV, vV, i1]
      by_cases hi : idl9 q r h = true
      · rw [if_pos hi, if_pos hi]
        refine free_one hs hj hw d (h + 1) S hS (by omega) ?_
        rcases hP with g | ⟨i, g1, g2, g3⟩
        · exact Or.inl g
        · refine Or.inr ⟨i, ?_, g2, g3⟩
          rcases Nat.lt_or_ge h i with z | z
          · omega
          · exfalso
            have : i = h := by omega
            rw [this] at g3
            simp [idl9, g3] at hi
            omega
      · rw [if_neg hi, if_neg hi]
        refine fb_sm_le (fun t ht => ?_)
        rw [c1]
        by_cases hz : cw9 q r h t = 0
        · rw [hz, Nat.zero_mul]; exact Nat.zero_le _
        · refine Nat.mul_le_mul_left _ (free_one hs hj hw d (h + 1) (S ||| 2 ^ t) (or_lt S hS t ht) (by omega) ?_)
          rw [tb_or S hS s hs t ht]
          rcases hP with g | ⟨i, g1, g2, g3⟩
          · left; simp [g]
          · rcases Nat.lt_or_ge h i with z | z
            · exact Or.inr ⟨i, by omega, g2, g3⟩
            · left
              have : i = h := by omega
              rw [this] at g3
              have : s = t := by
                apply Decidable.byContradiction
                intro ne
                apply hz
                simp only [cw9, g3, if_neg (show ¬ s = 9 by omega), if_neg ne]
              simp [this]
theorem not_dist {q r : Nat → Nat} {a b : Nat} (hv : ∀ i, i < 6 → valid9 q r i) (hl : lk9 q a b r) (hd : ¬ dist9 r 6) : ∃ r', (∀ i, i < 6 → valid9 q r' i) ∧ lk9 q a b r' ∧ ctF r' 6 0 < ctF r 6 0 := by
  obtain ⟨i, j, hij, hj, n9, e⟩ : ∃ i j, i < j ∧ j < 6 ∧ r i ≠ 9 ∧ r i = r j := by
    apply Classical.byContradiction
    intro h
    apply hd
    intro i j h1 h2 h3 h4
    exact h ⟨i, j, h1, h2, h3, h4⟩
  have vj := hv j hj
  have nj : ¬ r j = 9 := by rw [← e]; exact n9
  have hj4 : r j < 4 ∧ 0 < q (4 * j + r j) := by
    rcases vj with g | g
    · exact absurd g nj
    · exact g
  have hw : 0 < Wt9 q j := Nat.lt_of_lt_of_le hj4.2 (le_sm hj4.1)
  have f := free_one (q := q) (r := r) (j := j) (s := r j) hj4.1 rfl hw 6 0 0 (by omega) (Nat.zero_le j) (Or.inr ⟨i, Nat.zero_le i, hij, e⟩)
  refine ⟨updN r j 9, fun k hk => ?_, ?_, ?_⟩
  · by_cases g : k = j
    · exact Or.inl (if_pos g)
    · have : updN r j 9 k = r k := if_neg g
      unfold valid9
      rw [this]
      exact hv k hk
  · unfold lk9 at hl ⊢
    exact Nat.le_trans hl (Nat.mul_le_mul_right b f)
  · have := ct_upd nj 6 0 (Nat.zero_le j) (by omega)
    omega
/-- a valid likely row of the fewest told -/
theorem fewest_ex {q : Nat → Nat} {a b : Nat} : ∀ (m : Nat) (r : Nat → Nat), ctF r 6 0 ≤ m → (∀ i, i < 6 → valid9 q r i) → lk9 q a b r → ∃ r', (∀ i, i < 6 → valid9 q r' i) ∧ lk9 q a b r' ∧ dist9 r' 6 ∧ ctF r' 6 0 ≤ ctF r 6 0
  | 0, r, hm, hv, hl => by
    apply Classical.byContradiction
    intro h
    by_cases hd : dist9 r 6
    · exact h ⟨r, hv, hl, hd, Nat.le_refl _⟩
    · obtain ⟨r', -, -, h3⟩ := not_dist hv hl hd
      omega
  | m + 1, r, hm, hv, hl => by
    by_cases hd : dist9 r 6
    · exact ⟨r, hv, hl, hd, Nat.le_refl _⟩
    · obtain ⟨r', h1, h2, h3⟩ := not_dist hv hl hd
      obtain ⟨r2, g1, g2, g3, g4⟩ := fewest_ex m r' (by omega) h1 h2
      exact ⟨r2, g1, g2, g3, by omega⟩
theorem ct_fb {r : Nat → Nat} : ctF r 6 0 = fb_ct (fun k => decide (r k ≠ 9)) 6 := by
  simp only [ctF, fb_ct]
  by_cases h0 : r 0 = 9 <;> by_cases h1 : r 1 = 9 <;> by_cases h2 : r 2 = 9 <;> by_cases h3 : r 3 = 9 <;> by_cases h4 : r 4 = 9 <;> by_cases h5 : r 5 = 9 <;> simp [h0, h1, h2, h3, h4, h5]
theorem ct_4 {q r : Nat → Nat} (hv : ∀ i, i < 6 → valid9 q r i) (hd : dist9 r 6) : ctF r 6 0 ≤ 4 := by
  rw [ct_fb]
  have ex : ∀ k, ∃ i, k < fb_ct (fun k => decide (r k ≠ 9)) 6 → i < 6 ∧ decide (r i ≠ 9) = true ∧ fb_ct (fun k => decide (r k ≠ 9)) i = k := fun k => by
    by_cases hk : k < fb_ct (fun k => decide (r k ≠ 9)) 6
    · obtain ⟨i, h1, h2, h3⟩ := fb_ct_kth hk
      exact ⟨i, fun _ => ⟨h1, h2, h3⟩⟩
    · exact ⟨0, fun h => absurd h hk⟩
  obtain ⟨g, hg⟩ := Classical.axiomOfChoice ex
  refine fb_holes 4 _ (fun k => r (g k)) (fun k hk => ?_) (fun k l hkl hl e => ?_)
  · obtain ⟨h1, h2, -⟩ := hg k hk
    have := hv (g k) h1
    simp only [decide_eq_true_eq] at h2
    rcases this with z | z
    · exact absurd z h2
    · exact z.1
  · obtain ⟨h1, h2, h3⟩ := hg k (by omega)
    obtain ⟨g1, g2, g3⟩ := hg l hl
    simp only [decide_eq_true_eq] at h2 g2
    rcases Nat.lt_trichotomy (g k) (g l) with z | z | z
    · exact hd _ _ z g1 h2 e
    · rw [z] at h3; omega
    · exact hd _ _ z h1 g2 e.symm
