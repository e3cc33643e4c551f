/-! the reference's rows by their numbers -/
def r6 (n m k : Nat) : Nat := if k < n then (if m / 5 ^ (n - 1 - k) % 5 = 0 then 9 else m / 5 ^ (n - 1 - k) % 5 - 1) else 9
theorem r6_ok (n m k : Nat) : r6 n m k = 9 ∨ r6 n m k < 4 := by
  have := Nat.mod_lt (m / 5 ^ (n - 1 - k)) (show 5 > 0 by omega)
  unfold r6
  split
  · split <;> omega
  · exact Or.inl rfl
theorem r6_dg {n m k : Nat} (hk : k < n) : dg9 (r6 n m k) = m / 5 ^ (n - 1 - k) % 5 := by
  have := Nat.mod_lt (m / 5 ^ (n - 1 - k)) (show 5 > 0 by omega)
  unfold r6 dg9
  rw [if_pos hk]
  by_cases z : m / 5 ^ (n - 1 - k) % 5 = 0
  · rw [if_pos z, if_pos rfl, z]
  · rw [if_neg z, if_neg (by omega)]; omega
theorem num_r6 {n m : Nat} : ∀ d, d ≤ n → numF (r6 n m) d (n - d) = m % 5 ^ d
  | 0, _ => by simp [numF, Nat.mod_one]
  | d + 1, hd => by
    have i := num_r6 (n := n) (m := m) d (by omega)
    rw [numF, show n - (d + 1) + 1 = n - d by omega, i, r6_dg (by omega), show n - 1 - (n - (d + 1)) = d by omega, Nat.mod_pow_succ, Nat.mul_comm]
    omega
theorem num_r6' {n m : Nat} (hm : m < 5 ^ n) : numF (r6 n m) n 0 = m := by
  have := num_r6 (n := n) (m := m) n (Nat.le_refl n)
  rw [Nat.sub_self, Nat.mod_eq_of_lt hm] at this
  exact this
theorem r6_num {n : Nat} {r : Nat → Nat} (hv : ∀ k, k < n → r k = 9 ∨ r k < 4) (h9 : ∀ k, n ≤ k → r k = 9) : numF r n 0 < 5 ^ n ∧ ∀ k, r6 n (numF r n 0) k = r k := by
  have l := num_lt (r := r) n 0 (fun k _ h2 => hv k (by omega))
  refine ⟨l, fun k => ?_⟩
  rcases Nat.lt_or_ge k n with g | g
  · exact num_inj n 0 (fun k _ h2 => ⟨r6_ok n _ k, hv k (by omega)⟩) (num_r6' l) k (Nat.zero_le k) (by omega)
  · rw [h9 k g]; exact if_neg (by omega)
def vlF (q r : Nat → Nat) : Nat → Nat → Bool
  | 0, _ => true
  | d + 1, h => decide (r h = 9 ∨ 0 < q (4 * h + r h)) && vlF q r d (h + 1)
theorem vl_iff {q r : Nat → Nat} (hr : ∀ k, r k = 9 ∨ r k < 4) : ∀ (d h : Nat), vlF q r d h = true ↔ ∀ k, h ≤ k → k < h + d → valid9 q r k
  | 0, h => ⟨fun _ k h1 h2 => absurd h2 (by omega), fun _ => rfl⟩
  | d + 1, h => by
    rw [vlF, Bool.and_eq_true, vl_iff hr d (h + 1), decide_eq_true_eq]
    constructor
    · rintro ⟨g1, g2⟩ k h1 h2
      rcases Nat.lt_or_ge h k with z | z
      · exact g2 k (by omega) (by omega)
      · rw [show k = h by omega]
        rcases g1 with g | g
        · exact Or.inl g
        · rcases hr h with w | w
          · exact Or.inl w
          · exact Or.inr ⟨w, g⟩
    · intro g
      refine ⟨?_, fun k h1 h2 => g k (by omega) (by omega)⟩
      rcases g h (Nat.le_refl h) (by omega) with w | w
      · exact Or.inl w
      · exact Or.inr w.2
def dP9 (q r : Nat → Nat) : Nat → Nat
  | 0 => 1
  | h + 1 => dP9 q r h * (if r h = 9 then 1 else Wt9 q h)
theorem dP_Pd {q r : Nat → Nat} : ∀ (d h : Nat), dP9 q r (h + d) = dP9 q r h * Pd9 (fun _ => false) (fun k s => if s = 0 then (if r k = 9 then 1 else Wt9 q k) else 0) d h 0
  | 0, h => by rw [Pd9, Nat.mul_one]; rfl
  | d + 1, h => by
    have e := dP_Pd (q := q) (r := r) d (h + 1)
    have ef : facI (fun _ => false) (fun k s => if s = 0 then (if r k = 9 then 1 else Wt9 q k) else 0) h 0 = if r h = 9 then 1 else Wt9 q h := by
      unfold facI
      rw [if_neg (show ¬ (fun _ => false) h = true from Bool.false_ne_true), sm4]
      simp
    rw [show h + (d + 1) = h + 1 + d by omega, e, Pd9, ef, dP9, Nat.mul_assoc]
theorem all_dP {q r : Nat → Nat} : ∀ h, (∀ k, k < h → valid9 q r k) → aH q h = dP9 q r h * allM q r h ∧ 0 < dP9 q r h
  | 0, _ => ⟨rfl, Nat.one_pos⟩
  | h + 1, hv => by
    obtain ⟨i1, i2⟩ := all_dP h (fun k hk => hv k (by omega))
    have g := hv h (by omega)
    have e : aH q (h + 1) = if Wt9 q h = 0 then aH q h else aH q h * Wt9 q h := rfl
    rw [e, dP9, allM, i1]
    by_cases z9 : r h = 9
    · rw [if_pos z9, if_pos z9, Nat.mul_one]
      by_cases z : Wt9 q h = 0
      · rw [if_pos z, if_pos z]; exact ⟨rfl, i2⟩
      · rw [if_neg z, if_neg z]; exact ⟨Nat.mul_assoc _ _ _, i2⟩
    · have hw : 0 < Wt9 q h := by
        rcases g with g | g
        · exact absurd g z9
        · exact Nat.lt_of_lt_of_le g.2 (le_sm g.1)
      rw [if_neg z9, if_neg z9, if_neg (by omega)]
      exact ⟨by rw [Nat.mul_right_comm], Nat.mul_pos i2 hw⟩
theorem scale9 {q r : Nat → Nat} {n : Nat} (hn : n ≤ 6) (hz : ∀ j, 4 * n ≤ j → j < 24 → q j = 0) (hr : ∀ k, n ≤ k → r k = 9) (hv : ∀ k, k < n → valid9 q r k) : 0 < dP9 q r n ∧ vV (idl9 q r) (cw9 q r) 6 0 0 = dP9 q r n * vV (idl9 q r) (mw9 q r) n 0 0 ∧ aH q 6 = dP9 q r n * allM q r n := by
  obtain ⟨i1, i2⟩ := all_dP n hv
  obtain ⟨-, t2⟩ := pH_tail (s := 0) hz (6 - n) (by omega)
  rw [show n + (6 - n) = 6 by omega] at t2
  have e := vV_short (id9 := idl9 q r) (w := cw9 q r) n (6 - n) 0 0 (fun k g1 g2 => by
    have z : Wt9 q k = 0 := by
      unfold Wt9
      rw [sm4, hz _ (by omega) (by omega), hz _ (by omega) (by omega), hz _ (by omega) (by omega), hz _ (by omega) (by omega)]
    simp [idl9, z, hr k (by omega)])
  rw [show n + (6 - n) = 6 by omega] at e
  obtain ⟨D, d1, d2⟩ := vV_scale (id9 := idl9 q r) (w := mw9 q r) (w' := cw9 q r) (c := fun k => if r k = 9 then 1 else Wt9 q k) n 0 0 (fun k _ _ s _ => by
    unfold cw9 mw9
    by_cases z : r k = 9
    · simp [z]
    · by_cases w : r k = s
      · simp only [if_neg z, if_pos w, Nat.mul_one]
      · simp only [if_neg z, if_neg w, Nat.mul_zero]) (fun k _ _ hi => by
    simp [idl9] at hi
    simp [hi.1])
  have e2 := dP_Pd (q := q) (r := r) n 0
  rw [Nat.zero_add] at e2
  have e3 : dP9 q r 0 = 1 := rfl
  rw [e3, Nat.one_mul] at e2
  refine ⟨i2, ?_, by rw [t2, i1]⟩
  rw [e, d2, d1, ← e2]
def Gd9 (q : Nat → Nat) (a b n m : Nat) : Prop := vlF q (r6 n m) n 0 = true ∧ a * allM q (r6 n m) n ≤ vV (idl9 q (r6 n m)) (mw9 q (r6 n m)) n 0 0 * b
theorem gd_iff {q r : Nat → Nat} {n a b : Nat} (hn : n ≤ 6) (hz : ∀ j, 4 * n ≤ j → j < 24 → q j = 0) (hr : ∀ k, n ≤ k → r k = 9) (hv : ∀ k, k < n → valid9 q r k) : (a * allM q r n ≤ vV (idl9 q r) (mw9 q r) n 0 0 * b) ↔ lk9 q a b r := by
  obtain ⟨s1, s2, s3⟩ := scale9 hn hz hr hv
  unfold lk9
  rw [s2, s3, Nat.mul_assoc, Nat.mul_assoc, Nat.mul_comm (allM q r n) a]
  exact (Nat.mul_le_mul_left_iff s1).symm
theorem rem5 {a : Nat} (ha : a < 2 ^ 31) : nI a - nI a / (5 : Int32) * (5 : Int32) = nI (a % 5) := pk_rem (d := 5) ha (by omega) (by omega)
theorem div5 {a : Nat} (ha : a < 2 ^ 31) : nI a / (5 : Int32) = nI (a / 5) := pk_div (d := 5) ha (by omega) (by omega)
theorem decn : ∀ n, n ≤ 6 → ∀ j, j < n → nI (n - 1 - j) + (-1) = if j + 1 < n then nI (n - 1 - (j + 1)) else -1 := by decide +kernel
theorem hm1 : ∀ n, n ≤ 6 → nI n - 1 = if 0 < n then nI (n - 1 - 0) else -1 := by decide +kernel
def rowJ (n N : Nat) (row : Nat → Int32) (j : Nat) : Nat → Int32 := fun k => if n - j ≤ k ∧ k < n then nI (r6 n N k) else row k
theorem call_in {n N : Nat} (hn : n ≤ 6) (hN : N < 5 ^ n) {q : Nat → Nat} {S row : Nat → Int32} (hS : ∀ j, j < 24 → S j = nI (q j)) (h9 : ∀ j, j < 24 → q j ≤ 9) {x1 x2 x4 : Int32} {al : Int64} {lk th : Nat → Int64} {best : Nat → Int32} {self : Int32 → Int32 → Int64 → (Nat → Int64) → (Nat → Int64) → (Nat → Int32) → (Nat → Int32) → Option (Int32 × Int32 × Int64 × (Nat → Int64) × (Nat → Int64) × (Nat → Int32) × (Nat → Int32))} :
    it5 (X7_call_S112 (nI n) S x1 x2 x4 (nI N) al lk th best self) 100000 (nI N) 0 1 (nI n - 1) row = X7_call_J212 (nI n) S x1 x2 x4 (nI N) al lk th best self (nI (ctF (r6 n N) n 0)) (if vlF q (r6 n N) n 0 = true then 1 else 0) (rowJ n N row n) := by
  have p6 : 5 ^ n ≤ 5 ^ 6 := Nat.pow_le_pow_right (by omega) hn
  have p66 : (5 : Nat) ^ 6 = 15625 := by decide
  have key := it5_run (f := X7_call_S112 (nI n) S x1 x2 x4 (nI N) al lk th best self) n (fun j => nI (N / 5 ^ j)) (fun j => nI (ctF (r6 n N) j (n - j))) (fun j => if vlF q (r6 n N) j (n - j) = true then (1 : Int32) else 0) (fun j => if j < n then nI (n - 1 - j) else -1) (fun j => rowJ n N row j) (X7_call_J212 (nI n) S x1 x2 x4 (nI N) al lk th best self (nI (ctF (r6 n N) n 0)) (if vlF q (r6 n N) n 0 = true then 1 else 0) (rowJ n N row n)) (fun j hj self2 => ?_) (fun self2 => ?_) 100000 (by omega)
  · have e0 : rowJ n N row 0 = row := by funext k; exact if_neg (by omega)
    have e1 : N / 5 ^ 0 = N := by rw [Nat.pow_zero, Nat.div_one]
    simp only [e0, e1, ← hm1 n hn] at key
    exact key
  · have ed := decn n hn j hj
    have hd : N / 5 ^ j < 2 ^ 31 := Nat.lt_of_le_of_lt (Nat.div_le_self _ _) (by omega)
    have ok6 : okx (nI (n - 1 - j)) 6 := okx_nI (by omega) (by omega)
    have dv : N / 5 ^ j / 5 = N / 5 ^ (j + 1) := by rw [Nat.div_div_eq_div_mul, ← Nat.pow_succ]
    have dgk : dg9 (r6 n N (n - 1 - j)) = N / 5 ^ j % 5 := by rw [r6_dg (by omega), show n - 1 - (n - 1 - j) = j by omega]
    have hk := r6_ok n N (n - 1 - j)
    have hst : upd (rowJ n N row j) (n - 1 - j) (nI (r6 n N (n - 1 - j))) = rowJ n N row (j + 1) := by
      funext k
      by_cases e : k = n - 1 - j
      · subst e
        rw [pk_us]
        exact (if_pos (by omega)).symm
      · rw [pk_un e]
        unfold rowJ
        exact if_iff9 (by omega)
    have ect : ctF (r6 n N) (j + 1) (n - (j + 1)) = (if r6 n N (n - 1 - j) = 9 then 0 else 1) + ctF (r6 n N) j (n - j) := by
      rw [ctF, show n - (j + 1) = n - 1 - j by omega, show n - 1 - j + 1 = n - j by omega]
    have evl : vlF q (r6 n N) (j + 1) (n - (j + 1)) = (decide (r6 n N (n - 1 - j) = 9 ∨ 0 < q (4 * (n - 1 - j) + r6 n N (n - 1 - j))) && vlF q (r6 n N) j (n - j)) := by
      rw [vlF, show n - (j + 1) = n - 1 - j by omega, show n - 1 - j + 1 = n - j by omega]
    show X7_call_S112 (nI n) S x1 x2 x4 (nI N) al lk th best self self2 (nI (N / 5 ^ j)) (nI (ctF (r6 n N) j (n - j))) (if vlF q (r6 n N) j (n - j) = true then (1 : Int32) else 0) (if j < n then nI (n - 1 - j) else -1) (rowJ n N row j) = self2 (nI (N / 5 ^ (j + 1))) (nI (ctF (r6 n N) (j + 1) (n - (j + 1)))) (if vlF q (r6 n N) (j + 1) (n - (j + 1)) = true then (1 : Int32) else 0) (if j + 1 < n then nI (n - 1 - (j + 1)) else -1) (rowJ n N row (j + 1))
    rw [if_pos hj, ← ed, ← hst, ect, evl, ← dv]
    have hk6 : n - 1 - j < 6 := by omega
    generalize n - 1 - j = k at *
    simp only [X7_call_S112, X7_call_J149, X7_call_J162, X7_call_J194, X7_call_J199, X7_call_J203, X7_call_J204, if_neg (show ¬ nI k < 0 from nI_pos (by omega)), rem5 hd, lets_def, gd_t ok6, nI_clamp (show k < 2 ^ 31 by omega), bool_i]
    simp only [div5 hd]
    generalize r6 n N k = rk at *
    rw [← dgk]
    by_cases z : rk = 9
    · have hm : nI (dg9 rk) - 1 = -1 := by rw [z]; decide
      subst z
      simp only [hm, if_neg (show ¬ (0 : Int32) ≤ -1 by decide), if_pos (show (-1 : Int32) < 0 by decide), Int32.add_zero, Nat.zero_add, if_pos, true_or, decide_true, Bool.true_and]
      by_cases v : vlF q (r6 n N) j (n - j) = true
      · simp only [if_pos v]; rfl
      · simp only [if_neg v]; rfl
    · have hk4 : rk < 4 := by
        rcases hk with g | g
        · exact absurd g z
        · exact g
      have hm : nI (dg9 rk) - 1 = nI rk := by
        unfold dg9
        rw [if_neg z]
        exact pk_sub (a := rk + 1) (b := 1) (by omega)
      have ok67 : okx (nI (4 * k + rk)) 67 := okx_nI (by omega) (by omega)
      have hq := h9 (4 * k + rk) (by omega)
      simp only [hm, if_pos (nI_pos' (show rk < 2 ^ 31 by omega)), if_neg (show ¬ nI rk < 0 from nI_pos (by omega)), nI4', gd_t ok67, nI_clamp (show 4 * k + rk < 2 ^ 31 by omega), hS (4 * k + rk) (by omega), if_neg z, q_le0 hq, Lp1]
      rw [Nat.add_comm 1]
      by_cases v : vlF q (r6 n N) j (n - j) = true
      · rw [if_pos v]
        by_cases w : q (4 * k + rk) = 0
        · simp [w, z]
        · have w2 : 0 < q (4 * k + rk) := by omega
          simp [w, w2, v]
      · simp only [Bool.not_eq_true] at v
        simp [v]
  · show X7_call_S112 (nI n) S x1 x2 x4 (nI N) al lk th best self self2 (nI (N / 5 ^ n)) (nI (ctF (r6 n N) n (n - n))) (if vlF q (r6 n N) n (n - n) = true then (1 : Int32) else 0) (if n < n then nI (n - 1 - n) else -1) (rowJ n N row n) = _
    rw [if_neg (Nat.lt_irrefl n), Nat.sub_self]
    simp only [X7_call_S112, if_pos (show (-1 : Int32) < 0 by decide)]
def Best9 (q : Nat → Nat) (a b n N : Nat) (x4 : Int32) (best : Nat → Int32) : Prop :=
  (x4 = -9 ∧ ∀ m, m < N → ¬ Gd9 q a b n m) ∨ ∃ m0, m0 < N ∧ Gd9 q a b n m0 ∧ x4 = nI (ctF (r6 n m0) n 0) ∧ (∀ k, k < 6 → best k = nI (r6 n m0 k)) ∧ ∀ m, m < N → Gd9 q a b n m → ctF (r6 n m0) n 0 ≤ ctF (r6 n m) n 0 ∧ (ctF (r6 n m) n 0 = ctF (r6 n m0) n 0 → m0 ≤ m)
theorem best_keep {q : Nat → Nat} {a b n N : Nat} (hn : n ≤ 6) {x4 : Int32} {best : Nat → Int32} (h : Best9 q a b n N x4 best) (hg : Gd9 q a b n N → ∃ m0, x4 = nI (ctF (r6 n m0) n 0) ∧ ctF (r6 n m0) n 0 ≤ ctF (r6 n N) n 0) : Best9 q a b n (N + 1) x4 best := by
  rcases h with ⟨h1, h2⟩ | ⟨m0, h1, h2, h3, h4, h5⟩
  · left
    refine ⟨h1, fun m hm g => ?_⟩
    rcases Nat.lt_or_ge m N with z | z
    · exact h2 m z g
    · rw [show m = N by omega] at g
      obtain ⟨m0, e, -⟩ := hg g
      rw [h1] at e
      exact m9_ne _ (by have := ct_le (r := r6 n m0) n 0; omega) e
  · right
    refine ⟨m0, by omega, h2, h3, h4, fun m hm g => ?_⟩
    rcases Nat.lt_or_ge m N with z | z
    · exact h5 m z g
    · have e : m = N := by omega
      subst e
      obtain ⟨m1, e1, e2⟩ := hg g
      rw [h3] at e1
      have l0 := ct_le (r := r6 n m0) n 0
      have l1 := ct_le (r := r6 n m1) n 0
      refine ⟨?_, fun _ => by omega⟩
      have := (nI_eq (by omega) (by omega)).mp e1
      omega
