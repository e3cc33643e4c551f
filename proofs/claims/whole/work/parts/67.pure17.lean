/-! the reference's table of years -/
def cnY (Y : Nat → Int32) (f n s : Nat) : Int32 := cntB (fun h => (hvP (fun t => Y (f + 4 * h + t)) 4).1) (nI s) n
def gS9 (mem : Int32) (Y : Nat → Int32) (f n s h : Nat) : Nat → Int32 := fun i => if f + 24 ≤ i ∧ ((i % 4 < s ∧ i < f + 24 + 4 * n) ∨ (i % 4 = s ∧ i < f + 24 + 4 * h)) then wtF mem (cnY Y f n (i % 4)) (Y (i - 24)) else Y i
theorem gS9_lo {mem : Int32} {Y : Nat → Int32} {f n s h i : Nat} (hi : i < f + 24) : gS9 mem Y f n s h i = Y i := if_neg (by omega)
theorem goesBy_eq {n y : Nat} (hn : n ≤ 6) (hy : y < 200) {la S Y : Nat → Int32} : fX7_goesBy (nI n) la S Y (nI (24 * y)) (nI (24 * (y + 1))) = some (gS9 (la 2) Y (24 * y) n 4 0) := by
  unfold fX7_goesBy
  refine it2_go 4 (fun i => nI i) (fun i => gS9 (la 2) Y (24 * y) n i 0) _ rfl ?_ (fun s hs self => ?_) (fun self => ?_) 100000 (by decide)
  · funext i
    exact (if_neg (by omega)).symm
  · simp only [X7_goesBy_S2, if_neg (show ¬ (4 : Int32) ≤ nI s from nI_ge (a := s) (b := 4) hs (by omega))]
    refine it2_go n (fun h => cntB (fun h => (hvP (fun t => Y (24 * y + 4 * h + t)) 4).1) (nI s) h) (fun h => nI h) _ rfl rfl (fun h hh self2 => ?_) (fun self2 => ?_) 100000 (by omega)
    · have eg : fX7_greatest S (gS9 (la 2) Y (24 * y) n s 0) (nI (24 * y + 4 * h)) 0 = some (hvP (fun t => Y (24 * y + 4 * h + t)) 4).1 := by
        rw [greatYear_eq (by omega), hvP_cg (fun t ht => gS9_lo (by omega))]
      simp only [X7_goesBy_S13, X7_goesBy_J44, if_neg (nI_ge (a := h) (b := n) hh (by omega)), L4m, nI_add, eg, some_bind9, lets_def, Lp1]
      unfold cntB
      rw [sumI]
      by_cases hc : (hvP (fun t => Y (24 * y + 4 * h + t)) 4).1 = nI s
      · rw [if_pos hc, if_pos hc]
      · rw [if_neg hc, if_neg hc]
    · simp only [X7_goesBy_S13, X7_goesBy_J53, if_pos (nI_le (Nat.le_refl n) (show n < 2 ^ 31 by omega))]
      refine it2_go n (fun h => nI h) (fun h => gS9 (la 2) Y (24 * y) n s h) _ rfl rfl (fun h hh self3 => ?_) (fun self3 => ?_) 100000 (by omega)
      · have ok : okx (nI (24 * y + 4 * h + s)) 4824 := okx_nI (by omega) (by omega)
        have ok2 : okx (nI (24 * (y + 1) + 4 * h + s)) 4824 := okx_nI (by omega) (by omega)
        simp only [X7_goesBy_S56, if_neg (nI_ge (a := h) (b := n) hh (by omega)), L4m, nI_add, gd_t ok, gd_t ok2, nI_clamp (show 24 * y + 4 * h + s < 2 ^ 31 by omega), nI_clamp (show 24 * (y + 1) + 4 * h + s < 2 ^ 31 by omega), weightThen_eq, some_bind9, lets_def, Lp1]
        congr 1
        rw [gS9_lo (show 24 * y + 4 * h + s < 24 * y + 24 by omega)]
        funext i
        by_cases e : i = 24 * (y + 1) + 4 * h + s
        · subst e
          rw [pk_us]
          unfold gS9
          rw [if_pos (show 24 * y + 24 ≤ 24 * (y + 1) + 4 * h + s ∧ (((24 * (y + 1) + 4 * h + s) % 4 < s ∧ 24 * (y + 1) + 4 * h + s < 24 * y + 24 + 4 * n) ∨ ((24 * (y + 1) + 4 * h + s) % 4 = s ∧ 24 * (y + 1) + 4 * h + s < 24 * y + 24 + 4 * (h + 1))) by omega)]
          rw [show (24 * (y + 1) + 4 * h + s) % 4 = s by omega, show 24 * (y + 1) + 4 * h + s - 24 = 24 * y + 4 * h + s by omega]
          rfl
        · rw [pk_un e]
          unfold gS9
          exact if_iff9 (by omega)
      · simp only [X7_goesBy_S56, X7_goesBy_J103, if_pos (nI_le (Nat.le_refl n) (show n < 2 ^ 31 by omega)), lets_def, Lp1]
        congr 1
        funext i
        unfold gS9
        exact if_iff9 (by omega)
  · simp only [X7_goesBy_S2, if_pos (show (4 : Int32) ≤ nI 4 by decide)]
theorem years_fill {n m : Nat} (hn : n ≤ 6) (hm : m ≤ 9) {la S V : Nat → Int32} {x1 : Int32} (el : la 2 = nI m) (hok : ∀ y, (∀ j, j < 24 → ∃ k, k ≤ 9 ∧ wyV (nI m) V y j = nI k) ∧ (∀ j, 4 * n ≤ j → j < 24 → wyV (nI m) V y j = 0)) :
    ∀ (d y f : Nat) (Y : Nat → Int32), y + d = 201 → 1 ≤ y → d < f → (∀ y', y' < y → ∀ j, j < 4 * n → Y (24 * y' + j) = wyV (nI m) V y' j) → ∃ Y', it2 (X7_swings_S44 (nI n) la S x1) f (nI y) Y = X7_swings_J71 (nI n) x1 Y' ∧ ∀ y', y' ≤ 200 → ∀ j, j < 4 * n → Y' (24 * y' + j) = wyV (nI m) V y' j
  | 0, y, f, Y, hd, h1, hf, hY => by
    obtain ⟨f, rfl⟩ : ∃ k, f = k + 1 := ⟨f - 1, by omega⟩
    have e : y = 201 := by omega
    subst e
    refine ⟨Y, ?_, fun y' hy' => hY y' (by omega)⟩
    show X7_swings_S44 (nI n) la S x1 (it2 (X7_swings_S44 (nI n) la S x1) f) (nI 201) Y = _
    simp only [X7_swings_S44, if_pos (show (201 : Int32) ≤ nI 201 by decide)]
  | d + 1, y, f, Y, hd, h1, hf, hY => by
    obtain ⟨f, rfl⟩ : ∃ k, f = k + 1 := ⟨f - 1, by omega⟩
    have e1 : nI y - 1 = nI (y - 1) := pk_sub (a := y) (b := 1) h1
    have e2 : (24 : Int32) * nI (y - 1) = nI (24 * (y - 1)) := pk_mul 24 (y - 1)
    have e3 : (24 : Int32) * nI y = nI (24 * (y - 1 + 1)) := by rw [show y - 1 + 1 = y by omega]; exact pk_mul 24 y
    have eg := goesBy_eq (n := n) (y := y - 1) hn (by omega) (la := la) (S := S) (Y := Y)
    obtain ⟨i1, i2⟩ := hok (y - 1)
    obtain ⟨Y', q1, q2⟩ := years_fill hn hm (S := S) (x1 := x1) el hok d (y + 1) f (gS9 (la 2) Y (24 * (y - 1)) n 4 0) (by omega) (by omega) (by omega) (fun y' hy' j hj => by
      rcases Nat.lt_or_ge y' y with q | q
      · rw [gS9_lo (by omega)]
        exact hY y' q j hj
      · have ey : y' = y - 1 + 1 := by omega
        have hp : ∀ j, j < 4 * n → Y (24 * (y - 1) + j) = wyV (nI m) V (y - 1) j := hY (y - 1) (by omega)
        obtain ⟨k, hk, ek⟩ := i1 j (by omega)
        have ec : cnY Y (24 * (y - 1)) n (j % 4) = bcn (wyV (nI m) V (y - 1)) (j % 4) := by
          unfold cnY bcn cntB
          rw [sumI_tail (n := n) (m := 6) hn (fun h g1 g2 => by
            have : hvs (wyV (nI m) V (y - 1)) h = -9 := by
              unfold hvs
              rw [hv_0 (fun t ht => i2 (4 * h + t) (by omega) (by omega))]
            rw [this, if_neg (m9_ne (j % 4) (by omega))])]
          refine sumI_congr (fun h hh => ?_)
          have : (hvP (fun t => Y (24 * (y - 1) + 4 * h + t)) 4).1 = hvs (wyV (nI m) V (y - 1)) h := by
            unfold hvs
            exact congrArg Prod.fst (hvP_cg (fun t ht => by
              have := hp (4 * h + t) (by omega)
              rw [← Nat.add_assoc] at this
              exact this))
          show (if (hvP (fun t => Y (24 * (y - 1) + 4 * h + t)) 4).1 = nI (j % 4) then (1 : Int32) else 0) = _
          rw [this]
        rw [ey]
        show gS9 (la 2) Y (24 * (y - 1)) n 4 0 (24 * (y - 1 + 1) + j) = gyV (nI m) (wyV (nI m) V (y - 1)) j
        unfold gS9 gyV yW
        rw [if_pos (show 24 * (y - 1) + 24 ≤ 24 * (y - 1 + 1) + j ∧ (((24 * (y - 1 + 1) + j) % 4 < 4 ∧ 24 * (y - 1 + 1) + j < 24 * (y - 1) + 24 + 4 * n) ∨ ((24 * (y - 1 + 1) + j) % 4 = 4 ∧ 24 * (y - 1 + 1) + j < 24 * (y - 1) + 24 + 4 * 0)) by omega), if_pos (show j % 4 < 4 ∧ j < 24 by omega)]
        rw [show (24 * (y - 1 + 1) + j) % 4 = j % 4 by omega, show 24 * (y - 1 + 1) + j - 24 = 24 * (y - 1) + j by omega, ec, hp j hj, ek, el]
        exact (nw_wt hk hm _).1.symm)
    refine ⟨Y', ?_, q2⟩
    show X7_swings_S44 (nI n) la S x1 (it2 (X7_swings_S44 (nI n) la S x1) f) (nI y) Y = _
    simp only [X7_swings_S44, if_neg (show ¬ (201 : Int32) ≤ nI y from nI_ge (a := y) (b := 201) (by omega) (by omega)), e1, e2, e3, eg, some_bind9, lets_def, Lp1]
    exact q1
theorem alike_eq {n a b : Nat} (hn : n ≤ 6) (ha : a ≤ 200) (hb : b ≤ 200) {Y : Nat → Int32} : fX7_areAlike (nI n) Y (nI a) (nI b) = some (if allN (fun k => decide (Y (24 * a + k) = Y (24 * b + k))) (4 * n) = true then 1 else 0) := by
  unfold fX7_areAlike
  refine it2_go (4 * n) (fun i => if allN (fun k => decide (Y (24 * a + k) = Y (24 * b + k))) i = true then (1 : Int32) else 0) (fun i => nI i) _ rfl rfl (fun i hi self => ?_) (fun self => ?_) 100000 (by omega)
  · have ok : okx (nI (24 * a + i)) 4824 := okx_nI (by omega) (by omega)
    have ok2 : okx (nI (24 * b + i)) 4824 := okx_nI (by omega) (by omega)
    have e1 : (24 : Int32) * nI a + nI i = nI (24 * a + i) := by
      have : (24 : Int32) * nI a = nI (24 * a) := pk_mul 24 a
      rw [this, nI_add]
    have e2 : (24 : Int32) * nI b + nI i = nI (24 * b + i) := by
      have : (24 : Int32) * nI b = nI (24 * b) := pk_mul 24 b
      rw [this, nI_add]
    have st : allN (fun k => decide (Y (24 * a + k) = Y (24 * b + k))) (i + 1) = (allN (fun k => decide (Y (24 * a + k) = Y (24 * b + k))) i && decide (Y (24 * a + i) = Y (24 * b + i))) := rfl
    simp only [X7_areAlike_S5, X7_areAlike_J51, X7_areAlike_J52, L4m, if_neg (nI_ge (a := i) (b := 4 * n) hi (by omega)), e1, e2, gd_t ok, gd_t ok2, nI_clamp (show 24 * a + i < 2 ^ 31 by omega), nI_clamp (show 24 * b + i < 2 ^ 31 by omega), lets_def, Lp1, bool_i]
    rw [st]
    by_cases h1 : allN (fun k => decide (Y (24 * a + k) = Y (24 * b + k))) i = true
    · by_cases h2 : Y (24 * a + i) = Y (24 * b + i)
      · simp [h1, h2]
      · simp [h1, h2]
    · simp only [Bool.not_eq_true] at h1
      simp [h1]
  · have hB : isB (if allN (fun k => decide (Y (24 * a + k) = Y (24 * b + k))) (4 * n) = true then (1 : Int32) else 0) := by
      cases allN (fun k => decide (Y (24 * a + k) = Y (24 * b + k))) (4 * n)
      · exact Or.inl rfl
      · exact Or.inr rfl
    simp only [X7_areAlike_S5, L4m, if_pos (nI_le (Nat.le_refl (4 * n)) (show 4 * n < 2 ^ 31 by omega)), gd_t hB]
theorem alike_iff {n m : Nat} (hn : n ≤ 6) {V Y : Nat → Int32} (hok : ∀ y, ∀ j, 4 * n ≤ j → j < 24 → wyV (nI m) V y j = 0) (hY : ∀ y', y' ≤ 200 → ∀ j, j < 4 * n → Y (24 * y' + j) = wyV (nI m) V y' j) {a b : Nat} (ha : a ≤ 200) (hb : b ≤ 200) :
    (same24 (wyV (nI m) V a) (wyV (nI m) V b) → fX7_areAlike (nI n) Y (nI a) (nI b) = some 1) ∧ (¬ same24 (wyV (nI m) V a) (wyV (nI m) V b) → fX7_areAlike (nI n) Y (nI a) (nI b) = some 0) := by
  rw [alike_eq hn ha hb]
  constructor
  · intro h
    have : allN (fun k => decide (Y (24 * a + k) = Y (24 * b + k))) (4 * n) = true := by
      cases hq : allN (fun k => decide (Y (24 * a + k) = Y (24 * b + k))) (4 * n) with
      | true => rfl
      | false =>
        obtain ⟨k, h1, h2, -⟩ := allN_f hq
        rw [hY a ha k h1, hY b hb k h1, h k (by omega)] at h2
        simp at h2
    rw [if_pos this]
  · intro h
    rw [if_neg (fun hq => h (fun j hj => ?_))]
    rcases Nat.lt_or_ge j (4 * n) with q | q
    · have := allN_t hq j q
      simp only [decide_eq_true_eq] at this
      rw [← hY a ha j q, ← hY b hb j q]; exact this
    · rw [hok a j q hj, hok b j q hj]
theorem rho9 {mem : Int32} {V : Nat → Int32} {b Y : Nat} (hb : b < Y) (hs : same24 (wyV mem V b) (wyV mem V Y)) : ∀ d, ∃ k, b ≤ k ∧ k < Y ∧ same24 (wyV mem V (b + d)) (wyV mem V k)
  | 0 => ⟨b, Nat.le_refl b, hb, fun _ _ => rfl⟩
  | d + 1 => by
    obtain ⟨k, h1, h2, h3⟩ := rho9 hb hs d
    have h4 : same24 (wyV mem V (b + (d + 1))) (wyV mem V (k + 1)) := gy_cg h3
    rcases Nat.lt_or_ge (k + 1) Y with q | q
    · exact ⟨k + 1, by omega, q, h4⟩
    · have e : k + 1 = Y := by omega
      rw [e] at h4
      exact ⟨b, Nat.le_refl b, hb, fun j hj => (h4 j hj).trans (hs j hj).symm⟩
theorem rho_none {mem : Int32} {V : Nat → Int32} {b Y : Nat} (hb : b < Y) (hs : same24 (wyV mem V b) (wyV mem V Y)) (hno : ∀ y, y < Y → ∀ i, i < y → ¬ same24 (wyV mem V i) (wyV mem V y)) {i j : Nat} (hi : i < b) (hj : i < j) : ¬ same24 (wyV mem V i) (wyV mem V j) := fun h => by
  rcases Nat.lt_or_ge j Y with q | q
  · exact hno j q i hj h
  · obtain ⟨k, h1, h2, h3⟩ := rho9 hb hs (j - b)
    rw [show b + (j - b) = j by omega] at h3
    exact hno k h2 i (by omega) (fun t ht => (h t ht).trans (h3 t ht))
theorem inner_no {n m : Nat} (hn : n ≤ 6) {V Y : Nat → Int32} (hok : ∀ y, ∀ j, 4 * n ≤ j → j < 24 → wyV (nI m) V y j = 0) (hY : ∀ y', y' ≤ 200 → ∀ j, j < 4 * n → Y (24 * y' + j) = wyV (nI m) V y' j) {i : Nat} (hi : i < 200) (h : ∀ j, i < j → j ≤ 200 → ¬ same24 (wyV (nI m) V i) (wyV (nI m) V j)) {x1 : Int32} {self : Int32 → Option (Int32 × Int32 × (Nat → Int32))} : it1 (X7_swings_S84 (nI n) x1 Y (nI i) self) 100000 (nI (i + 1)) = self (nI (i + 1)) := by
  refine it1_go (200 - i) (fun k => nI (i + 1 + k)) _ rfl (fun k hk self2 => ?_) (fun self2 => ?_) 100000 (by omega)
  · have g := (alike_iff hn hok hY (a := i) (b := i + 1 + k) (by omega) (by omega)).2 (h _ (by omega) (by omega))
    simp only [X7_swings_S84, if_neg (show ¬ (201 : Int32) ≤ nI (i + 1 + k) from nI_ge (a := i + 1 + k) (b := 201) (by omega) (by omega)), g, some_bind9, if_pos, lets_def, Lp1]
    rfl
  · have e : i + 1 + (200 - i) = 201 := by omega
    simp only [X7_swings_S84, X7_swings_J118, e, if_pos (show (201 : Int32) ≤ nI 201 by decide), lets_def, Lp1]
theorem inner_yes {n m : Nat} (hn : n ≤ 6) {V Y : Nat → Int32} (hok : ∀ y, ∀ j, 4 * n ≤ j → j < 24 → wyV (nI m) V y j = 0) (hY : ∀ y', y' ≤ 200 → ∀ j, j < 4 * n → Y (24 * y' + j) = wyV (nI m) V y' j) {b Z : Nat} (hb : b < Z) (hZ : Z ≤ 200) (hs : same24 (wyV (nI m) V b) (wyV (nI m) V Z)) (hno : ∀ y, y < Z → ∀ i, i < y → ¬ same24 (wyV (nI m) V i) (wyV (nI m) V y)) {x1 : Int32} {self : Int32 → Option (Int32 × Int32 × (Nat → Int32))} : it1 (X7_swings_S84 (nI n) x1 Y (nI b) self) 100000 (nI (b + 1)) = X7_swings_J100 x1 Y (nI b) (nI Z) := by
  refine it1_go (Z - (b + 1)) (fun k => nI (b + 1 + k)) _ rfl (fun k hk self2 => ?_) (fun self2 => ?_) 100000 (by omega)
  · have g := (alike_iff hn hok hY (a := b) (b := b + 1 + k) (by omega) (by omega)).2 (hno _ (by omega) b (by omega))
    simp only [X7_swings_S84, if_neg (show ¬ (201 : Int32) ≤ nI (b + 1 + k) from nI_ge (a := b + 1 + k) (b := 201) (by omega) (by omega)), g, some_bind9, if_pos, lets_def, Lp1]
    rfl
  · have e : b + 1 + (Z - (b + 1)) = Z := by omega
    have g := (alike_iff hn hok hY (a := b) (b := Z) (by omega) (by omega)).1 hs
    simp only [X7_swings_S84, e, if_neg (show ¬ (201 : Int32) ≤ nI Z from nI_ge (a := Z) (b := 201) (by omega) (by omega)), g, some_bind9, if_neg one_ne]
theorem search_yes {n m : Nat} (hn : n ≤ 6) {V Y : Nat → Int32} (hok : ∀ y, ∀ j, 4 * n ≤ j → j < 24 → wyV (nI m) V y j = 0) (hY : ∀ y', y' ≤ 200 → ∀ j, j < 4 * n → Y (24 * y' + j) = wyV (nI m) V y' j) {b Z : Nat} (hb : b < Z) (hZ : Z ≤ 200) (hs : same24 (wyV (nI m) V b) (wyV (nI m) V Z)) (hno : ∀ y, y < Z → ∀ i, i < y → ¬ same24 (wyV (nI m) V i) (wyV (nI m) V y)) {x1 : Int32} : X7_swings_J71 (nI n) x1 Y = X7_swings_J100 x1 Y (nI b) (nI Z) := by
  unfold X7_swings_J71
  refine it1_go b (fun i => nI i) _ rfl (fun i hi self => ?_) (fun self => ?_) 100000 (by omega)
  · simp only [X7_swings_S73, if_neg (show ¬ (200 : Int32) ≤ nI i from nI_ge (a := i) (b := 200) (by omega) (by omega)), lets_def, Lp1]
    exact inner_no hn hok hY (by omega) (fun j h1 h2 => rho_none hb hs hno hi h1)
  · simp only [X7_swings_S73, if_neg (show ¬ (200 : Int32) ≤ nI b from nI_ge (a := b) (b := 200) (by omega) (by omega)), lets_def, Lp1]
    exact inner_yes hn hok hY hb hZ hs hno
theorem search_no {n m : Nat} (hn : n ≤ 6) {V Y : Nat → Int32} (hok : ∀ y, ∀ j, 4 * n ≤ j → j < 24 → wyV (nI m) V y j = 0) (hY : ∀ y', y' ≤ 200 → ∀ j, j < 4 * n → Y (24 * y' + j) = wyV (nI m) V y' j) (hno : ∀ y, y ≤ 200 → ∀ i, i < y → ¬ same24 (wyV (nI m) V i) (wyV (nI m) V y)) {x1 : Int32} : X7_swings_J71 (nI n) x1 Y = some (-9, 0, Y) := by
  unfold X7_swings_J71
  refine it1_go 200 (fun i => nI i) _ rfl (fun i hi self => ?_) (fun self => ?_) 100000 (by omega)
  · simp only [X7_swings_S73, if_neg (show ¬ (200 : Int32) ≤ nI i from nI_ge (a := i) (b := 200) (by omega) (by omega)), lets_def, Lp1]
    exact inner_no hn hok hY (by omega) (fun j h1 h2 => hno j h2 i h1)
  · simp only [X7_swings_S73, if_pos (show (200 : Int32) ≤ nI 200 by decide)]
theorem swM_eq {n : Nat} {la S Y : Nat → Int32} {x1 : Int32} : it2 (X7_swings_S18 (nI n) la S x1) 100000 0 Y = X7_swings_J42 (nI n) la S x1 (fa_fill S Y 24) := by
  refine it2_go 24 (fun i => nI i) (fun i => fa_fill S Y i) _ rfl (fa_fill_0 _ _).symm (fun i hi self => ?_) (fun self => ?_) 100000 (by decide)
  · have ok : okx (nI i) 67 := okx_nI (by omega) (by omega)
    have ok2 : okx (nI i) 4824 := okx_nI (by omega) (by omega)
    simp only [X7_swings_S18, if_neg (show ¬ (24 : Int32) ≤ nI i from nI_ge (a := i) (b := 24) hi (by omega)), gd_t ok, gd_t ok2, nI_clamp (show i < 2 ^ 31 by omega), lets_def, Lp1]
    rw [← fa_fill_succ]
  · simp only [X7_swings_S18, if_pos (show (24 : Int32) ≤ nI 24 by decide)]
theorem sim_swings : SimOp_swings Alike9 := by
  unfold SimOp_swings
  intro z_text_length z_text_bytes z_village_houses z_village_law z_village_pride z_village_memory z_village_eats z_village_barred z_now_eaten z_now_year z_now_lot z_now_weights_cells z_now_brought z_now_left z_now_spoons z_now_health z_firstImage_eaten z_firstImage_year z_firstImage_lot z_firstImage_weights_cells z_firstImage_brought z_firstImage_left z_firstImage_spoons z_firstImage_health z_secondImage_eaten z_secondImage_year z_secondImage_lot z_secondImage_weights_cells z_secondImage_brought z_secondImage_left z_secondImage_spoons z_secondImage_health z_keptImages z_asked zb_trace zb_text zb_typed zb_eats zb_barred zb_laws zb_houses zb_s zb_kept zb_isKept z_years_first z_years_later z_years_weights_cells z_years_early z_years_late z_years_bringers zb_years x1 hs9
  obtain ⟨n, hn, hT, hV, hN, hK, hA⟩ := hs9
  obtain ⟨rfl, rfl, -, -, ⟨rfl, m, hm, v5⟩, v6, v7, v8, v9⟩ := id hV
  obtain ⟨a1, a2, a3, a4, a5, a6, a7, a8, a9, b1, b2, b3, b4, b5⟩ := id hN
  rcases half_cases x1 with ⟨hh, hx, hm1⟩ | ⟨h0, h1, hx, hm1⟩
  · obtain ⟨V, hVd⟩ : ∃ V, va_cpy z_now_weights_cells z_years_weights_cells 0 0 24 = V := ⟨_, rfl⟩
    have hVS : ∀ j, j < 24 → V j = zb_s j := fun j hj => by rw [← hVd, cpy0_in hj]; exact a1 j hj
    have hok := wy_ok hm (n := n) (V := V) (fun j hj => by rw [hVS j hj]; exact a2 j hj) (fun j g hj => by rw [hVS j hj]; exact a3 j g hj)
    have hok1 := fun y => (hok y).1
    have hok2 := fun y => (hok y).2
    obtain ⟨Y', q1, q2⟩ := years_fill hn hm (la := zb_laws) (S := zb_s) (V := V) (x1 := x1) v5 hok 200 1 100000 (fa_fill zb_s zb_years 24) (by omega) (by omega) (by omega) (fun y' hy' j hj => by
      have e : y' = 0 := by omega
      subst e
      rw [fa_fill_in (by omega), Nat.mul_zero, Nat.zero_add]
      exact (hVS j (by omega)).symm)
    have eM : fX7_swings (nI n) zb_laws zb_s zb_years x1 = X7_swings_J71 (nI n) x1 Y' := by
      unfold fX7_swings
      rw [hm1, some_bind9, if_neg one_ne, swM_eq]
      exact q1
    have eC : fX5_comeRound z_years_first z_years_later z_years_weights_cells z_years_early z_years_late z_years_bringers z_now_weights_cells (zb_laws 2) = it6 (X5_comeRound_S10 z_years_later (nI m)) 100000 (nI 0) z_years_first (wyV (nI m) V 0) z_years_early z_years_late z_years_bringers := by
      unfold fX5_comeRound fX4_copyFrom
      rw [lets_def, some_bind9, hVd, v5]
      rfl
    by_cases hA9 : ∃ y, y < 201 ∧ ∃ b, b < y ∧ same24 (wyV (nI m) V b) (wyV (nI m) V y)
    · obtain ⟨Z, hZ, ⟨b, hb, hs⟩, hno⟩ := @fb_first (fun y => ∃ b, b < y ∧ same24 (wyV (nI m) V b) (wyV (nI m) V y)) (fun _ => Classical.propDecidable _) 201 hA9
      have hno2 : ∀ y, y < Z → ∀ i, i < y → ¬ same24 (wyV (nI m) V i) (wyV (nI m) V y) := fun y hy i hi h => hno y hy ⟨i, hi, h⟩
      obtain ⟨c1, c2, c3, c4, ec⟩ := come_yes hok1 (by omega) hb hs hno2 (la := z_years_later) Z 0 100000 z_years_first z_years_early z_years_late z_years_bringers (by omega) (by omega) (fun i hi => absurd hi (by omega)) (fun i hi => absurd hi (by omega))
      rw [search_yes hn hok2 q2 hb (by omega) hs hno2] at eM
      by_cases z : x1 = 0
      · refine ⟨(nI b, nI b, nI (Z - b), c1, c2, c3, c4), (nI b, 0, Y'), ?_, ?_, rfl, al_of n hn hT hV hN hK hA⟩
        · unfold fX6_swings
          rw [hx, some_bind9, if_neg one_ne, eC, ec, some_bind9]
          simp only [if_neg one_ne, if_pos z]
        · rw [eM]
          simp only [X7_swings_J100, if_pos z]
      · refine ⟨(nI (Z - b), nI b, nI (Z - b), c1, c2, c3, c4), (nI (Z - b), 0, Y'), ?_, ?_, rfl, al_of n hn hT hV hN hK hA⟩
        · unfold fX6_swings
          rw [hx, some_bind9, if_neg one_ne, eC, ec, some_bind9]
          simp only [if_neg one_ne, if_neg z]
        · rw [eM]
          simp only [X7_swings_J100, if_neg z, pk_sub (show b ≤ Z by omega)]
    · have hno2 : ∀ y, y ≤ 200 → ∀ i, i < y → ¬ same24 (wyV (nI m) V i) (wyV (nI m) V y) := fun y hy i hi h => hA9 ⟨y, by omega, i, hi, h⟩
      obtain ⟨c0, c1, c2, c3, c4, c5, ec⟩ := come_no hok1 hno2 (la := z_years_later) 201 0 100000 z_years_first z_years_early z_years_late z_years_bringers (by omega) (by omega) (fun i hi => absurd hi (by omega)) (fun i hi => absurd hi (by omega))
      rw [search_no hn hok2 q2 hno2] at eM
      refine ⟨(-9, c0, c5, c1, c2, c3, c4), (-9, 0, Y'), ?_, eM, rfl, al_of n hn hT hV hN hK hA⟩
      unfold fX6_swings
      rw [hx, some_bind9, if_neg one_ne, eC, ec, some_bind9]
      simp only [if_true]
  · refine ⟨(-1, z_years_first, z_years_later, z_years_weights_cells, z_years_early, z_years_late, z_years_bringers), (-1, 0, zb_years), ?_, ?_, rfl, al_of n hn hT hV hN hK hA⟩
    · simp only [fX6_swings, hx, some_bind9, if_true]
    · simp only [fX7_swings, hm1, some_bind9, if_true]
