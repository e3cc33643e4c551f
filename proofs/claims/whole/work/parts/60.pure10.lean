theorem if_iff9 {α : Type} {c d : Prop} [Decidable c] [Decidable d] (h : c ↔ d) {a b : α} : (if c then a else b) = (if d then a else b) := by
  by_cases q : c
  · rw [if_pos q, if_pos (h.mp q)]
  · rw [if_neg q, if_neg (fun e => q (h.mpr e))]
/-- the weights when the first t sorts have passed -/
def yW (mem : Int32) (cn : Nat → Int32) (w : Nat → Int32) (t : Nat) : Nat → Int32 := fun j => if j % 4 < t ∧ j < 24 then nwF (chF mem (cn (j % 4))) (w j) else w j
theorem yW_step {mem : Int32} {cn w : Nat → Int32} {t : Nat} : passS (yW mem cn w t) t (chF mem (cn t)) 6 = yW mem cn w (t + 1) := by
  funext j
  simp only [passS, yW]
  by_cases h1 : j % 4 = t ∧ j / 4 < 6
  · have h2 : ¬ (j % 4 < t ∧ j < 24) := by omega
    have h3 : j % 4 < t + 1 ∧ j < 24 := by omega
    rw [if_pos h1, if_neg h2, if_pos h3, h1.1]
  · rw [if_neg h1]
    exact if_iff9 (by omega)
theorem yearX_eq {mem ye : Int32} {w br le sp he : Nat → Int32} : fX6_year mem ye w br le sp he = some (ye + 1, 0, ye + 1, yW mem (fun s => cntB br (nI s) 6) w 4, fillI br (-9) 6, fillI le 0 4, fillI sp 0 24, fillI he 0 6) := by
  unfold fX6_year
  refine it2_go 4 (fun i => nI i) (fun i => yW mem (fun s => cntB br (nI s) 6) w i) _ rfl ?_ (fun i hi self => ?_) (fun self => ?_) 100000 (by decide)
  · funext j; simp only [yW, if_neg (show ¬ (j % 4 < 0 ∧ j < 24) by omega)]
  · simp only [X6_year_S2, if_neg (show ¬ (4 : Int32) ≤ nI i from nI_ge (a := i) (b := 4) hi (by omega)), bringersOf_eq, some_bind9, pass_eq hi, lets_def, Lp1]
    rw [← yW_step]
  · simp only [X6_year_S2, X6_year_J39, if_pos (show (4 : Int32) ≤ nI 4 by decide), clearTable_eq, some_bind9, lets_def]
def yS (mem : Int32) (cn : Nat → Int32) (n : Nat) (S : Nat → Int32) (t h : Nat) : Nat → Int32 := fun j => if (j % 4 < t ∧ j < 4 * n) ∨ (j % 4 = t ∧ j < 4 * h) then wtF mem (cn (j % 4)) (S j) else S j
theorem yearM_eq {n : Nat} (hn : n ≤ 6) {la S : Nat → Int32} : fX7_year (nI n) la S = X7_year_J65 (yS (la 2) (fun s => cntB (fun h => S (24 + h)) (nI s) n) n S 4 0) := by
  unfold fX7_year
  refine it2_go 4 (fun i => nI i) (fun i => yS (la 2) (fun s => cntB (fun h => S (24 + h)) (nI s) n) n S i 0) _ rfl ?_ (fun t ht self => ?_) (fun self => ?_) 100000 (by decide)
  · funext j; simp only [yS, if_neg (show ¬ ((j % 4 < 0 ∧ j < 4 * n) ∨ (j % 4 = 0 ∧ j < 4 * 0)) by omega)]
  · have ec : cntB (fun h => yS (la 2) (fun s => cntB (fun h => S (24 + h)) (nI s) n) n S t 0 (24 + h)) (nI t) n = cntB (fun h => S (24 + h)) (nI t) n := by
      unfold cntB
      refine sumI_congr (fun i hi => ?_)
      simp only [yS, if_neg (show ¬ (((24 + i) % 4 < t ∧ 24 + i < 4 * n) ∨ ((24 + i) % 4 = t ∧ 24 + i < 4 * 0)) by omega)]
    simp only [X7_year_S7, if_neg (show ¬ (4 : Int32) ≤ nI t from nI_ge (a := t) (b := 4) ht (by omega)), broughtBy_eq hn, some_bind9, ec]
    refine it2_go n (fun h => nI h) (fun h => yS (la 2) (fun s => cntB (fun h => S (24 + h)) (nI s) n) n S t h) _ rfl rfl (fun h hh self2 => ?_) (fun self2 => ?_) 100000 (by omega)
    · have ok : okx (nI (4 * h + t)) 67 := okx_nI (by omega) (by omega)
      have e0 : yS (la 2) (fun s => cntB (fun h => S (24 + h)) (nI s) n) n S t h (4 * h + t) = S (4 * h + t) := by simp only [yS, if_neg (show ¬ (((4 * h + t) % 4 < t ∧ 4 * h + t < 4 * n) ∨ ((4 * h + t) % 4 = t ∧ 4 * h + t < 4 * h)) by omega)]
      simp only [X7_year_S20, if_neg (nI_ge (a := h) (b := n) hh (by omega)), nI4', gd_t ok, nI_clamp (show 4 * h + t < 2 ^ 31 by omega), weightThen_eq, some_bind9, lets_def, Lp1, e0]
      congr 1
      funext j
      by_cases e : j = 4 * h + t
      · subst e
        rw [pk_us]
        simp only [yS, if_pos (show ((4 * h + t) % 4 < t ∧ 4 * h + t < 4 * n) ∨ ((4 * h + t) % 4 = t ∧ 4 * h + t < 4 * (h + 1)) by omega)]
        rw [show (4 * h + t) % 4 = t by omega]
      · rw [pk_un e]
        simp only [yS]
        exact if_iff9 (by omega)
    · simp only [X7_year_S20, X7_year_J59, if_pos (nI_le (Nat.le_refl n) (show n < 2 ^ 31 by omega)), lets_def, Lp1]
      congr 1
      funext j
      simp only [yS]
      exact if_iff9 (by omega)
  · simp only [X7_year_S7, if_pos (show (4 : Int32) ≤ nI 4 by decide)]
theorem now_year {n : Nat} (hn : n ≤ 6) {ye lo : Int32} {wc' br' le' sp' he' S' : Nat → Int32}
    (hw : ∀ i, i < 24 → wc' i = S' i) (hw9 : ∀ i, i < 24 → ∃ k, k ≤ 9 ∧ S' i = nI k) (hw0 : ∀ i, 4 * n ≤ i → i < 24 → S' i = 0)
    (hc : ∀ i, 24 ≤ i → i < 65 → S' i = if i < 30 then -9 else 0) (h2 : ∀ i, i < 6 → br' i = -9) (h3 : ∀ i, i < 4 → le' i = 0) (h4 : ∀ i, i < 24 → sp' i = 0) (h5 : ∀ i, i < 6 → he' i = 0) (hl : lo = S' 66) (hy : ye = S' 65) : NowOk n 0 ye lo wc' br' le' sp' he' S' := by
  have g : ∀ i, 30 ≤ i → i < 65 → S' i = 0 := fun i a b => by rw [hc i (by omega) b, if_neg (by omega)]
  have g2 : ∀ i, 24 ≤ i → i < 30 → S' i = -9 := fun i a b => by rw [hc i (by omega) (by omega), if_pos b]
  refine ⟨hw, hw9, hw0, fun i hi => ?_, fun i hi => Or.inl (g2 _ (by omega) (by omega)), fun i g1 hi => g2 _ (by omega) (by omega), fun i hi => ?_, fun i hi => ?_, fun i g1 hi => g _ (by omega) (by omega), fun i hi => Or.inl ⟨h5 i hi, g _ (by omega) (by omega)⟩, fun i g1 hi => g _ (by omega) (by omega), ⟨(g 58 (by omega) (by omega)).symm, Or.inl (g 58 (by omega) (by omega))⟩, hy, hl⟩
  · rw [h2 i hi, g2 _ (by omega) (by omega)]
  · rw [h3 i hi, g _ (by omega) (by omega)]
  · rw [h4 i hi, g _ (by omega) (by omega)]
theorem clr_in {S : Nat → Int32} {j : Nat} (h1 : 24 ≤ j) (h2 : j < 65) : clrS S 41 j = if j < 30 then -9 else 0 := by
  simp only [clrS, if_pos (show 24 ≤ j ∧ j < 24 + 41 by omega)]
theorem clr_out {S : Nat → Int32} {j : Nat} (h : j < 24 ∨ 65 ≤ j) : clrS S 41 j = S j := by
  simp only [clrS, if_neg (show ¬ (24 ≤ j ∧ j < 24 + 41) by omega)]
theorem sim_year : SimOp_year Alike9 := by
  unfold SimOp_year
  intro z_text_length z_text_bytes z_village_houses z_village_law z_village_pride z_village_memory z_village_eats z_village_barred z_now_eaten z_now_year z_now_lot z_now_weights_cells z_now_brought z_now_left z_now_spoons z_now_health z_firstImage_eaten z_firstImage_year z_firstImage_lot z_firstImage_weights_cells z_firstImage_brought z_firstImage_left z_firstImage_spoons z_firstImage_health z_secondImage_eaten z_secondImage_year z_secondImage_lot z_secondImage_weights_cells z_secondImage_brought z_secondImage_left z_secondImage_spoons z_secondImage_health z_keptImages z_asked zb_trace zb_text zb_typed zb_eats zb_barred zb_laws zb_houses zb_s zb_kept zb_isKept hs9
  obtain ⟨n, hn, hT, hV, hN, hK, hA⟩ := hs9
  obtain ⟨rfl, rfl, -, -, ⟨rfl, m, hm, v5⟩, v6, v7, v8, v9⟩ := id hV
  obtain ⟨a1, a2, a3, a4, a5, a6, a7, a8, a9, b1, b2, ⟨b3, b3'⟩, b4, b5⟩ := id hN
  have cn : ∀ s, s < 4 → cntB z_now_brought (nI s) 6 = cntB (fun h => zb_s (24 + h)) (nI s) n := fun s hs => cnt_alike hn a4 a6 (m9_ne s (by omega))
  have hWn : ∀ i, i < 24 → 4 * n ≤ i → yW (zb_laws 2) (fun s => cntB z_now_brought (nI s) 6) z_now_weights_cells 4 i = 0 := fun i hi hq => by
    simp only [yW, if_pos (show i % 4 < 4 ∧ i < 24 by omega), a1 i hi, a3 i hq hi, nwF, if_pos (show (0 : Int32) ≤ 0 by decide)]
  have hSi : ∀ i, i < 24 → upd (clrS (yS (zb_laws 2) (fun s => cntB (fun h => zb_s (24 + h)) (nI s) n) n zb_s 4 0) 41) 65 (zb_s 65 + 1) i = yS (zb_laws 2) (fun s => cntB (fun h => zb_s (24 + h)) (nI s) n) n zb_s 4 0 i := fun i hi => by
    rw [pk_un (by omega), clr_out (Or.inl hi)]
  have hWi : ∀ i, i < 4 * n → (yW (zb_laws 2) (fun s => cntB z_now_brought (nI s) 6) z_now_weights_cells 4 i = yS (zb_laws 2) (fun s => cntB (fun h => zb_s (24 + h)) (nI s) n) n zb_s 4 0 i) ∧ ∃ k, k ≤ 9 ∧ yS (zb_laws 2) (fun s => cntB (fun h => zb_s (24 + h)) (nI s) n) n zb_s 4 0 i = nI k := fun i hi => by
    obtain ⟨k, hk, ek⟩ := a2 i (by omega)
    obtain ⟨q1, j, hj, q2⟩ := nw_wt hk hm (cntB (fun h => zb_s (24 + h)) (nI (i % 4)) n)
    simp only [yW, yS, if_pos (show i % 4 < 4 ∧ i < 24 by omega), if_pos (show (i % 4 < 4 ∧ i < 4 * n) ∨ (i % 4 = 4 ∧ i < 4 * 0) by omega), a1 i (by omega), cn (i % 4) (by omega), v5, ek]
    exact ⟨q1, j, hj, by rw [← q1]; exact q2⟩
  have hWz : ∀ i, i < 24 → 4 * n ≤ i → yS (zb_laws 2) (fun s => cntB (fun h => zb_s (24 + h)) (nI s) n) n zb_s 4 0 i = 0 := fun i hi hq => by
    simp only [yS, if_neg (show ¬ ((i % 4 < 4 ∧ i < 4 * n) ∨ (i % 4 = 4 ∧ i < 4 * 0)) by omega), a3 i hq hi]
  have e65 : clrS (yS (zb_laws 2) (fun s => cntB (fun h => zb_s (24 + h)) (nI s) n) n zb_s 4 0) 41 65 = zb_s 65 := by
    rw [clr_out (Or.inr (by omega))]
    simp only [yS, if_neg (show ¬ ((65 % 4 < 4 ∧ 65 < 4 * n) ∨ (65 % 4 = 4 ∧ 65 < 4 * 0)) by omega)]
  have e66 : clrS (yS (zb_laws 2) (fun s => cntB (fun h => zb_s (24 + h)) (nI s) n) n zb_s 4 0) 41 66 = zb_s 66 := by
    rw [clr_out (Or.inr (by omega))]
    simp only [yS, if_neg (show ¬ ((66 % 4 < 4 ∧ 66 < 4 * n) ∨ (66 % 4 = 4 ∧ 66 < 4 * 0)) by omega)]
  refine ⟨(z_now_year + 1, 0, z_now_year + 1, yW (zb_laws 2) (fun s => cntB z_now_brought (nI s) 6) z_now_weights_cells 4, fillI z_now_brought (-9) 6, fillI z_now_left 0 4, fillI z_now_spoons 0 24, fillI z_now_health 0 6), (zb_s 65 + 1, 0, upd (clrS (yS (zb_laws 2) (fun s => cntB (fun h => zb_s (24 + h)) (nI s) n) n zb_s 4 0) 41) 65 (zb_s 65 + 1)), yearX_eq, ?_, ?_, al_of n hn hT hV (now_year hn (fun i hi => ?_) (fun i hi => ?_) (fun i hq hi => ?_) (fun i hi hj => ?_) (fun i hi => fill_in hi) (fun i hi => fill_in hi) (fun i hi => fill_in hi) (fun i hi => fill_in hi) ?_ ?_) hK hA⟩
  · rw [yearM_eq hn]
    simp only [X7_year_J65, clears_eq, some_bind9, lets_def, cl65, e65, pk_us]
  · show z_now_year + 1 = zb_s 65 + 1
    rw [b4]
  · show yW (zb_laws 2) (fun s => cntB z_now_brought (nI s) 6) z_now_weights_cells 4 i = upd _ 65 _ i
    rw [hSi i hi]
    rcases Nat.lt_or_ge i (4 * n) with q | q
    · exact (hWi i q).1
    · rw [hWn i hi q, hWz i hi q]
  · show ∃ k, k ≤ 9 ∧ upd _ 65 _ i = nI k
    rw [hSi i hi]
    rcases Nat.lt_or_ge i (4 * n) with q | q
    · exact (hWi i q).2
    · exact ⟨0, by omega, hWz i hi q⟩
  · show upd _ 65 _ i = 0
    rw [hSi i hi]
    exact hWz i hi hq
  · show upd _ 65 _ i = _
    rw [pk_un (by omega), clr_in hi hj]
  · show z_now_lot = upd (clrS (yS (zb_laws 2) (fun s => cntB (fun h => zb_s (24 + h)) (nI s) n) n zb_s 4 0) 41) 65 (zb_s 65 + 1) 66
    rw [pk_un (by omega), e66]
    exact b5
  · show z_now_year + 1 = upd (clrS (yS (zb_laws 2) (fun s => cntB (fun h => zb_s (24 + h)) (nI s) n) n zb_s 4 0) 41) 65 (zb_s 65 + 1) 65
    rw [pk_us, b4]
