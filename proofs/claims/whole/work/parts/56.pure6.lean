/-- the bit of a sort -/
abbrev alw (ba : Int32) (s : Nat) : Prop := ((ba >>> (nI s &&& 31)) &&& (1 : Int32)) = 0
/-- what a sort is worth to one who is barred so -/
def evI (le : Nat → Int32) (ba : Int32) (s : Nat) : Int := if alw ba s then (le s).toInt else 0
def IsPick (le : Nat → Int32) (ba : Int32) (r : Int32) : Prop := (r = -9 ∧ ∀ s, s < 4 → evI le ba s ≤ 0) ∨ (∃ k, k < 4 ∧ r = nI k ∧ 0 < evI le ba k ∧ (∀ s, s < 4 → evI le ba s ≤ evI le ba k) ∧ ∀ s, s < k → evI le ba s < evI le ba k)
theorem pick_one {le : Nat → Int32} {ba r r' : Int32} (h : IsPick le ba r) (h' : IsPick le ba r') : r = r' := by
  rcases h with ⟨e, h1⟩ | ⟨k, hk, e, h1, h2, h3⟩
  · rcases h' with ⟨e', -⟩ | ⟨k', hk', e', g1, -, -⟩
    · rw [e, e']
    · have := h1 k' hk'
      omega
  · rcases h' with ⟨e', g1⟩ | ⟨k', hk', e', g1, g2, g3⟩
    · have := g1 k hk
      omega
    · rcases Nat.lt_trichotomy k k' with q | q | q
      · have a := g3 k q
        have b := h2 k' hk'
        omega
      · rw [e, e', q]
      · have a := h3 k' q
        have b := g2 k hk
        omega
def fxP (le : Nat → Int32) (ba : Int32) : Nat → Int32 × Int32
  | 0 => (-9, 0)
  | i + 1 => if alw ba i then (if le i ≤ (fxP le ba i).2 then fxP le ba i else (nI i, le i)) else fxP le ba i
theorem fullest_fx {le : Nat → Int32} {ba : Int32} : fX1_fullest le ba = some (fxP le ba 4).1 := by
  unfold fX1_fullest
  refine it3_run 4 (fun i => (fxP le ba i).1) (fun i => (fxP le ba i).2) (fun i => nI i) _ (fun i hi self => ?_) (fun self => ?_) 100000 (by decide)
  · have ok : okx (nI i) 4 := okx_nI hi (by omega)
    simp only [X1_fullest_S8, X1_fullest_J45, if_neg (show ¬ (4 : Int32) ≤ nI i from nI_ge (a := i) (b := 4) hi (by omega)), gd_t ok, nI_clamp (show i < 2 ^ 31 by omega), lets_def, Lp1, fxP]
    by_cases hc : alw ba i
    · by_cases hd : le i ≤ (fxP le ba i).2
      · simp only [if_pos hc, if_pos hd]
      · simp only [if_pos hc, if_neg hd]
    · simp only [if_neg hc]
  · simp only [X1_fullest_S8, if_pos (show (4 : Int32) ≤ nI 4 by decide)]
theorem fx_inv {le : Nat → Int32} {ba : Int32} : ∀ i, i ≤ 4 → (fxP le ba i = (-9, 0) ∧ ∀ s, s < i → evI le ba s ≤ 0) ∨ (∃ k, k < i ∧ fxP le ba i = (nI k, le k) ∧ alw ba k ∧ 0 < evI le ba k ∧ (∀ s, s < i → evI le ba s ≤ evI le ba k) ∧ ∀ s, s < k → evI le ba s < evI le ba k)
  | 0, _ => Or.inl ⟨rfl, fun s hs => absurd hs (by omega)⟩
  | i + 1, hi => by
    have ih := fx_inv (le := le) (ba := ba) i (by omega)
    by_cases hc : alw ba i
    · have ei : evI le ba i = (le i).toInt := by simp only [evI, if_pos hc]
      by_cases hd : le i ≤ (fxP le ba i).2
      · have e : fxP le ba (i + 1) = fxP le ba i := by simp only [fxP, if_pos hc, if_pos hd]
        rcases ih with ⟨h1, h2⟩ | ⟨k, hk, h1, h2, h3, h4, h5⟩
        · left
          refine ⟨e.trans h1, fun s hs => ?_⟩
          rcases Nat.lt_or_ge s i with q | q
          · exact h2 s q
          · rw [show s = i by omega, ei]
            rw [h1, Int32.le_iff_toInt_le] at hd
            exact hd
        · right
          refine ⟨k, by omega, e.trans h1, h2, h3, fun s hs => ?_, h5⟩
          rcases Nat.lt_or_ge s i with q | q
          · exact h4 s q
          · rw [show s = i by omega, ei]
            rw [h1, Int32.le_iff_toInt_le] at hd
            have ek : evI le ba k = (le k).toInt := by simp only [evI, if_pos h2]
            rw [ek]
            exact hd
      · have e : fxP le ba (i + 1) = (nI i, le i) := by simp only [fxP, if_pos hc, if_neg hd]
        right
        rw [Int32.le_iff_toInt_le] at hd
        rcases ih with ⟨h1, h2⟩ | ⟨k, hk, h1, h2, h3, h4, h5⟩
        · rw [h1] at hd
          have hd : ¬ (le i).toInt ≤ 0 := hd
          refine ⟨i, by omega, e, hc, by rw [ei]; omega, fun s hs => ?_, fun s hs => ?_⟩
          · rcases Nat.lt_or_ge s i with q | q
            · have := h2 s q
              rw [ei]; omega
            · rw [show s = i by omega]; exact Int.le_refl _
          · have := h2 s hs
            rw [ei]; omega
        · rw [h1] at hd
          have ek : evI le ba k = (le k).toInt := by simp only [evI, if_pos h2]
          have hd : ¬ (le i).toInt ≤ (le k).toInt := hd
          refine ⟨i, by omega, e, hc, by rw [ei]; omega, fun s hs => ?_, fun s hs => ?_⟩
          · rcases Nat.lt_or_ge s i with q | q
            · have := h4 s q
              rw [ei]; omega
            · rw [show s = i by omega]; exact Int.le_refl _
          · have := h4 s hs
            rw [ei]; omega
    · have e : fxP le ba (i + 1) = fxP le ba i := by simp only [fxP, if_neg hc]
      have ei : evI le ba i = 0 := by simp only [evI, if_neg hc]
      rcases ih with ⟨h1, h2⟩ | ⟨k, hk, h1, h2, h3, h4, h5⟩
      · left
        refine ⟨e.trans h1, fun s hs => ?_⟩
        rcases Nat.lt_or_ge s i with q | q
        · exact h2 s q
        · rw [show s = i by omega, ei]; exact Int.le_refl _
      · right
        refine ⟨k, by omega, e.trans h1, h2, h3, fun s hs => ?_, h5⟩
        rcases Nat.lt_or_ge s i with q | q
        · exact h4 s q
        · rw [show s = i by omega, ei]; omega
theorem fullest_pick (le : Nat → Int32) (ba : Int32) : ∃ r, fX1_fullest le ba = some r ∧ IsPick le ba r := by
  refine ⟨_, fullest_fx, ?_⟩
  rcases fx_inv (le := le) (ba := ba) 4 (by omega) with ⟨h1, h2⟩ | ⟨k, hk, h1, h2, h3, h4, h5⟩
  · exact Or.inl ⟨by rw [h1], h2⟩
  · exact Or.inr ⟨k, hk, by rw [h1], h3, h4, h5⟩
/-- the reference goes from the last sort down -/
def gxP (le : Nat → Int32) (ba : Int32) : Nat → Int32
  | 0 => -9
  | i + 1 => if le (3 - i) ≤ 0 then gxP le ba i else if alw ba (3 - i) then (if gxP le ba i = -9 then nI (3 - i) else if le (3 - i) < le (gxP le ba i).toNatClampNeg then gxP le ba i else nI (3 - i)) else gxP le ba i
theorem gx_inv {le : Nat → Int32} {ba : Int32} : ∀ i, i ≤ 4 → (gxP le ba i = -9 ∧ ∀ s, 4 - i ≤ s → s < 4 → evI le ba s ≤ 0) ∨ (∃ k, 4 - i ≤ k ∧ k < 4 ∧ gxP le ba i = nI k ∧ alw ba k ∧ 0 < evI le ba k ∧ (∀ s, 4 - i ≤ s → s < 4 → evI le ba s ≤ evI le ba k) ∧ ∀ s, 4 - i ≤ s → s < k → evI le ba s < evI le ba k)
  | 0, _ => Or.inl ⟨rfl, fun s h1 h2 => absurd h1 (by omega)⟩
  | i + 1, hi => by
    have ih := gx_inv (le := le) (ba := ba) i (by omega)
    have same : (gxP le ba (i + 1) = gxP le ba i) → evI le ba (3 - i) ≤ 0 ∨ (∃ k, gxP le ba i = nI k ∧ k < 4 ∧ alw ba k ∧ evI le ba (3 - i) < evI le ba k) → (gxP le ba (i + 1) = -9 ∧ ∀ s, 4 - (i + 1) ≤ s → s < 4 → evI le ba s ≤ 0) ∨ (∃ k, 4 - (i + 1) ≤ k ∧ k < 4 ∧ gxP le ba (i + 1) = nI k ∧ alw ba k ∧ 0 < evI le ba k ∧ (∀ s, 4 - (i + 1) ≤ s → s < 4 → evI le ba s ≤ evI le ba k) ∧ ∀ s, 4 - (i + 1) ≤ s → s < k → evI le ba s < evI le ba k) := by
      intro e hle
      rcases ih with ⟨h1, h2⟩ | ⟨k, hk, hk4, h1, h2, h3, h4, h5⟩
      · left
        refine ⟨e.trans h1, fun s g1 g2 => ?_⟩
        rcases Nat.lt_or_ge s (4 - i) with q | q
        · rw [show s = 3 - i by omega]
          rcases hle with g | ⟨k, g1, g2, -⟩
          · exact g
          · rw [h1] at g1
            exact absurd g1 (m9_ne k (by omega))
        · exact h2 s q g2
      · right
        have hlt : evI le ba (3 - i) < evI le ba k := by
          rcases hle with g | ⟨k', g1, g2, -, g3⟩
          · omega
          · rw [h1] at g1
            rw [(nI_eq (by omega) (by omega)).mp g1]
            exact g3
        refine ⟨k, by omega, hk4, e.trans h1, h2, h3, fun s g1 g2 => ?_, fun s g1 g2 => ?_⟩
        · rcases Nat.lt_or_ge s (4 - i) with q | q
          · rw [show s = 3 - i by omega]; omega
          · exact h4 s q g2
        · rcases Nat.lt_or_ge s (4 - i) with q | q
          · rw [show s = 3 - i by omega]; exact hlt
          · exact h5 s q g2
    by_cases h0 : le (3 - i) ≤ 0
    · refine same (by simp only [gxP, if_pos h0]) (Or.inl ?_)
      rw [Int32.le_iff_toInt_le] at h0
      have h0 : (le (3 - i)).toInt ≤ 0 := h0
      unfold evI
      split <;> omega
    · have h0' := h0
      rw [Int32.le_iff_toInt_le] at h0'
      have h0' : ¬ (le (3 - i)).toInt ≤ 0 := h0'
      by_cases hc : alw ba (3 - i)
      · have ei : evI le ba (3 - i) = (le (3 - i)).toInt := by simp only [evI, if_pos hc]
        rcases ih with ⟨h1, h2⟩ | ⟨k, hk, hk4, h1, h2, h3, h4, h5⟩
        · right
          refine ⟨3 - i, by omega, by omega, by simp only [gxP, if_neg h0, if_pos hc, if_pos h1], hc, by rw [ei]; omega, fun s g1 g2 => ?_, fun s g1 g2 => absurd g1 (by omega)⟩
          rcases Nat.lt_or_ge s (4 - i) with q | q
          · rw [show s = 3 - i by omega]; exact Int.le_refl _
          · have := h2 s q g2
            rw [ei]; omega
        · have hn9 : ¬ gxP le ba i = -9 := by rw [h1]; exact fun e => m9_ne k (by omega) e.symm
          have ek : evI le ba k = (le k).toInt := by simp only [evI, if_pos h2]
          have ec : (gxP le ba i).toNatClampNeg = k := by rw [h1]; exact nI_clamp (by omega)
          by_cases hd : le (3 - i) < le k
          · have hd' := hd
            rw [Int32.lt_iff_toInt_lt] at hd'
            exact same (by simp only [gxP, if_neg h0, if_pos hc, if_neg hn9, ec, if_pos hd]) (Or.inr ⟨k, h1, hk4, h2, by rw [ei, ek]; exact hd'⟩)
          · have hd' := hd
            rw [Int32.lt_iff_toInt_lt] at hd'
            right
            refine ⟨3 - i, by omega, by omega, by simp only [gxP, if_neg h0, if_pos hc, if_neg hn9, ec, if_neg hd], hc, by rw [ei]; omega, fun s g1 g2 => ?_, fun s g1 g2 => absurd g1 (by omega)⟩
            rcases Nat.lt_or_ge s (4 - i) with q | q
            · rw [show s = 3 - i by omega]; exact Int.le_refl _
            · have := h4 s q g2
              rw [ei]; omega
      · refine same (by simp only [gxP, if_neg h0, if_neg hc]) (Or.inl ?_)
        simp only [evI, if_neg hc]; exact Int.le_refl _
theorem gx_pick (le : Nat → Int32) (ba : Int32) : IsPick le ba (gxP le ba 4) := by
  rcases gx_inv (le := le) (ba := ba) 4 (by omega) with ⟨h1, h2⟩ | ⟨k, -, hk, h1, h2, h3, h4, h5⟩
  · exact Or.inl ⟨h1, fun s hs => h2 s (by omega) hs⟩
  · exact Or.inr ⟨k, hk, h1, h3, fun s hs => h4 s (by omega) hs, fun s hs => h5 s (by omega) hs⟩
