theorem pick_cg {le le' : Nat → Int32} {ba r : Int32} (h : ∀ s, s < 4 → le s = le' s) (H : IsPick le ba r) : IsPick le' ba r := by
  have e : ∀ s, s < 4 → evI le' ba s = evI le ba s := fun s hs => by simp only [evI, h s hs]
  rcases H with ⟨h1, h2⟩ | ⟨k, hk, h1, h2, h3, h4⟩
  · exact Or.inl ⟨h1, fun s hs => by rw [e s hs]; exact h2 s hs⟩
  · exact Or.inr ⟨k, hk, h1, by rw [e k hk]; exact h2, fun s hs => by rw [e s hs, e k hk]; exact h3 s hs, fun s hs => by rw [e s (by omega), e k hk]; exact h4 s hs⟩
theorem pick_alike {le le' : Nat → Int32} {ba : Int32} (h : ∀ s, s < 4 → le s = le' s) : gxP le' ba 4 = (fxP le ba 4).1 := by
  obtain ⟨r, h1, h2⟩ := fullest_pick le ba
  have e : (fxP le ba 4).1 = r := Option.some.inj (fullest_fx.symm.trans h1)
  rw [e]
  exact pick_one (gx_pick le' ba) (pick_cg h h2)
theorem x5n {i : Nat} (h : i < 4) : (if i ≤ 3 then nI (3 - i) else (-1 : Int32)) + (-1 : Int32) = (if i + 1 ≤ 3 then nI (3 - (i + 1)) else -1) := by
  rcases (show i = 0 ∨ i = 1 ∨ i = 2 ∨ i = 3 by omega) with rfl | rfl | rfl | rfl <;> decide +kernel
theorem mealpick_eq {mba S : Nat → Int32} {h : Nat} (hh : h < 6) {x2 : Int32} {self : Int32 → Int32 → (Nat → Int32) → Option (Int32 × (Nat → Int32))} : it2 (X7_meal_S25 mba (nI h) x2 S self) 100000 (-9 : Int32) (3 : Int32) = X7_meal_J114 (nI h) x2 S self (gxP (fun s => S (54 + s)) (mba h) 4) := by
  refine it2_go 4 (fun i => gxP (fun s => S (54 + s)) (mba h) i) (fun i => if i ≤ 3 then nI (3 - i) else (-1 : Int32)) _ rfl rfl (fun i hi self2 => ?_) (fun self2 => ?_) 100000 (by decide)
  · have e5 := x5n hi
    rw [if_pos (show i ≤ 3 by omega)] at e5
    have ok : okx (nI (54 + (3 - i))) 67 := okx_nI (by omega) (by omega)
    have ok3 : okx (nI h) 12 := okx_nI (by omega) (by omega)
    have hc : (nI h).toNatClampNeg = h := nI_clamp (by omega)
    show X7_meal_S25 mba (nI h) x2 S self self2 (gxP (fun s => S (54 + s)) (mba h) i) (if i ≤ 3 then nI (3 - i) else (-1 : Int32)) = self2 (gxP (fun s => S (54 + s)) (mba h) (i + 1)) (if i + 1 ≤ 3 then nI (3 - (i + 1)) else -1)
    rw [if_pos (show i ≤ 3 by omega), ← e5]
    simp only [X7_meal_S25, X7_meal_J61, X7_meal_J62, X7_meal_J99, X7_meal_J104, X7_meal_J106, if_neg (show ¬ nI (3 - i) < 0 from nI_pos (by omega)), L54, gd_t ok, gd_t ok3, hc, nI_clamp (show 54 + (3 - i) < 2 ^ 31 by omega), lets_def, if_pos, if_neg one_ne, gxP]
    by_cases h0 : S (54 + (3 - i)) ≤ 0
    · simp only [if_pos h0]
    · by_cases hcc : alw (mba h) (3 - i)
      · simp only [if_neg h0, if_pos hcc]
        rcases gx_inv (le := fun s => S (54 + s)) (ba := mba h) i (by omega) with ⟨g1, -⟩ | ⟨k, -, hk, g1, -⟩
        · simp only [g1, if_pos]
        · have n9 : ¬ nI k = -9 := fun e => m9_ne k (by omega) e.symm
          have ok4 : okx (nI (54 + k)) 67 := okx_nI (by omega) (by omega)
          simp only [g1, if_neg n9, L54, gd_t ok4, nI_clamp (show 54 + k < 2 ^ 31 by omega), nI_clamp (show k < 2 ^ 31 by omega)]
          by_cases hd : S (54 + (3 - i)) < S (54 + k)
          · simp only [if_pos hd]
          · simp only [if_neg hd]
      · simp only [if_neg h0, if_neg hcc]
  · show X7_meal_S25 mba (nI h) x2 S self self2 _ (-1) = _
    simp only [X7_meal_S25, if_pos (show (-1 : Int32) < 0 by decide)]
/-- a house eats: how many spoons, what is left, who ate what -/
def feedF (h : Nat) (ba : Int32) : Nat → (Nat → Int32) → (Nat → Int32) → Nat × (Nat → Int32) × (Nat → Int32)
  | 0, le, sp => (0, le, sp)
  | k + 1, le, sp => if (fxP le ba 4).1 = -9 then (0, le, sp) else ((feedF h ba k (upd le (fxP le ba 4).1.toNatClampNeg (le (fxP le ba 4).1.toNatClampNeg - 1)) (upd sp (4 * h + (fxP le ba 4).1.toNatClampNeg) (sp (4 * h + (fxP le ba 4).1.toNatClampNeg) + 1))).1 + 1, (feedF h ba k (upd le (fxP le ba 4).1.toNatClampNeg (le (fxP le ba 4).1.toNatClampNeg - 1)) (upd sp (4 * h + (fxP le ba 4).1.toNatClampNeg) (sp (4 * h + (fxP le ba 4).1.toNatClampNeg) + 1))).2)
theorem fx_sort (le : Nat → Int32) (ba : Int32) : (fxP le ba 4).1 = -9 ∨ ∃ s, s < 4 ∧ (fxP le ba 4).1 = nI s := by
  rcases fx_inv (le := le) (ba := ba) 4 (by omega) with ⟨h1, -⟩ | ⟨k, hk, h1, -⟩
  · left; rw [h1]
  · right; exact ⟨k, hk, by rw [h1]⟩
theorem feed_eq {h : Nat} (hh : h < 6) {ba : Int32} {e : Nat} (he : e ≤ 9) : ∀ (k had n : Nat) (le sp : Nat → Int32), had + k = e → k < n → it3 (X1_feed_S3 (nI h) (nI e) ba) n (nI had) le sp = some (nI (had + (feedF h ba k le sp).1), (feedF h ba k le sp).2.1, (feedF h ba k le sp).2.2)
  | 0, had, n, le, sp, hk, hn => by
    obtain ⟨n, rfl⟩ : ∃ m, n = m + 1 := ⟨n - 1, by omega⟩
    show X1_feed_S3 (nI h) (nI e) ba (it3 (X1_feed_S3 (nI h) (nI e) ba) n) (nI had) le sp = _
    simp only [X1_feed_S3, if_pos (nI_le (show e ≤ had by omega) (show had < 2 ^ 31 by omega)), feedF, Nat.add_zero]
    rw [show e = had by omega]
  | k + 1, had, n, le, sp, hk, hn => by
    obtain ⟨n, rfl⟩ : ∃ m, n = m + 1 := ⟨n - 1, by omega⟩
    show X1_feed_S3 (nI h) (nI e) ba (it3 (X1_feed_S3 (nI h) (nI e) ba) n) (nI had) le sp = _
    simp only [X1_feed_S3, if_neg (nI_ge (a := had) (b := e) (by omega) (by omega)), fullest_fx, some_bind9]
    rcases fx_sort le ba with h9 | ⟨s, hs, hs9⟩
    · simp only [feedF, if_pos h9, Nat.add_zero]
    · have n9 : ¬ nI s = -9 := fun e => m9_ne s (by omega) e.symm
      have ok : okx (nI s) 4 := okx_nI hs (by omega)
      have ok2 : okx (nI (4 * h + s)) 24 := okx_nI (by omega) (by omega)
      have cs : (nI s).toNatClampNeg = s := nI_clamp (by omega)
      have cs2 : (nI (4 * h + s)).toNatClampNeg = 4 * h + s := nI_clamp (by omega)
      have ih := feed_eq hh (ba := ba) he k (had + 1) n (upd le s (le s - 1)) (upd sp (4 * h + s) (sp (4 * h + s) + 1)) (by omega) (by omega)
      simp only [hs9, if_neg n9, gd_t ok, cs, lets_def, nI4, gd_t ok2, cs2, Lp1, feedF]
      rw [ih]
      rw [show had + 1 + (feedF h ba k (upd le s (le s - 1)) (upd sp (4 * h + s) (sp (4 * h + s) + 1))).1 = had + ((feedF h ba k (upd le s (le s - 1)) (upd sp (4 * h + s) (sp (4 * h + s) + 1))).1 + 1) by omega]
theorem meal_eq {h : Nat} (hh : h < 6) {mea mba : Nat → Int32} {ba : Int32} {e : Nat} (he : e ≤ 9) (hE : mea h = nI e) (hB : mba h = ba) : ∀ (k had n : Nat) (le sp S : Nat → Int32), had + k = e → k + 1 < n → (∀ s, s < 4 → le s = S (54 + s)) → (∀ i, i < 24 → sp i = S (30 + i)) →
    ∃ S', it3 (X7_meal_S4 mea mba (nI h)) n (nI had) 1 S = some (nI (had + (feedF h ba k le sp).1), S') ∧ (∀ s, s < 4 → (feedF h ba k le sp).2.1 s = S' (54 + s)) ∧ (∀ i, i < 24 → (feedF h ba k le sp).2.2 i = S' (30 + i)) ∧ ∀ j, (j < 30 ∨ 58 ≤ j) → S' j = S j
  | 0, had, n, le, sp, S, hk, hn, h1, h2 => by
    obtain ⟨n, rfl⟩ : ∃ m, n = m + 1 := ⟨n - 1, by omega⟩
    have ok3 : okx (nI h) 12 := okx_nI (by omega) (by omega)
    refine ⟨S, ?_, fun s hs => h1 s hs, fun i hi => h2 i hi, fun _ _ => rfl⟩
    show X7_meal_S4 mea mba (nI h) (it3 (X7_meal_S4 mea mba (nI h)) n) (nI had) 1 S = _
    simp only [X7_meal_S4, if_neg one_ne, gd_t ok3, nI_clamp (show h < 2 ^ 31 by omega), hE, if_pos (nI_le (show e ≤ had by omega) (show had < 2 ^ 31 by omega)), feedF, Nat.add_zero]
  | k + 1, had, n, le, sp, S, hk, hn, h1, h2 => by
    obtain ⟨n, rfl⟩ : ∃ m, n = m + 1 := ⟨n - 1, by omega⟩
    have ok3 : okx (nI h) 12 := okx_nI (by omega) (by omega)
    have ep : gxP (fun s => S (54 + s)) (mba h) 4 = (fxP le ba 4).1 := by rw [hB]; exact pick_alike h1
    have e1 : it3 (X7_meal_S4 mea mba (nI h)) (n + 1) (nI had) 1 S = X7_meal_J114 (nI h) (nI had) S (it3 (X7_meal_S4 mea mba (nI h)) n) ((fxP le ba 4).1) := by
      show X7_meal_S4 mea mba (nI h) (it3 (X7_meal_S4 mea mba (nI h)) n) (nI had) 1 S = _
      simp only [X7_meal_S4, if_neg one_ne, gd_t ok3, nI_clamp (show h < 2 ^ 31 by omega), hE, if_neg (nI_ge (a := had) (b := e) (by omega) (by omega)), mealpick_eq hh, ep]
    rw [e1]
    rcases fx_sort le ba with h9 | ⟨s, hs, hs9⟩
    · refine ⟨S, ?_, ?_, ?_, fun _ _ => rfl⟩
      · simp only [X7_meal_J114, X7_meal_J126, X7_meal_J166, if_pos h9, if_pos, feedF, Nat.add_zero]
        obtain ⟨n, rfl⟩ : ∃ m, n = m + 1 := ⟨n - 1, by omega⟩
        show X7_meal_S4 mea mba (nI h) (it3 (X7_meal_S4 mea mba (nI h)) n) (nI had) 0 S = _
        simp only [X7_meal_S4, if_pos]
      · simp only [feedF, if_pos h9]; exact h1
      · simp only [feedF, if_pos h9]; exact h2
    · have n9 : ¬ nI s = -9 := fun e => m9_ne s (by omega) e.symm
      have ok : okx (nI (54 + s)) 67 := okx_nI (by omega) (by omega)
      have ok2 : okx (nI (30 + (4 * h + s))) 67 := okx_nI (by omega) (by omega)
      have e9 : 30 + 4 * h + s = 30 + (4 * h + s) := by omega
      have cs : (nI s).toNatClampNeg = s := nI_clamp (by omega)
      obtain ⟨S', g1, g2, g3, g4⟩ := meal_eq hh (mea := mea) (mba := mba) he hE hB k (had + 1) n (upd le s (le s - 1)) (upd sp (4 * h + s) (sp (4 * h + s) + 1)) (upd (upd S (54 + s) (S (54 + s) - 1)) (30 + (4 * h + s)) (S (30 + (4 * h + s)) + 1)) (by omega) (by omega)
        (fun t ht => by
          rw [pk_un (j := 54 + t) (by omega)]
          by_cases e : t = s
          · subst e; rw [pk_us, pk_us, h1 t ht]
          · rw [pk_un e, pk_un (by omega)]; exact h1 t ht)
        (fun i hi => by
          by_cases e : i = 4 * h + s
          · subst e; rw [pk_us, pk_us, h2 _ hi]
          · rw [pk_un e, pk_un (by omega), pk_un (by omega)]; exact h2 i hi)
      refine ⟨S', ?_, ?_, ?_, fun j hj => ?_⟩
      · simp only [hs9, X7_meal_J114, X7_meal_J126, X7_meal_J166, if_neg n9, if_neg one_ne, L54, L4m, L30, nI_add, e9, gd_t ok, gd_t ok2, nI_clamp (show 54 + s < 2 ^ 31 by omega), nI_clamp (show 30 + (4 * h + s) < 2 ^ 31 by omega), lets_def, Lp1, feedF, cs, pk_un (f := S) (k := 54 + s) (x := S (54 + s) - 1) (show 30 + (4 * h + s) ≠ 54 + s by omega)]
        rw [g1]
        rw [show had + 1 + (feedF h ba k (upd le s (le s - 1)) (upd sp (4 * h + s) (sp (4 * h + s) + 1))).1 = had + ((feedF h ba k (upd le s (le s - 1)) (upd sp (4 * h + s) (sp (4 * h + s) + 1))).1 + 1) by omega]
      · simp only [feedF, hs9, if_neg n9, cs]; exact g2
      · simp only [feedF, hs9, if_neg n9, cs]; exact g3
      · rw [g4 j hj, pk_un (by omega), pk_un (by omega)]
/-- all eat, in an order -/
def eatS (eN : Nat → Nat) (ba : Nat → Int32) (ord : Nat → Nat) (le sp : Nat → Int32) : Nat → Int32 × (Nat → Int32) × (Nat → Int32)
  | 0 => (0, le, sp)
  | i + 1 => ((eatS eN ba ord le sp i).1 + nI (feedF (ord i) (ba (ord i)) (eN (ord i)) (eatS eN ba ord le sp i).2.1 (eatS eN ba ord le sp i).2.2).1, (feedF (ord i) (ba (ord i)) (eN (ord i)) (eatS eN ba ord le sp i).2.1 (eatS eN ba ord le sp i).2.2).2)
theorem eatS_skip {eN : Nat → Nat} {ba : Nat → Int32} {ord : Nat → Nat} {le sp : Nat → Int32} {i : Nat} (h : eN (ord i) = 0) : eatS eN ba ord le sp (i + 1) = eatS eN ba ord le sp i := by
  simp only [eatS, h, feedF]
  have e : nI 0 = 0 := rfl
  rw [e, Int32.add_zero]
theorem eatX_eq {eN : Nat → Nat} {ea ba : Nat → Int32} {way : Int32} {ord : Nat → Nat} (hE : ∀ h, h < 6 → ea h = nI (eN h)) (h9 : ∀ h, h < 6 → eN h ≤ 9) (ho : ∀ i, i < 6 → ord i < 6) (hw : ∀ i, i < 6 → (if way = 0 then nI i else (5 : Int32) - nI i) = nI (ord i)) {le sp : Nat → Int32} : it4 (X6_eat_S28 ea ba way) 100000 (0 : Int32) (0 : Int32) le sp = some ((eatS eN ba ord le sp 6).1, 1, (eatS eN ba ord le sp 6).2.1, (eatS eN ba ord le sp 6).2.2) := by
  refine it4_run 6 (fun i => (eatS eN ba ord le sp i).1) (fun i => nI i) (fun i => (eatS eN ba ord le sp i).2.1) (fun i => (eatS eN ba ord le sp i).2.2) _ (fun i hi self => ?_) (fun self => ?_) 100000 (by decide)
  · have ok : okx (nI (ord i)) 6 := okx_nI (ho i hi) (by omega)
    have hf := feed_eq (ho i hi) (ba := ba (ord i)) (h9 _ (ho i hi)) (eN (ord i)) 0 100000 (eatS eN ba ord le sp i).2.1 (eatS eN ba ord le sp i).2.2 (by omega) (by have := h9 _ (ho i hi); omega)
    have e : X6_eat_S28 ea ba way self (eatS eN ba ord le sp i).1 (nI i) (eatS eN ba ord le sp i).2.1 (eatS eN ba ord le sp i).2.2 = X6_eat_J45 ea ba (eatS eN ba ord le sp i).1 (nI i) (eatS eN ba ord le sp i).2.1 (eatS eN ba ord le sp i).2.2 self (nI (ord i)) := by
      rw [← hw i hi]
      simp only [X6_eat_S28, if_neg (show ¬ (6 : Int32) ≤ nI i from nI_ge (a := i) (b := 6) hi (by omega))]
      split <;> rfl
    rw [e]
    have hf2 : fX1_feed (eatS eN ba ord le sp i).2.1 (eatS eN ba ord le sp i).2.2 (nI (ord i)) (nI (eN (ord i))) (ba (ord i)) = _ := hf
    simp only [X6_eat_J45, gd_t ok, nI_clamp (show ord i < 2 ^ 31 by have := ho i hi; omega), hE _ (ho i hi), hf2, some_bind9, lets_def, Lp1, eatS, Nat.zero_add]
  · simp only [X6_eat_S28, X6_eat_J85, if_pos (show (6 : Int32) ≤ nI 6 by decide)]
theorem eatM_eq {n : Nat} (hn : n ≤ 6) {eN : Nat → Nat} {mea mba ba : Nat → Int32} {way : Int32} {ord : Nat → Nat} (hE : ∀ h, h < n → mea h = nI (eN h)) (h9 : ∀ h, h < n → eN h ≤ 9) (hB : ∀ h, h < n → mba h = ba h) (ho : ∀ i, i < n → ord i < n) (hw : ∀ i, i < n → (if way = 0 then nI i else nI n - 1 - nI i) = nI (ord i)) {le sp : Nat → Int32} : ∀ (d i m : Nat) (S : Nat → Int32), i + d = n → d < m → (∀ s, s < 4 → (eatS eN ba ord le sp i).2.1 s = S (54 + s)) → (∀ j, j < 24 → (eatS eN ba ord le sp i).2.2 j = S (30 + j)) →
    ∃ S', it3 (X7_eat_S42 (nI n) mea mba way) m (eatS eN ba ord le sp i).1 (nI i) S = some ((eatS eN ba ord le sp n).1, 0, S') ∧ (∀ s, s < 4 → (eatS eN ba ord le sp n).2.1 s = S' (54 + s)) ∧ (∀ j, j < 24 → (eatS eN ba ord le sp n).2.2 j = S' (30 + j)) ∧ ∀ j, (j < 30 ∨ 58 ≤ j) → S' j = S j
  | 0, i, m, S, hi, hm, h1, h2 => by
    obtain ⟨m, rfl⟩ : ∃ k, m = k + 1 := ⟨m - 1, by omega⟩
    have e : i = n := by omega
    subst e
    refine ⟨S, ?_, h1, h2, fun _ _ => rfl⟩
    show X7_eat_S42 (nI i) mea mba way (it3 (X7_eat_S42 (nI i) mea mba way) m) (eatS eN ba ord le sp i).1 (nI i) S = _
    simp only [X7_eat_S42, if_pos (nI_le (Nat.le_refl i) (show i < 2 ^ 31 by omega))]
  | d + 1, i, m, S, hi, hm, h1, h2 => by
    obtain ⟨m, rfl⟩ : ∃ k, m = k + 1 := ⟨m - 1, by omega⟩
    have hin : i < n := by omega
    have hoi := ho i hin
    obtain ⟨S1, g1, g2, g3, g4⟩ := meal_eq (show ord i < 6 by omega) (mea := mea) (mba := mba) (ba := ba (ord i)) (h9 _ hoi) (hE _ hoi) (hB _ hoi) (eN (ord i)) 0 100000 (eatS eN ba ord le sp i).2.1 (eatS eN ba ord le sp i).2.2 S (by omega) (by have := h9 _ hoi; omega) h1 h2
    have hf : fX7_meal mea mba S (nI (ord i)) = _ := g1
    obtain ⟨S', k1, k2, k3, k4⟩ := eatM_eq hn hE h9 hB ho hw (le := le) (sp := sp) d (i + 1) m S1 (by omega) (by omega) g2 g3
    refine ⟨S', ?_, k2, k3, fun j hj => (k4 j hj).trans (g4 j hj)⟩
    show X7_eat_S42 (nI n) mea mba way (it3 (X7_eat_S42 (nI n) mea mba way) m) (eatS eN ba ord le sp i).1 (nI i) S = _
    have e : X7_eat_S42 (nI n) mea mba way (it3 (X7_eat_S42 (nI n) mea mba way) m) (eatS eN ba ord le sp i).1 (nI i) S = X7_eat_J68 mea mba (eatS eN ba ord le sp i).1 (nI i) S (it3 (X7_eat_S42 (nI n) mea mba way) m) (nI (ord i)) := by
      rw [← hw i hin]
      simp only [X7_eat_S42, if_neg (nI_ge (a := i) (b := n) hin (by omega))]
      split <;> rfl
    rw [e]
    simp only [X7_eat_J68, hf, some_bind9, lets_def, Lp1, Nat.zero_add]
    exact k1
