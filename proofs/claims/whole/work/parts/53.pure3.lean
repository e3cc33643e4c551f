theorem add4 (a b c d : Int32) : a + b + (c + d) = a + c + (b + d) := by
  rw [Int32.add_assoc, Int32.add_assoc]
  congr 1
  rw [← Int32.add_assoc, Int32.add_comm b c, Int32.add_assoc]
theorem sumI_add (f g : Nat → Int32) : ∀ n, sumI (fun i => f i + g i) n = sumI f n + sumI g n
  | 0 => by simp only [sumI]; rfl
  | n + 1 => by
    simp only [sumI, sumI_add f g n]
    exact add4 _ _ _ _
theorem sumI_zero : ∀ n, sumI (fun _ => 0) n = 0
  | 0 => rfl
  | n + 1 => by rw [sumI, sumI_zero n]; rfl
theorem sumI_swap (f : Nat → Nat → Int32) (m : Nat) : ∀ n, sumI (fun s => sumI (f s) m) n = sumI (fun h => sumI (fun s => f s h) n) m
  | 0 => by simp only [sumI]; exact (sumI_zero m).symm
  | n + 1 => by
    simp only [sumI, sumI_swap f m n]
    rw [← sumI_add]
theorem three_cases (x : Int32) : ((x = 0 ∨ x = 1 ∨ x = 2) ∧ fX7_in x 0 2 = some 1) ∨ (¬ x = 0 ∧ ¬ x = 1 ∧ ¬ x = 2 ∧ fX7_in x 0 2 = some 0) := by
  by_cases h0 : x = 0
  · left; subst h0; exact ⟨Or.inl rfl, by decide⟩
  by_cases h1 : x = 1
  · left; subst h1; exact ⟨Or.inr (Or.inl rfl), by decide⟩
  by_cases h2 : x = 2
  · left; subst h2; exact ⟨Or.inr (Or.inr rfl), by decide⟩
  right
  refine ⟨h0, h1, h2, ?_⟩
  have e0 : x.toInt ≠ 0 := fun h => h0 (Int32.toInt_inj.mp h)
  have e1 : x.toInt ≠ 1 := fun h => h1 (Int32.toInt_inj.mp h)
  have e2 : x.toInt ≠ 2 := fun h => h2 (Int32.toInt_inj.mp h)
  by_cases hl : x < 0
  · exact in_f1 hl
  · refine in_f2 ?_
    rw [Int32.lt_iff_toInt_lt] at hl ⊢
    show (2 : Int) < x.toInt
    have : ¬ x.toInt < 0 := hl
    omega
/-- a sort that one of four is, or none -/
theorem four_one {b : Int32} (h : b = -9 ∨ ∃ k, k < 4 ∧ b = nI k) : sumI (fun s => if b = nI s then (1 : Int32) else 0) 4 = (if b = -9 then 0 else 1) := by
  rcases h with rfl | ⟨k, hk, rfl⟩
  · decide +kernel
  · rcases (show k = 0 ∨ k = 1 ∨ k = 2 ∨ k = 3 by omega) with rfl | rfl | rfl | rfl <;> decide +kernel
theorem bringers_eq {b : Nat → Int32} (h : ∀ i, i < 6 → b i = -9 ∨ ∃ k, k < 4 ∧ b i = nI k) : fX1_bringers b = some (sumI (fun i => if b i = -9 then 0 else 1) 6) := by
  have e : fX1_bringers b = some (sumI (fun s => cntB b (nI s) 6) 4) := by
    unfold fX1_bringers
    refine it2_run 4 (fun i => sumI (fun s => cntB b (nI s) 6) i) (fun i => nI i) _ (fun i hi self => ?_) (fun self => ?_) 100000 (by decide)
    · simp only [X1_bringers_S4, if_neg (show ¬ (4 : Int32) ≤ nI i from nI_ge (a := i) (b := 4) hi (by omega)), bringersOf_eq, some_bind9, lets_def, Lp1, sumI]
    · simp only [X1_bringers_S4, if_pos (show (4 : Int32) ≤ nI 4 by decide)]
  rw [e]
  simp only [cntB]
  rw [sumI_swap]
  congr 1
  exact sumI_congr (fun i hi => four_one (h i hi))
theorem spoonsLeft_eq {w : Nat → Int32} : fX1_spoonsLeft w = some (sumI w 4) := by
  unfold fX1_spoonsLeft
  refine it2_run 4 (fun i => sumI w i) (fun i => nI i) _ (fun i hi self => ?_) (fun self => ?_) 100000 (by decide)
  · have ok : okx (nI i) 4 := okx_nI hi (by omega)
    simp only [X1_spoonsLeft_S4, if_neg (show ¬ (4 : Int32) ≤ nI i from nI_ge (a := i) (b := 4) hi (by omega)), gd_t ok, nI_clamp (show i < 2 ^ 31 by omega), lets_def, Lp1, sumI]
  · simp only [X1_spoonsLeft_S4, if_pos (show (4 : Int32) ≤ nI 4 by decide)]
theorem toldHealths_eq {w : Nat → Int32} : fX1_toldHealths w = some (sumI (fun i => if w i = 0 then 0 else 1) 6) := by
  unfold fX1_toldHealths
  refine it2_run 6 (fun i => sumI (fun i => if w i = 0 then 0 else 1) i) (fun i => nI i) _ (fun i hi self => ?_) (fun self => ?_) 100000 (by decide)
  · have ok : okx (nI i) 6 := okx_nI hi (by omega)
    simp only [X1_toldHealths_S4, X1_toldHealths_J22, if_neg (show ¬ (6 : Int32) ≤ nI i from nI_ge (a := i) (b := 6) hi (by omega)), gd_t ok, nI_clamp (show i < 2 ^ 31 by omega), lets_def, Lp1, sumI]
    by_cases hc : w i = 0
    · simp only [if_pos hc, Int32.add_zero]
    · simp only [if_neg hc]
  · simp only [X1_toldHealths_S4, if_pos (show (6 : Int32) ≤ nI 6 by decide)]
theorem count_eq {n : Nat} (hn : n ≤ 6) {ty : Int32} {S : Nat → Int32} {x : Int32} : fX7_count ty (nI n) S x = X7_count_J71 ty (nI n) S x (sumI (fun i => if S (24 + i) = -9 then 0 else 1) n) (sumI (fun i => if S (59 + i) ≤ 0 then 0 else 1) n) := by
  unfold fX7_count
  refine it3_run n (fun j => sumI (fun i => if S (24 + i) = -9 then 0 else 1) j) (fun j => sumI (fun i => if S (59 + i) ≤ 0 then 0 else 1) j) (fun i => nI i) _ (fun i hi self => ?_) (fun self => ?_) 100000 (by omega)
  · have ok : okx (nI (24 + i)) 67 := okx_nI (by omega) (by omega)
    have ok2 : okx (nI (59 + i)) 67 := okx_nI (by omega) (by omega)
    simp only [X7_count_S12, X7_count_J42, X7_count_J63, if_neg (nI_ge (a := i) (b := n) hi (by omega)), L24, L59, gd_t ok, gd_t ok2, nI_clamp (show 24 + i < 2 ^ 31 by omega), nI_clamp (show 59 + i < 2 ^ 31 by omega), lets_def, Lp1, sumI]
    by_cases hc : S (24 + i) = -9
    · by_cases hd : S (59 + i) ≤ 0
      · simp only [if_pos hc, if_pos hd]
      · simp only [if_pos hc, if_neg hd]
    · by_cases hd : S (59 + i) ≤ 0
      · simp only [if_neg hc, if_pos hd]
      · simp only [if_neg hc, if_neg hd]
  · simp only [X7_count_S12, if_pos (nI_le (Nat.le_refl n) (by omega))]
theorem cl54 : (54 : Int32).toNatClampNeg = 54 ∧ (55 : Int32).toNatClampNeg = 55 ∧ (56 : Int32).toNatClampNeg = 56 ∧ (57 : Int32).toNatClampNeg = 57 := ⟨rfl, rfl, rfl, rfl⟩
theorem sim_count : SimOp_count Alike9 := by
  unfold SimOp_count
  intro z_text_length z_text_bytes z_village_houses z_village_law z_village_pride z_village_memory z_village_eats z_village_barred z_now_eaten z_now_year z_now_lot z_now_weights_cells z_now_brought z_now_left z_now_spoons z_now_health z_firstImage_eaten z_firstImage_year z_firstImage_lot z_firstImage_weights_cells z_firstImage_brought z_firstImage_left z_firstImage_spoons z_firstImage_health z_secondImage_eaten z_secondImage_year z_secondImage_lot z_secondImage_weights_cells z_secondImage_brought z_secondImage_left z_secondImage_spoons z_secondImage_health z_keptImages z_asked zb_trace zb_text zb_typed zb_eats zb_barred zb_laws zb_houses zb_s zb_kept zb_isKept x1 hs9
  obtain ⟨n, hn, hT, hV, hN, hK, hA⟩ := hs9
  obtain ⟨rfl, rfl, -, -, -, v6, v7, v8, v9⟩ := id hV
  obtain ⟨a1, a2, a3, a4, a5, a6, a7, a8, a9, b1, b2, b3, b4, b5⟩ := id hN
  obtain ⟨t, ht, h1, h2, h3⟩ := id hT
  have eB : sumI (fun i => if z_now_brought i = -9 then (0 : Int32) else 1) 6 = sumI (fun i => if zb_s (24 + i) = -9 then 0 else 1) n := by
    rw [sumI_congr (g := fun i => if zb_s (24 + i) = -9 then 0 else 1) (fun i hi => by rw [a4 i hi])]
    exact sumI_tail hn (fun i hi h6 => by rw [a6 i hi h6, if_pos rfl])
  have eH : sumI (fun i => if z_now_health i = 0 then (0 : Int32) else 1) 6 = sumI (fun i => if zb_s (59 + i) ≤ 0 then 0 else 1) n := by
    rw [sumI_congr (g := fun i => if zb_s (59 + i) ≤ 0 then 0 else 1) (fun i hi => by
      rcases b1 i hi with ⟨p, q⟩ | ⟨p, q⟩ | ⟨p, q⟩ <;> rw [p, q] <;> decide)]
    exact sumI_tail hn (fun i hi h6 => by rw [b2 i hi h6]; decide)
  have eL : sumI z_now_left 4 = zb_s 54 + zb_s 55 + zb_s 56 + zb_s 57 := by
    simp only [sumI, Int32.zero_add]
    rw [a7 0 (by omega), a7 1 (by omega), a7 2 (by omega), a7 3 (by omega)]
  have hb : ∀ i, i < 6 → z_now_brought i = -9 ∨ ∃ k, k < 4 ∧ z_now_brought i = nI k := fun i hi => by rw [a4 i hi]; exact a5 i hi
  obtain ⟨c4, c5, c6, c7⟩ := cl54
  by_cases h0 : x1 = 0
  · subst h0
    refine ⟨nI n, (nI n, 0), rfl, ?_, rfl, al_of n hn hT hV hN hK hA⟩
    rw [count_eq hn]; rfl
  by_cases h1' : x1 = 1
  · subst h1'
    refine ⟨sumI (fun i => if z_now_brought i = -9 then (0 : Int32) else 1) 6, (sumI (fun i => if zb_s (24 + i) = -9 then (0 : Int32) else 1) n, 0), ?_, ?_, eB, al_of n hn hT hV hN hK hA⟩
    · simp only [fX6_count, if_neg one_ne, if_pos, bringers_eq hb, some_bind9]
    · rw [count_eq hn]; rfl
  by_cases h2' : x1 = 2
  · subst h2'
    refine ⟨sumI z_now_left 4, (zb_s 54 + zb_s 55 + zb_s 56 + zb_s 57, 0), ?_, ?_, eL, al_of n hn hT hV hN hK hA⟩
    · simp only [fX6_count, if_neg (show ¬ (2 : Int32) = 0 by decide), if_neg (show ¬ (2 : Int32) = 1 by decide), if_pos, spoonsLeft_eq, some_bind9]
    · rw [count_eq hn]; rfl
  by_cases h3' : x1 = 3
  · subst h3'
    refine ⟨sumI (fun i => if z_now_health i = 0 then (0 : Int32) else 1) 6, (sumI (fun i => if zb_s (59 + i) ≤ 0 then (0 : Int32) else 1) n, 0), ?_, ?_, eH, al_of n hn hT hV hN hK hA⟩
    · simp only [fX6_count, if_neg (show ¬ (3 : Int32) = 0 by decide), if_neg (show ¬ (3 : Int32) = 1 by decide), if_neg (show ¬ (3 : Int32) = 2 by decide), if_pos, toldHealths_eq, some_bind9]
    · rw [count_eq hn]; rfl
  by_cases h4' : x1 = 4
  · subst h4'
    refine ⟨z_now_year, (zb_s 65, 0), rfl, ?_, b4, al_of n hn hT hV hN hK hA⟩
    rw [count_eq hn]; rfl
  by_cases h5' : x1 = 5
  · subst h5'
    refine ⟨z_text_length, (zb_typed, 0), rfl, ?_, by show z_text_length = zb_typed; rw [h1, h2], al_of n hn hT hV hN hK hA⟩
    rw [count_eq hn]; rfl
  refine ⟨-1, (-1, 0), ?_, ?_, rfl, al_of n hn hT hV hN hK hA⟩
  · simp only [fX6_count, if_neg h0, if_neg h1', if_neg h2', if_neg h3', if_neg h4', if_neg h5']
  · rw [count_eq hn]
    simp only [X7_count_J71, lets_def, if_neg h0, if_neg h1', if_neg h2', if_neg h3', if_neg h4', if_neg h5']
/-- spoons of a sort that were brought -/
def spB (b ea : Nat → Int32) (pr x : Int32) : Nat → Int32 := sumI (fun h => if b h = x then ea h + pr else 0)
theorem dish_eq {pr : Int32} {ea : Nat → Int32} {h : Nat} (hh : h < 6) : fX6_dish pr ea (nI h) = some (ea h + pr) := by
  have ok : okx (nI h) 6 := okx_nI hh (by omega)
  simp only [fX6_dish, gd_t ok, nI_clamp (show h < 2 ^ 31 by omega)]
theorem spoonsBrought_eq {pr : Int32} {ea b : Nat → Int32} {x : Int32} : fX6_spoonsBrought pr ea b x = some (spB b ea pr x 6) := by
  unfold fX6_spoonsBrought
  refine it2_run 6 (fun i => spB b ea pr x i) (fun i => nI i) _ (fun i hi self => ?_) (fun self => ?_) 100000 (by decide)
  · have ok : okx (nI i) 6 := okx_nI hi (by omega)
    simp only [X6_spoonsBrought_S4, X6_spoonsBrought_J31, if_neg (show ¬ (6 : Int32) ≤ nI i from nI_ge (a := i) (b := 6) hi (by omega)), gd_t ok, nI_clamp (show i < 2 ^ 31 by omega), dish_eq hi, some_bind9, lets_def, Lp1]
    by_cases hc : b i = x
    · simp only [if_pos hc, spB, sumI]
    · simp only [if_neg hc, spB, sumI, Int32.add_zero]
  · simp only [X6_spoonsBrought_S4, if_pos (show (6 : Int32) ≤ nI 6 by decide)]
theorem cl1 : (1 : Int32).toNatClampNeg = 1 := rfl
theorem spoonsOfM_eq {n : Nat} (hn : n ≤ 6) {ea la S : Nat → Int32} {x : Int32} : fX7_spoonsOf (nI n) ea la S x = some (spB (fun h => S (24 + h)) ea (la 1) x n) := by
  unfold fX7_spoonsOf
  refine it2_run n (fun i => spB (fun h => S (24 + h)) ea (la 1) x i) (fun i => nI i) _ (fun i hi self => ?_) (fun self => ?_) 100000 (by omega)
  · have ok : okx (nI (24 + i)) 67 := okx_nI (by omega) (by omega)
    have ok2 : okx (nI i) 12 := okx_nI (by omega) (by omega)
    simp only [X7_spoonsOf_S4, X7_spoonsOf_J43, if_neg (nI_ge (a := i) (b := n) hi (by omega)), L24, gd_t ok, gd_t ok2, nI_clamp (show 24 + i < 2 ^ 31 by omega), nI_clamp (show i < 2 ^ 31 by omega), cl1, lets_def, Lp1]
    by_cases hc : S (24 + i) = x
    · simp only [if_pos hc, spB, sumI]
    · simp only [if_neg hc, spB, sumI]
  · simp only [X7_spoonsOf_S4, if_pos (nI_le (Nat.le_refl n) (by omega))]
theorem sp_alike {n : Nat} (hn : n ≤ 6) {b S ea mea : Nat → Int32} {pr x : Int32} (h1 : ∀ h, h < 6 → b h = S (24 + h)) (h2 : ∀ h, n ≤ h → h < 6 → S (24 + h) = -9) (h3 : ∀ h, h < n → ea h = mea h) (hx : ¬ (-9 : Int32) = x) : spB b ea pr x 6 = spB (fun h => S (24 + h)) mea pr x n := by
  unfold spB
  rw [sumI_congr (g := fun h => if S (24 + h) = x then ea h + pr else 0) (fun i hi => by rw [h1 i hi])]
  rw [sumI_tail hn (fun i hi h6 => by rw [h2 i hi h6, if_neg hx])]
  exact sumI_congr (fun i hi => by rw [h3 i hi])
theorem sim_table : SimOp_table Alike9 := by
  unfold SimOp_table
  intro z_text_length z_text_bytes z_village_houses z_village_law z_village_pride z_village_memory z_village_eats z_village_barred z_now_eaten z_now_year z_now_lot z_now_weights_cells z_now_brought z_now_left z_now_spoons z_now_health z_firstImage_eaten z_firstImage_year z_firstImage_lot z_firstImage_weights_cells z_firstImage_brought z_firstImage_left z_firstImage_spoons z_firstImage_health z_secondImage_eaten z_secondImage_year z_secondImage_lot z_secondImage_weights_cells z_secondImage_brought z_secondImage_left z_secondImage_spoons z_secondImage_health z_keptImages z_asked zb_trace zb_text zb_typed zb_eats zb_barred zb_laws zb_houses zb_s zb_kept zb_isKept x1 x2 hs9
  obtain ⟨n, hn, hT, hV, hN, hK, hA⟩ := hs9
  obtain ⟨rfl, rfl, -, ⟨rfl, -⟩, -, v6, v7, v8, v9⟩ := id hV
  obtain ⟨a1, a2, a3, a4, a5, a6, a7, a8, a9, b1, b2, b3, b4, b5⟩ := id hN
  rcases sort_cases x1 with ⟨k, hk, rfl, sx, sm⟩ | ⟨sx, sm⟩
  · have h9 : ¬ (-9 : Int32) = nI k := m9_ne k (by omega)
    rcases three_cases x2 with ⟨rfl | rfl | rfl, hi⟩ | ⟨h0, h1, h2, hi⟩
    · refine ⟨spB z_now_brought z_village_eats (zb_laws 1) (nI k) 6, (spB (fun h => zb_s (24 + h)) zb_eats (zb_laws 1) (nI k) n, 0), ?_, ?_, sp_alike hn a4 a6 (fun h hh => (v6 h hh).1) h9, al_of n hn hT hV hN hK hA⟩
      · simp only [fX6_table, sx, some_bind9, if_neg one_ne, if_pos, spoonsBrought_eq]
      · simp only [fX7_table, sm, hi, some_bind9, if_neg one_ne, if_pos, spoonsOfM_eq hn]
    · have ok : okx (nI k) 4 := okx_nI hk (by omega)
      have ok2 : okx (nI (54 + k)) 67 := okx_nI (by omega) (by omega)
      refine ⟨z_now_left k, (zb_s (54 + k), 0), ?_, ?_, a7 k hk, al_of n hn hT hV hN hK hA⟩
      · simp only [fX6_table, sx, some_bind9, if_neg one_ne, if_pos, gd_t ok, nI_clamp (show k < 2 ^ 31 by omega)]
      · simp only [fX7_table, sm, hi, some_bind9, if_neg one_ne, if_pos, L54, gd_t ok2, nI_clamp (show 54 + k < 2 ^ 31 by omega)]
    · refine ⟨cntB z_now_brought (nI k) 6, (cntB (fun h => zb_s (24 + h)) (nI k) n, 0), ?_, ?_, cnt_alike hn a4 a6 h9, al_of n hn hT hV hN hK hA⟩
      · simp only [fX6_table, sx, some_bind9, if_neg one_ne, if_neg (show ¬ (2 : Int32) = 0 by decide), if_neg (show ¬ (2 : Int32) = 1 by decide), if_pos, bringersOf_eq]
      · simp only [fX7_table, sm, hi, some_bind9, if_neg one_ne, if_neg (show ¬ (2 : Int32) = 0 by decide), if_neg (show ¬ (2 : Int32) = 1 by decide), broughtBy_eq hn]
    · refine ⟨-1, (-1, 0), ?_, ?_, rfl, al_of n hn hT hV hN hK hA⟩
      · simp only [fX6_table, sx, some_bind9, if_neg one_ne, if_neg h0, if_neg h1, if_neg h2]
      · simp only [fX7_table, sm, hi, some_bind9, if_neg one_ne, if_true]
  · refine ⟨-1, (-1, 0), ?_, ?_, rfl, al_of n hn hT hV hN hK hA⟩
    · simp only [fX6_table, sx, some_bind9, if_true]
    · simp only [fX7_table, sm, some_bind9, if_true]
theorem now_bring {n h k : Nat} (hn : n ≤ 6) (hh : h < n) (hk : k < 4) {ea ye lo d : Int32} {wc br le sp he S : Nat → Int32} (H : NowOk n ea ye lo wc br le sp he S) : NowOk n ea ye lo wc (upd br h (nI k)) (upd le k (le k + d)) sp he (upd (upd S (24 + h) (nI k)) (54 + k) (S (54 + k) + d)) := by
  obtain ⟨a1, a2, a3, a4, a5, a6, a7, a8, a9, b1, b2, b3, b4, b5⟩ := H
  refine ⟨fun i hi => ?_, fun i hi => ?_, fun i h1 hi => ?_, fun i hi => ?_, fun i hi => ?_, fun i h1 hi => ?_, fun i hi => ?_, fun i hi => ?_, fun i h1 hi => ?_, fun i hi => ?_, fun i h1 hi => ?_, ?_, ?_, ?_⟩
  · rw [pk_un (by omega), pk_un (by omega)]; exact a1 i hi
  · rw [pk_un (by omega), pk_un (by omega)]; exact a2 i hi
  · rw [pk_un (by omega), pk_un (by omega)]; exact a3 i h1 hi
  · rw [pk_un (j := 24 + i) (by omega)]
    by_cases e : i = h
    · subst e; rw [pk_us, pk_us]
    · rw [pk_un e, pk_un (by omega)]; exact a4 i hi
  · rw [pk_un (j := 24 + i) (by omega)]
    by_cases e : i = h
    · subst e; rw [pk_us]; exact Or.inr ⟨k, hk, rfl⟩
    · rw [pk_un (by omega)]; exact a5 i hi
  · rw [pk_un (j := 24 + i) (by omega), pk_un (by omega)]; exact a6 i h1 hi
  · by_cases e : i = k
    · subst e; rw [pk_us, pk_us, a7 i hi]
    · rw [pk_un e, pk_un (by omega), pk_un (by omega)]; exact a7 i hi
  · rw [pk_un (by omega), pk_un (by omega)]; exact a8 i hi
  · rw [pk_un (by omega), pk_un (by omega)]; exact a9 i h1 hi
  · rw [pk_un (j := 59 + i) (by omega), pk_un (by omega)]; exact b1 i hi
  · rw [pk_un (by omega), pk_un (by omega)]; exact b2 i h1 hi
  · rw [pk_un (by omega), pk_un (by omega)]; exact b3
  · rw [pk_un (by omega), pk_un (by omega)]; exact b4
  · rw [pk_un (by omega), pk_un (by omega)]; exact b5
theorem bring_eq {h k : Nat} (hh : h < 6) (hk : k < 4) {ea la S : Nat → Int32} : fX7_bring ea la S (nI h) (nI k) = some (ea h + la 1, upd (upd S (24 + h) (nI k)) (54 + k) (S (54 + k) + (ea h + la 1))) := by
  have ok : okx (nI (24 + h)) 67 := okx_nI (by omega) (by omega)
  have ok2 : okx (nI (54 + k)) 67 := okx_nI (by omega) (by omega)
  have ok3 : okx (nI h) 12 := okx_nI (by omega) (by omega)
  simp only [fX7_bring, L24, L54, gd_t ok, gd_t ok2, gd_t ok3, lets_def, nI_clamp (show 24 + h < 2 ^ 31 by omega), nI_clamp (show 54 + k < 2 ^ 31 by omega), nI_clamp (show h < 2 ^ 31 by omega), cl1, pk_un (f := S) (k := 24 + h) (x := nI k) (show 54 + k ≠ 24 + h by omega)]
theorem carry_eq {h k : Nat} (hh : h < 6) (hk : k < 4) {br le : Nat → Int32} {d : Int32} : fX1_carry br le (nI h) (nI k) d = some (upd br h (nI k), upd le k (le k + d)) := by
  have ok : okx (nI h) 6 := okx_nI (by omega) (by omega)
  have ok2 : okx (nI k) 4 := okx_nI (by omega) (by omega)
  simp only [fX1_carry, gd_t ok, gd_t ok2, lets_def, nI_clamp (show h < 2 ^ 31 by omega), nI_clamp (show k < 2 ^ 31 by omega)]
theorem sim_brings : SimOp_brings Alike9 := by
  unfold SimOp_brings
  intro z_text_length z_text_bytes z_village_houses z_village_law z_village_pride z_village_memory z_village_eats z_village_barred z_now_eaten z_now_year z_now_lot z_now_weights_cells z_now_brought z_now_left z_now_spoons z_now_health z_firstImage_eaten z_firstImage_year z_firstImage_lot z_firstImage_weights_cells z_firstImage_brought z_firstImage_left z_firstImage_spoons z_firstImage_health z_secondImage_eaten z_secondImage_year z_secondImage_lot z_secondImage_weights_cells z_secondImage_brought z_secondImage_left z_secondImage_spoons z_secondImage_health z_keptImages z_asked zb_trace zb_text zb_typed zb_eats zb_barred zb_laws zb_houses zb_s zb_kept zb_isKept x1 x2 hs9
  obtain ⟨n, hn, hT, hV, hN, hK, hA⟩ := hs9
  obtain ⟨rfl, rfl, -, ⟨rfl, -⟩, -, v6, v7, v8, v9⟩ := id hV
  obtain ⟨a1, a2, a3, a4, a5, a6, a7, a8, a9, b1, b2, ⟨rfl, b3⟩, b4, b5⟩ := id hN
  rcases house_cases hn x1 with ⟨h, hh, rfl, hx, hm⟩ | ⟨hx, hm⟩
  · rcases sort_cases x2 with ⟨k, hk, rfl, sx, sm⟩ | ⟨sx, sm⟩
    · have h6 : h < 6 := by omega
      have ok : okx (nI (4 * h + k)) 67 := okx_nI (by omega) (by omega)
      have ok2 : okx (nI (24 + h)) 67 := okx_nI (by omega) (by omega)
      have ok3 : okx (nI h) 6 := okx_nI (by omega) (by omega)
      have hc : (nI h).toNatClampNeg = h := nI_clamp (by omega)
      have ew : z_now_weights_cells (4 * h + k) = zb_s (4 * h + k) := a1 _ (by omega)
      by_cases hw : zb_s (4 * h + k) = 0
      · refine ⟨(-2, z_now_brought, z_now_left), (-2, 0, zb_s), ?_, ?_, rfl, al_of n hn hT hV hN hK hA⟩
        · simp only [fX6_brings, hx, sx, some_bind9, if_neg one_ne, of_eq h6 hk, ew, if_pos hw]
        · simp only [fX7_brings, X7_brings_J60, hm, sm, some_bind9, if_neg one_ne, nI4', gd_t ok, nI_clamp (show 4 * h + k < 2 ^ 31 by omega), if_pos hw]
      by_cases hb : zb_s (24 + h) = -9
      · have hb' : z_now_brought h = -9 := (a4 h h6).trans hb
        rcases b3 with he | he
        · refine ⟨(z_village_eats h + zb_laws 1, upd z_now_brought h (nI k), upd z_now_left k (z_now_left k + (z_village_eats h + zb_laws 1))), (zb_eats h + zb_laws 1, 0, upd (upd zb_s (24 + h) (nI k)) (54 + k) (zb_s (54 + k) + (zb_eats h + zb_laws 1))), ?_, ?_, ?_, al_of n hn hT hV ?_ hK hA⟩
          · simp only [fX6_brings, hx, sx, some_bind9, if_neg one_ne, of_eq h6 hk, ew, if_neg hw, gd_t ok3, hc, hb', if_pos he, dish_eq h6, carry_eq h6 hk, if_pos]
          · simp only [fX7_brings, X7_brings_J60, hm, sm, some_bind9, if_neg one_ne, nI4', gd_t ok, nI_clamp (show 4 * h + k < 2 ^ 31 by omega), if_neg hw, L24, gd_t ok2, nI_clamp (show 24 + h < 2 ^ 31 by omega), if_pos hb, cl58, he, if_neg (show ¬ (0 : Int32) = 1 by decide), bring_eq h6 hk]
          · show z_village_eats h + zb_laws 1 = zb_eats h + zb_laws 1
            rw [(v6 h hh).1]
          · have := now_bring (d := z_village_eats h + zb_laws 1) hn hh hk hN
            rw [(v6 h hh).1] at this ⊢
            exact this
        · refine ⟨(-2, z_now_brought, z_now_left), (-2, 0, zb_s), ?_, ?_, rfl, al_of n hn hT hV hN hK hA⟩
          · simp only [fX6_brings, hx, sx, some_bind9, if_neg one_ne, of_eq h6 hk, ew, if_neg hw, gd_t ok3, hc, hb', he, if_pos]
          · simp only [fX7_brings, X7_brings_J60, hm, sm, some_bind9, if_neg one_ne, nI4', gd_t ok, nI_clamp (show 4 * h + k < 2 ^ 31 by omega), if_neg hw, L24, gd_t ok2, nI_clamp (show 24 + h < 2 ^ 31 by omega), if_pos hb, cl58, he, if_pos]
      · have hb' : ¬ z_now_brought h = -9 := fun e => hb ((a4 h h6).symm.trans e)
        refine ⟨(-2, z_now_brought, z_now_left), (-2, 0, zb_s), ?_, ?_, rfl, al_of n hn hT hV hN hK hA⟩
        · simp only [fX6_brings, hx, sx, some_bind9, if_neg one_ne, of_eq h6 hk, ew, if_neg hw, gd_t ok3, hc, if_neg hb']
        · simp only [fX7_brings, X7_brings_J60, hm, sm, some_bind9, if_neg one_ne, nI4', gd_t ok, nI_clamp (show 4 * h + k < 2 ^ 31 by omega), if_neg hw, L24, gd_t ok2, nI_clamp (show 24 + h < 2 ^ 31 by omega), if_neg hb]
    · refine ⟨(-1, z_now_brought, z_now_left), (-1, 0, zb_s), ?_, ?_, rfl, al_of n hn hT hV hN hK hA⟩
      · simp only [fX6_brings, hx, sx, some_bind9, if_neg one_ne, if_true]
      · simp only [fX7_brings, hm, sm, some_bind9, if_neg one_ne, if_true]
  · refine ⟨(-1, z_now_brought, z_now_left), (-1, 0, zb_s), ?_, ?_, rfl, al_of n hn hT hV hN hK hA⟩
    · simp only [fX6_brings, hx, some_bind9, if_true]
    · simp only [fX7_brings, hm, some_bind9, if_true]
