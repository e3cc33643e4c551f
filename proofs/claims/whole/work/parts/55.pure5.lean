def cntW (w : Nat → Int32) (h : Nat) : Nat → Int32 := sumI (fun s => if w (4 * h + s) ≤ 0 then 0 else 1)
theorem sortsOf_eq {w : Nat → Int32} {h : Nat} (hh : h < 6) : fX4_sortsOf w (nI h) = some (cntW w h 4) := by
  unfold fX4_sortsOf
  refine it2_run 4 (fun i => cntW w h i) (fun i => nI i) _ (fun i hi self => ?_) (fun self => ?_) 100000 (by decide)
  · simp only [X4_sortsOf_S4, X4_sortsOf_J21, if_neg (show ¬ (4 : Int32) ≤ nI i from nI_ge (a := i) (b := 4) hi (by omega)), of_eq hh hi, some_bind9, lets_def, Lp1, cntW, sumI]
    by_cases hc : w (4 * h + i) ≤ 0
    · simp only [if_pos hc, Int32.add_zero]
    · simp only [if_neg hc]
  · simp only [X4_sortsOf_S4, if_pos (show (4 : Int32) ≤ nI 4 by decide)]
theorem rateM_eq {tr : Int64} {ea S : Nat → Int32} {x : Int32} {h : Nat} (hh : h < 6) : it2 (X7_rate_S35 tr ea S x (nI h)) 100000 (ea h) 0 = X7_rate_J69 tr ea S x (nI h) (ea h + cntW S h 4) := by
  refine it2_go 4 (fun i => ea h + cntW S h i) (fun i => nI i) _ (Int32.add_zero _).symm rfl (fun i hi self => ?_) (fun self => ?_) 100000 (by decide)
  · have ok : okx (nI (4 * h + i)) 67 := okx_nI (by omega) (by omega)
    simp only [X7_rate_S35, X7_rate_J61, if_neg (show ¬ (4 : Int32) ≤ nI i from nI_ge (a := i) (b := 4) hi (by omega)), nI4', gd_t ok, nI_clamp (show 4 * h + i < 2 ^ 31 by omega), lets_def, Lp1, cntW, sumI]
    by_cases hc : S (4 * h + i) ≤ 0
    · simp only [if_pos hc, Int32.add_assoc]
    · simp only [if_neg hc, Int32.add_assoc]
  · simp only [X7_rate_S35, if_pos (show (4 : Int32) ≤ nI 4 by decide)]
theorem six_cases (x : Int32) : ((x = 0 ∨ x = 1 ∨ x = 2 ∨ x = 3 ∨ x = 4 ∨ x = 5) ∧ fX7_in x 0 5 = some 1) ∨ (¬ x = 0 ∧ ¬ x = 1 ∧ ¬ x = 2 ∧ ¬ x = 3 ∧ ¬ x = 4 ∧ ¬ x = 5 ∧ fX7_in x 0 5 = some 0) := by
  by_cases h0 : x = 0
  · left; subst h0; exact ⟨by simp, by decide⟩
  by_cases h1 : x = 1
  · left; subst h1; exact ⟨by simp, by decide⟩
  by_cases h2 : x = 2
  · left; subst h2; exact ⟨by simp, by decide⟩
  by_cases h3 : x = 3
  · left; subst h3; exact ⟨by simp, by decide⟩
  by_cases h4 : x = 4
  · left; subst h4; exact ⟨by simp, by decide⟩
  by_cases h5 : x = 5
  · left; subst h5; exact ⟨by simp, by decide⟩
  right
  refine ⟨h0, h1, h2, h3, h4, h5, ?_⟩
  have e0 : x.toInt ≠ 0 := fun h => h0 (Int32.toInt_inj.mp h)
  have e1 : x.toInt ≠ 1 := fun h => h1 (Int32.toInt_inj.mp h)
  have e2 : x.toInt ≠ 2 := fun h => h2 (Int32.toInt_inj.mp h)
  have e3 : x.toInt ≠ 3 := fun h => h3 (Int32.toInt_inj.mp h)
  have e4 : x.toInt ≠ 4 := fun h => h4 (Int32.toInt_inj.mp h)
  have e5 : x.toInt ≠ 5 := fun h => h5 (Int32.toInt_inj.mp h)
  by_cases hl : x < 0
  · exact in_f1 hl
  · refine in_f2 ?_
    rw [Int32.lt_iff_toInt_lt] at hl ⊢
    show (5 : Int) < x.toInt
    have : ¬ x.toInt < 0 := hl
    omega
theorem l11 (a : Int64) : a + 10 + 1 = a + 11 := by rw [Int64.add_assoc]; rfl
theorem l101 (a : Int64) : a + 100 + 1 = a + 101 := by rw [Int64.add_assoc]; rfl
theorem l1011 (a : Int64) : a + 1000 + 10 + 1 = a + 1011 := by rw [Int64.add_assoc, Int64.add_assoc]; rfl
theorem l10101 (a : Int64) : a + 10000 + 100 + 1 = a + 10101 := by rw [Int64.add_assoc, Int64.add_assoc]; rfl
theorem l100001 (a : Int64) : a + 100000 + 1 = a + 100001 := by rw [Int64.add_assoc]; rfl
theorem sim_rate : SimOp_rate Alike9 := by
  unfold SimOp_rate
  intro z_text_length z_text_bytes z_village_houses z_village_law z_village_pride z_village_memory z_village_eats z_village_barred z_now_eaten z_now_year z_now_lot z_now_weights_cells z_now_brought z_now_left z_now_spoons z_now_health z_firstImage_eaten z_firstImage_year z_firstImage_lot z_firstImage_weights_cells z_firstImage_brought z_firstImage_left z_firstImage_spoons z_firstImage_health z_secondImage_eaten z_secondImage_year z_secondImage_lot z_secondImage_weights_cells z_secondImage_brought z_secondImage_left z_secondImage_spoons z_secondImage_health z_keptImages z_asked zb_trace zb_text zb_typed zb_eats zb_barred zb_laws zb_houses zb_s zb_kept zb_isKept x1 x2 hs9
  obtain ⟨n, hn, hT, hV, hN, hK, hA⟩ := hs9
  obtain ⟨rfl, rfl, -, -, -, v6, v7, v8, v9⟩ := id hV
  obtain ⟨a1, a2, a3, a4, a5, a6, a7, a8, a9, b1, b2, b3, b4, b5⟩ := id hN
  rcases house_cases hn x2 with ⟨h, hh, rfl, hx, hm⟩ | ⟨hx, hm⟩
  · have h6 : h < 6 := by omega
    have ok : okx (nI h) 6 := okx_nI (by omega) (by omega)
    have ok2 : okx (nI h) 12 := okx_nI (by omega) (by omega)
    have hc : (nI h).toNatClampNeg = h := nI_clamp (by omega)
    have eC : z_village_eats h + cntW z_now_weights_cells h 4 = zb_eats h + cntW zb_s h 4 := by
      rw [(v6 h hh).1]
      congr 1
      exact sumI_congr (fun s hs => by rw [a1 (4 * h + s) (by omega)])
    have eW : z_village_eats h - sumI (fun s => z_now_spoons (4 * h + s)) 4 = zb_eats h - sumI (fun s => zb_s (30 + (4 * h + s))) 4 := by
      rw [(v6 h hh).1, sumI_congr (fun i hi => a8 (4 * h + i) (by omega))]
    rcases six_cases x1 with ⟨rfl | rfl | rfl | rfl | rfl | rfl, hi⟩ | ⟨h0, h1, h2, h3, h4, h5, hi⟩
    · refine ⟨(z_village_eats h, z_asked + 1), (zb_eats h, 0, zb_trace + 1), ?_, ?_, (v6 h hh).1, al_of n hn hT hV hN hK (by show z_asked + 1 = zb_trace + 1; rw [hA])⟩
      · simp only [fX6_rate, fX6_asHouse, hx, some_bind9, if_neg one_ne, if_pos, lets_def, gd_t ok, hc, sortsOf_eq h6, allSpoons_eq h6]
      · simp only [fX7_rate, hi, hm, some_bind9, if_neg one_ne, gd_t ok2, hc, lets_def, rateM_eq h6, X7_rate_J69, eatenBy_eq h6, X7_rate_J143, if_pos, cl65]
    · refine ⟨(z_village_eats h + cntW z_now_weights_cells h 4, z_asked + 11), (zb_eats h + cntW zb_s h 4, 0, zb_trace + 11), ?_, ?_, eC, al_of n hn hT hV hN hK (by show z_asked + 11 = zb_trace + 11; rw [hA])⟩
      · simp only [fX6_rate, fX6_asCook, fX6_asHouse, hx, some_bind9, if_neg one_ne, if_neg (show ¬ (1 : Int32) = 0 by decide), if_pos, lets_def, gd_t ok, hc, sortsOf_eq h6, allSpoons_eq h6, l11]
      · simp only [fX7_rate, hi, hm, some_bind9, if_neg one_ne, gd_t ok2, hc, lets_def, rateM_eq h6, X7_rate_J69, eatenBy_eq h6, X7_rate_J143, if_neg (show ¬ (1 : Int32) = 0 by decide), if_pos, cl65]
    · refine ⟨(z_village_eats h - sumI (fun s => z_now_spoons (4 * h + s)) 4, z_asked + 101), (zb_eats h - sumI (fun s => zb_s (30 + (4 * h + s))) 4, 0, zb_trace + 101), ?_, ?_, eW, al_of n hn hT hV hN hK (by show z_asked + 101 = zb_trace + 101; rw [hA])⟩
      · simp only [fX6_rate, fX6_asWidow, fX6_asHouse, hx, some_bind9, if_neg one_ne, if_neg (show ¬ (2 : Int32) = 0 by decide), if_neg (show ¬ (2 : Int32) = 1 by decide), if_pos, lets_def, gd_t ok, hc, sortsOf_eq h6, allSpoons_eq h6, l101]
      · simp only [fX7_rate, hi, hm, some_bind9, if_neg one_ne, gd_t ok2, hc, lets_def, rateM_eq h6, X7_rate_J69, eatenBy_eq h6, X7_rate_J143, if_neg (show ¬ (2 : Int32) = 0 by decide), if_neg (show ¬ (2 : Int32) = 1 by decide), if_pos, cl65]
    · refine ⟨(2 * (z_village_eats h + cntW z_now_weights_cells h 4), z_asked + 1011), (2 * (zb_eats h + cntW zb_s h 4), 0, zb_trace + 1011), ?_, ?_, (congrArg (fun z => 2 * z) eC), al_of n hn hT hV hN hK (by show z_asked + 1011 = zb_trace + 1011; rw [hA])⟩
      · simp only [fX6_rate, fX6_asBaker, fX6_asCook, fX6_asHouse, hx, some_bind9, if_neg one_ne, if_neg (show ¬ (3 : Int32) = 0 by decide), if_neg (show ¬ (3 : Int32) = 1 by decide), if_neg (show ¬ (3 : Int32) = 2 by decide), if_pos, lets_def, gd_t ok, hc, sortsOf_eq h6, allSpoons_eq h6, l1011]
      · simp only [fX7_rate, hi, hm, some_bind9, if_neg one_ne, gd_t ok2, hc, lets_def, rateM_eq h6, X7_rate_J69, eatenBy_eq h6, X7_rate_J143, if_neg (show ¬ (3 : Int32) = 0 by decide), if_neg (show ¬ (3 : Int32) = 1 by decide), if_neg (show ¬ (3 : Int32) = 2 by decide), if_pos, cl65]
    · refine ⟨(z_village_eats h - sumI (fun s => z_now_spoons (4 * h + s)) 4 + nI h, z_asked + 10101), (zb_eats h - sumI (fun s => zb_s (30 + (4 * h + s))) 4 + nI h, 0, zb_trace + 10101), ?_, ?_, (congrArg (fun z => z + nI h) eW), al_of n hn hT hV hN hK (by show z_asked + 10101 = zb_trace + 10101; rw [hA])⟩
      · simp only [fX6_rate, fX6_asParson, fX6_asWidow, fX6_asHouse, hx, some_bind9, if_neg one_ne, if_neg (show ¬ (4 : Int32) = 0 by decide), if_neg (show ¬ (4 : Int32) = 1 by decide), if_neg (show ¬ (4 : Int32) = 2 by decide), if_neg (show ¬ (4 : Int32) = 3 by decide), if_pos, lets_def, gd_t ok, hc, sortsOf_eq h6, allSpoons_eq h6, l10101]
      · simp only [fX7_rate, hi, hm, some_bind9, if_neg one_ne, gd_t ok2, hc, lets_def, rateM_eq h6, X7_rate_J69, eatenBy_eq h6, X7_rate_J143, if_neg (show ¬ (4 : Int32) = 0 by decide), if_neg (show ¬ (4 : Int32) = 1 by decide), if_neg (show ¬ (4 : Int32) = 2 by decide), if_neg (show ¬ (4 : Int32) = 3 by decide), if_pos, cl65]
    · refine ⟨(z_village_eats h + z_now_year, z_asked + 100001), (zb_eats h + zb_s 65, 0, zb_trace + 100001), ?_, ?_, (by rw [(v6 h hh).1, b4]), al_of n hn hT hV hN hK (by show z_asked + 100001 = zb_trace + 100001; rw [hA])⟩
      · simp only [fX6_rate, fX6_asNewcomer, fX6_asHouse, hx, some_bind9, if_neg one_ne, if_neg (show ¬ (5 : Int32) = 0 by decide), if_neg (show ¬ (5 : Int32) = 1 by decide), if_neg (show ¬ (5 : Int32) = 2 by decide), if_neg (show ¬ (5 : Int32) = 3 by decide), if_neg (show ¬ (5 : Int32) = 4 by decide), if_pos, lets_def, gd_t ok, hc, sortsOf_eq h6, allSpoons_eq h6, l100001]
      · simp only [fX7_rate, hi, hm, some_bind9, if_neg one_ne, gd_t ok2, hc, lets_def, rateM_eq h6, X7_rate_J69, eatenBy_eq h6, X7_rate_J143, if_neg (show ¬ (5 : Int32) = 0 by decide), if_neg (show ¬ (5 : Int32) = 1 by decide), if_neg (show ¬ (5 : Int32) = 2 by decide), if_neg (show ¬ (5 : Int32) = 3 by decide), if_neg (show ¬ (5 : Int32) = 4 by decide), if_pos, cl65]
    · refine ⟨(-1000000, z_asked), (-1000000, 0, zb_trace), ?_, ?_, rfl, al_of n hn hT hV hN hK hA⟩
      · simp only [fX6_rate, hx, some_bind9, if_neg one_ne, if_neg h0, if_neg h1, if_neg h2, if_neg h3, if_neg h4, if_neg h5]
      · simp only [fX7_rate, hi, some_bind9, if_pos, X7_rate_J22]
  · refine ⟨(-1000000, z_asked), (-1000000, 0, zb_trace), ?_, ?_, rfl, al_of n hn hT hV hN hK hA⟩
    · simp only [fX6_rate, hx, some_bind9, if_true]
    · rcases six_cases x1 with ⟨-, hi⟩ | ⟨-, -, -, -, -, -, hi⟩
      · simp only [fX7_rate, hi, hm, some_bind9, if_neg one_ne, if_pos, X7_rate_J22]
      · simp only [fX7_rate, hi, some_bind9, if_pos, X7_rate_J22]
theorem cpy_step {f g : Nat → Int32} {sp dp i : Nat} : upd (va_cpy f g sp dp i) (dp + i) (f (sp + i)) = va_cpy f g sp dp (i + 1) := by
  funext j
  by_cases e : j = dp + i
  · subst e
    rw [pk_us, pk_cpy_in (by omega) (by omega)]
    congr 1
    omega
  · rw [pk_un e]
    by_cases h : dp ≤ j ∧ j < dp + i
    · rw [pk_cpy_in h.1 h.2, pk_cpy_in h.1 (by omega)]
    · rw [pk_cpy_out (by omega), pk_cpy_out (by omega)]
theorem cpy_0 {f g : Nat → Int32} {sp dp : Nat} : va_cpy f g sp dp 0 = g := by
  funext j
  exact pk_cpy_out (by omega)
theorem L67 (a i : Nat) : (67 : Int32) * nI a + nI i = nI (67 * a + i) := by
  have e : (67 : Int32) = nI 67 := rfl
  rw [e, pk_mul, nI_add]
theorem keepM_eq {S kp ik : Nat → Int32} {a : Nat} (ha : a < 2) : it2 (X7_keep_S18 S ik (nI a)) 100000 0 kp = some (S 65, 0, va_cpy S kp 0 (67 * a) 67, upd ik a 1) := by
  refine it2_go 67 (fun i => nI i) (fun i => va_cpy S kp 0 (67 * a) i) _ rfl cpy_0.symm (fun i hi self => ?_) (fun self => ?_) 100000 (by decide)
  · have ok : okx (nI i) 67 := okx_nI hi (by omega)
    have ok2 : okx (nI (67 * a + i)) 134 := okx_nI (by omega) (by omega)
    have e := cpy_step (f := S) (g := kp) (sp := 0) (dp := 67 * a) (i := i)
    rw [Nat.zero_add] at e
    simp only [X7_keep_S18, if_neg (show ¬ (67 : Int32) ≤ nI i from nI_ge (a := i) (b := 67) hi (by omega)), gd_t ok, L67, gd_t ok2, nI_clamp (show i < 2 ^ 31 by omega), nI_clamp (show 67 * a + i < 2 ^ 31 by omega), lets_def, Lp1, e]
  · have ok : okx (nI a) 2 := okx_nI ha (by omega)
    simp only [X7_keep_S18, X7_keep_J47, if_pos (show (67 : Int32) ≤ nI 67 by decide), gd_t ok, nI_clamp (show a < 2 ^ 31 by omega), lets_def, cl65]
    rfl
theorem backM_eq {S kp : Nat → Int32} {a : Nat} (ha : a < 2) : it2 (X7_back_S30 kp (nI a)) 100000 0 S = some (va_cpy kp S (67 * a) 0 67 65, 0, va_cpy kp S (67 * a) 0 67) := by
  refine it2_go 67 (fun i => nI i) (fun i => va_cpy kp S (67 * a) 0 i) _ rfl cpy_0.symm (fun i hi self => ?_) (fun self => ?_) 100000 (by decide)
  · have ok : okx (nI i) 67 := okx_nI hi (by omega)
    have ok2 : okx (nI (67 * a + i)) 134 := okx_nI (by omega) (by omega)
    have e := cpy_step (f := kp) (g := S) (sp := 67 * a) (dp := 0) (i := i)
    rw [Nat.zero_add] at e
    simp only [X7_back_S30, if_neg (show ¬ (67 : Int32) ≤ nI i from nI_ge (a := i) (b := 67) hi (by omega)), gd_t ok, L67, gd_t ok2, nI_clamp (show i < 2 ^ 31 by omega), nI_clamp (show 67 * a + i < 2 ^ 31 by omega), lets_def, Lp1, e]
  · simp only [X7_back_S30, X7_back_J59, if_pos (show (67 : Int32) ≤ nI 67 by decide), cl65]
theorem copyFrom_eq {w b f s h : Nat → Int32} {e y l : Int32} {w' b' f' s' h' : Nat → Int32} (he : isB e) : fX1_copyFrom w b f s h e y l w' b' f' s' h' = some (e, y, l, va_cpy w' w 0 0 24, va_cpy b' b 0 0 6, va_cpy f' f 0 0 4, va_cpy s' s 0 0 24, va_cpy h' h 0 0 6) := by
  simp only [fX1_copyFrom, fX4_copyFrom, lets_def, some_bind9, gd_t he]
theorem cpy0_in {f g : Nat → Int32} {m j : Nat} (h : j < m) : va_cpy f g 0 0 m j = f j := by
  rw [pk_cpy_in (by omega) (by omega)]
  congr 1
  omega
theorem sim_keep : SimOp_keep Alike9 := by
  unfold SimOp_keep
  intro z_text_length z_text_bytes z_village_houses z_village_law z_village_pride z_village_memory z_village_eats z_village_barred z_now_eaten z_now_year z_now_lot z_now_weights_cells z_now_brought z_now_left z_now_spoons z_now_health z_firstImage_eaten z_firstImage_year z_firstImage_lot z_firstImage_weights_cells z_firstImage_brought z_firstImage_left z_firstImage_spoons z_firstImage_health z_secondImage_eaten z_secondImage_year z_secondImage_lot z_secondImage_weights_cells z_secondImage_brought z_secondImage_left z_secondImage_spoons z_secondImage_health z_keptImages z_asked zb_trace zb_text zb_typed zb_eats zb_barred zb_laws zb_houses zb_s zb_kept zb_isKept x1 hs9
  obtain ⟨n, hn, hT, hV, hN, hK, hA⟩ := hs9
  obtain ⟨a1, a2, a3, a4, a5, a6, a7, a8, a9, b1, b2, ⟨b3, b3'⟩, b4, b5⟩ := id hN
  obtain ⟨a, b, ha, hb, k1, k2, k3, k4, k5⟩ := id hK
  have hB : isB z_now_eaten := by rw [b3]; exact b3'
  rcases half_cases x1 with ⟨rfl | rfl, hx, hm⟩ | ⟨h0, h1, hx, hm⟩
  · refine ⟨(z_now_year, z_keptImages ||| ((1 : Int32) <<< ((0 : Int32) &&& 31)), z_now_eaten, z_now_year, z_now_lot, va_cpy z_now_weights_cells z_firstImage_weights_cells 0 0 24, va_cpy z_now_brought z_firstImage_brought 0 0 6, va_cpy z_now_left z_firstImage_left 0 0 4, va_cpy z_now_spoons z_firstImage_spoons 0 0 24, va_cpy z_now_health z_firstImage_health 0 0 6, z_secondImage_eaten, z_secondImage_year, z_secondImage_lot, z_secondImage_weights_cells, z_secondImage_brought, z_secondImage_left, z_secondImage_spoons, z_secondImage_health), (zb_s 65, 0, va_cpy zb_s zb_kept 0 0 67, upd zb_isKept 0 1), ?_, ?_, b4, al_of n hn hT hV hN ?_ hA⟩
    · simp only [fX6_keep, hx, some_bind9, if_neg one_ne, if_pos, copyFrom_eq hB, lets_def]
    · simp only [fX7_keep, hm, some_bind9, if_neg one_ne]
      exact keepM_eq (a := 0) (by omega)
    · refine ⟨1, b, by omega, hb, (by show upd zb_isKept 0 1 0 = nI 1; exact pk_us), (by show upd zb_isKept 0 1 1 = nI b; rw [pk_un (by omega)]; exact k2), ?_, fun _ => ?_, fun e => ?_⟩
      · show z_keptImages ||| ((1 : Int32) <<< ((0 : Int32) &&& 31)) = _
        rw [k3]
        rcases (show a = 0 ∨ a = 1 by omega) with rfl | rfl <;> rcases (show b = 0 ∨ b = 1 by omega) with rfl | rfl <;> decide +kernel
      · exact now_cg hN (fun k hk => cpy0_in hk) (fun i hi => cpy0_in hi) (fun i hi => cpy0_in hi) (fun i hi => cpy0_in hi) (fun i hi => cpy0_in hi) (fun i hi => cpy0_in hi)
      · refine now_cg (k5 e) (fun k hk => ?_) (fun _ _ => rfl) (fun _ _ => rfl) (fun _ _ => rfl) (fun _ _ => rfl) (fun _ _ => rfl)
        exact pk_cpy_out (by omega)
  · refine ⟨(z_now_year, z_keptImages ||| ((1 : Int32) <<< ((1 : Int32) &&& 31)), z_firstImage_eaten, z_firstImage_year, z_firstImage_lot, z_firstImage_weights_cells, z_firstImage_brought, z_firstImage_left, z_firstImage_spoons, z_firstImage_health, z_now_eaten, z_now_year, z_now_lot, va_cpy z_now_weights_cells z_secondImage_weights_cells 0 0 24, va_cpy z_now_brought z_secondImage_brought 0 0 6, va_cpy z_now_left z_secondImage_left 0 0 4, va_cpy z_now_spoons z_secondImage_spoons 0 0 24, va_cpy z_now_health z_secondImage_health 0 0 6), (zb_s 65, 0, va_cpy zb_s zb_kept 0 67 67, upd zb_isKept 1 1), ?_, ?_, b4, al_of n hn hT hV hN ?_ hA⟩
    · simp only [fX6_keep, hx, some_bind9, if_neg one_ne, copyFrom_eq hB, lets_def]
    · simp only [fX7_keep, hm, some_bind9, if_neg one_ne]
      exact keepM_eq (a := 1) (by omega)
    · refine ⟨a, 1, ha, by omega, (by show upd zb_isKept 1 1 0 = nI a; rw [pk_un (by omega)]; exact k1), (by show upd zb_isKept 1 1 1 = nI 1; exact pk_us), ?_, fun e => ?_, fun _ => ?_⟩
      · show z_keptImages ||| ((1 : Int32) <<< ((1 : Int32) &&& 31)) = _
        rw [k3]
        rcases (show a = 0 ∨ a = 1 by omega) with rfl | rfl <;> rcases (show b = 0 ∨ b = 1 by omega) with rfl | rfl <;> decide +kernel
      · refine now_cg (k4 e) (fun k hk => ?_) (fun _ _ => rfl) (fun _ _ => rfl) (fun _ _ => rfl) (fun _ _ => rfl) (fun _ _ => rfl)
        exact pk_cpy_out (by omega)
      · refine now_cg hN (fun k hk => ?_) (fun i hi => cpy0_in hi) (fun i hi => cpy0_in hi) (fun i hi => cpy0_in hi) (fun i hi => cpy0_in hi) (fun i hi => cpy0_in hi)
        show va_cpy zb_s zb_kept 0 67 67 (67 + k) = zb_s k
        rw [pk_cpy_in (by omega) (by omega)]
        congr 1
        omega
  · refine ⟨(-1, z_keptImages, z_firstImage_eaten, z_firstImage_year, z_firstImage_lot, z_firstImage_weights_cells, z_firstImage_brought, z_firstImage_left, z_firstImage_spoons, z_firstImage_health, z_secondImage_eaten, z_secondImage_year, z_secondImage_lot, z_secondImage_weights_cells, z_secondImage_brought, z_secondImage_left, z_secondImage_spoons, z_secondImage_health), (-1, 0, zb_kept, zb_isKept), ?_, ?_, rfl, al_of n hn hT hV hN hK hA⟩
    · simp only [fX6_keep, hx, some_bind9, if_true]
    · simp only [fX7_keep, hm, some_bind9, if_true]
theorem sim_back : SimOp_back Alike9 := by
  unfold SimOp_back
  intro z_text_length z_text_bytes z_village_houses z_village_law z_village_pride z_village_memory z_village_eats z_village_barred z_now_eaten z_now_year z_now_lot z_now_weights_cells z_now_brought z_now_left z_now_spoons z_now_health z_firstImage_eaten z_firstImage_year z_firstImage_lot z_firstImage_weights_cells z_firstImage_brought z_firstImage_left z_firstImage_spoons z_firstImage_health z_secondImage_eaten z_secondImage_year z_secondImage_lot z_secondImage_weights_cells z_secondImage_brought z_secondImage_left z_secondImage_spoons z_secondImage_health z_keptImages z_asked zb_trace zb_text zb_typed zb_eats zb_barred zb_laws zb_houses zb_s zb_kept zb_isKept x1 hs9
  obtain ⟨n, hn, hT, hV, hN, hK, hA⟩ := hs9
  obtain ⟨a, b, ha, hb, k1, k2, k3, k4, k5⟩ := id hK
  rcases half_cases x1 with ⟨rfl | rfl, hx, hm⟩ | ⟨h0, h1, hx, hm⟩
  · have hbit : ((z_keptImages >>> ((0 : Int32) &&& 31)) &&& (1 : Int32)) = nI a := by
      rw [k3]
      rcases (show a = 0 ∨ a = 1 by omega) with rfl | rfl <;> rcases (show b = 0 ∨ b = 1 by omega) with rfl | rfl <;> decide +kernel
    have hok : okx (0 : Int32) 2 := by decide
    have hcl : (0 : Int32).toNatClampNeg = 0 := rfl
    rcases (show a = 0 ∨ a = 1 by omega) with e | e
    · have hz : nI a = 0 := by rw [e]; rfl
      refine ⟨(-2, z_now_eaten, z_now_year, z_now_lot, z_now_weights_cells, z_now_brought, z_now_left, z_now_spoons, z_now_health), (-2, 0, zb_s), ?_, ?_, rfl, al_of n hn hT hV hN hK hA⟩
      · simp only [fX6_back, hx, some_bind9, if_neg one_ne, hbit, if_pos hz]
      · simp only [fX7_back, hm, some_bind9, if_neg one_ne, gd_t hok, hcl, k1, if_pos hz]
    · have hz : ¬ nI a = 0 := by rw [e]; decide
      have hI := k4 e
      have hB : isB z_firstImage_eaten := by rw [hI.2.2.2.2.2.2.2.2.2.2.2.1.1]; exact hI.2.2.2.2.2.2.2.2.2.2.2.1.2
      refine ⟨(z_firstImage_year, z_firstImage_eaten, z_firstImage_year, z_firstImage_lot, va_cpy z_firstImage_weights_cells z_now_weights_cells 0 0 24, va_cpy z_firstImage_brought z_now_brought 0 0 6, va_cpy z_firstImage_left z_now_left 0 0 4, va_cpy z_firstImage_spoons z_now_spoons 0 0 24, va_cpy z_firstImage_health z_now_health 0 0 6), (va_cpy zb_kept zb_s 0 0 67 65, 0, va_cpy zb_kept zb_s 0 0 67), ?_, ?_, ?_, al_of n hn hT hV ?_ hK hA⟩
      · simp only [fX6_back, hx, some_bind9, if_neg one_ne, hbit, if_neg hz, if_pos, copyFrom_eq hB]
      · simp only [fX7_back, hm, some_bind9, if_neg one_ne, gd_t hok, hcl, k1, if_neg hz]
        exact backM_eq (a := 0) (by omega)
      · show z_firstImage_year = va_cpy zb_kept zb_s 0 0 67 65
        rw [pk_cpy_in (by omega) (by omega)]
        exact hI.2.2.2.2.2.2.2.2.2.2.2.2.1
      · refine now_cg hI (fun k hk => ?_) (fun i hi => cpy0_in hi) (fun i hi => cpy0_in hi) (fun i hi => cpy0_in hi) (fun i hi => cpy0_in hi) (fun i hi => cpy0_in hi)
        show va_cpy zb_kept zb_s 0 0 67 k = _
        rw [pk_cpy_in (by omega) (by omega)]
        congr 1; omega
  · have hbit : ((z_keptImages >>> ((1 : Int32) &&& 31)) &&& (1 : Int32)) = nI b := by
      rw [k3]
      rcases (show a = 0 ∨ a = 1 by omega) with rfl | rfl <;> rcases (show b = 0 ∨ b = 1 by omega) with rfl | rfl <;> decide +kernel
    have hok : okx (1 : Int32) 2 := by decide
    have hcl : (1 : Int32).toNatClampNeg = 1 := rfl
    rcases (show b = 0 ∨ b = 1 by omega) with e | e
    · have hz : nI b = 0 := by rw [e]; rfl
      refine ⟨(-2, z_now_eaten, z_now_year, z_now_lot, z_now_weights_cells, z_now_brought, z_now_left, z_now_spoons, z_now_health), (-2, 0, zb_s), ?_, ?_, rfl, al_of n hn hT hV hN hK hA⟩
      · simp only [fX6_back, hx, some_bind9, if_neg one_ne, hbit, if_pos hz]
      · simp only [fX7_back, hm, some_bind9, if_neg one_ne, gd_t hok, hcl, k2, if_pos hz]
    · have hz : ¬ nI b = 0 := by rw [e]; decide
      have hI := k5 e
      have hB : isB z_secondImage_eaten := by rw [hI.2.2.2.2.2.2.2.2.2.2.2.1.1]; exact hI.2.2.2.2.2.2.2.2.2.2.2.1.2
      refine ⟨(z_secondImage_year, z_secondImage_eaten, z_secondImage_year, z_secondImage_lot, va_cpy z_secondImage_weights_cells z_now_weights_cells 0 0 24, va_cpy z_secondImage_brought z_now_brought 0 0 6, va_cpy z_secondImage_left z_now_left 0 0 4, va_cpy z_secondImage_spoons z_now_spoons 0 0 24, va_cpy z_secondImage_health z_now_health 0 0 6), (va_cpy zb_kept zb_s 67 0 67 65, 0, va_cpy zb_kept zb_s 67 0 67), ?_, ?_, ?_, al_of n hn hT hV ?_ hK hA⟩
      · simp only [fX6_back, hx, some_bind9, if_neg one_ne, hbit, if_neg hz, if_pos, copyFrom_eq hB]
      · simp only [fX7_back, hm, some_bind9, if_neg one_ne, gd_t hok, hcl, k2, if_neg hz]
        exact backM_eq (a := 1) (by omega)
      · show z_secondImage_year = va_cpy zb_kept zb_s 67 0 67 65
        rw [pk_cpy_in (by omega) (by omega)]
        exact hI.2.2.2.2.2.2.2.2.2.2.2.2.1
      · refine now_cg hI (fun k hk => ?_) (fun i hi => cpy0_in hi) (fun i hi => cpy0_in hi) (fun i hi => cpy0_in hi) (fun i hi => cpy0_in hi) (fun i hi => cpy0_in hi)
        show va_cpy zb_kept zb_s 67 0 67 k = _
        rw [pk_cpy_in (by omega) (by omega)]
        rfl
  · refine ⟨(-1, z_now_eaten, z_now_year, z_now_lot, z_now_weights_cells, z_now_brought, z_now_left, z_now_spoons, z_now_health), (-1, 0, zb_s), ?_, ?_, rfl, al_of n hn hT hV hN hK hA⟩
    · simp only [fX6_back, hx, some_bind9, if_true]
    · simp only [fX7_back, hm, some_bind9, if_true]
