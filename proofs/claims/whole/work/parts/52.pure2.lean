theorem al_of {tl : Int32} {tb : Nat → Int32} {ho la pr me : Int32} {ea ba : Nat → Int32} {en yn ln : Int32} {wn bn fn sn hn : Nat → Int32} {e0 y0 l0 : Int32} {w0 b0 f0 s0 h0 : Nat → Int32} {e1 y1 l1 : Int32} {w1 b1 f1 s1 h1 : Nat → Int32} {ki : Int32} {asked : Int64} {tr : Int64} {tx : Nat → Int32} {ty : Int32} {mea mba mla : Nat → Int32} {mho : Int32} {S kp ik : Nat → Int32}
  (n : Nat) (h6 : n ≤ 6) (hT : TextOk tl tb tx ty) (hV : VillOk n ho la pr me ea ba mea mba mla mho) (hN : NowOk n en yn ln wn bn fn sn hn S) (hK : KeptOk n ki kp ik e0 y0 l0 w0 b0 f0 s0 h0 e1 y1 l1 w1 b1 f1 s1 h1) (hA : asked = tr) :
  Alike9 tl tb ho la pr me ea ba en yn ln wn bn fn sn hn e0 y0 l0 w0 b0 f0 s0 h0 e1 y1 l1 w1 b1 f1 s1 h1 ki asked tr tx ty mea mba mla mho S kp ik := ⟨n, h6, hT, hV, hN, hK, hA⟩
theorem now_lot {n : Nat} {ea ye lo v : Int32} {wc br le sp he S : Nat → Int32} (h : NowOk n ea ye lo wc br le sp he S) : NowOk n ea ye v wc br le sp he (upd S 66 v) := by
  obtain ⟨a1, a2, a3, a4, a5, a6, a7, a8, a9, b1, b2, b3, b4, b5⟩ := h
  refine ⟨fun i hi => ?_, fun i hi => ?_, fun i h1 hi => ?_, fun i hi => ?_, fun i hi => ?_, fun i h1 hi => ?_, fun i hi => ?_, fun i hi => ?_, fun i h1 hi => ?_, fun i hi => ?_, fun i h1 hi => ?_, ?_, ?_, ?_⟩
  · rw [pk_un (by omega)]; exact a1 i hi
  · rw [pk_un (by omega)]; exact a2 i hi
  · rw [pk_un (by omega)]; exact a3 i h1 hi
  · rw [pk_un (by omega)]; exact a4 i hi
  · rw [pk_un (by omega)]; exact a5 i hi
  · rw [pk_un (by omega)]; exact a6 i h1 hi
  · rw [pk_un (by omega)]; exact a7 i hi
  · rw [pk_un (by omega)]; exact a8 i hi
  · rw [pk_un (by omega)]; exact a9 i h1 hi
  · rw [pk_un (by omega)]; exact b1 i hi
  · rw [pk_un (by omega)]; exact b2 i h1 hi
  · rw [pk_un (by omega)]; exact b3
  · rw [pk_un (by omega)]; exact b4
  · rw [pk_us]
theorem sim_clear : SimOp_clear Alike9 := by
  unfold SimOp_clear
  intro z_text_length z_text_bytes z_village_houses z_village_law z_village_pride z_village_memory z_village_eats z_village_barred z_now_eaten z_now_year z_now_lot z_now_weights_cells z_now_brought z_now_left z_now_spoons z_now_health z_firstImage_eaten z_firstImage_year z_firstImage_lot z_firstImage_weights_cells z_firstImage_brought z_firstImage_left z_firstImage_spoons z_firstImage_health z_secondImage_eaten z_secondImage_year z_secondImage_lot z_secondImage_weights_cells z_secondImage_brought z_secondImage_left z_secondImage_spoons z_secondImage_health z_keptImages z_asked zb_trace zb_text zb_typed zb_eats zb_barred zb_laws zb_houses zb_s zb_kept zb_isKept hs9
  obtain ⟨n, hn, hT, hV, hN, hK, hA⟩ := hs9
  refine ⟨(z_text_length, 0), (zb_typed, 0, 0), rfl, rfl, ?_, al_of n hn ?_ hV hN hK hA⟩
  · obtain ⟨t, -, h1, h2, -⟩ := hT
    show z_text_length = zb_typed
    rw [h1, h2]
  · exact ⟨0, by omega, rfl, rfl, fun i hi => absurd hi (by omega)⟩
theorem sim_lot : SimOp_lot Alike9 := by
  unfold SimOp_lot
  intro z_text_length z_text_bytes z_village_houses z_village_law z_village_pride z_village_memory z_village_eats z_village_barred z_now_eaten z_now_year z_now_lot z_now_weights_cells z_now_brought z_now_left z_now_spoons z_now_health z_firstImage_eaten z_firstImage_year z_firstImage_lot z_firstImage_weights_cells z_firstImage_brought z_firstImage_left z_firstImage_spoons z_firstImage_health z_secondImage_eaten z_secondImage_year z_secondImage_lot z_secondImage_weights_cells z_secondImage_brought z_secondImage_left z_secondImage_spoons z_secondImage_health z_keptImages z_asked zb_trace zb_text zb_typed zb_eats zb_barred zb_laws zb_houses zb_s zb_kept zb_isKept x1 hs9
  obtain ⟨n, hn, hT, hV, hN, hK, hA⟩ := hs9
  refine ⟨(z_now_lot, x1), (zb_s 66, 0, upd zb_s 66 x1), rfl, rfl, ?_, al_of n hn hT hV (now_lot hN) hK hA⟩
  exact hN.2.2.2.2.2.2.2.2.2.2.2.2.2
theorem sim_trace : SimOp_trace Alike9 := by
  unfold SimOp_trace
  intro z_text_length z_text_bytes z_village_houses z_village_law z_village_pride z_village_memory z_village_eats z_village_barred z_now_eaten z_now_year z_now_lot z_now_weights_cells z_now_brought z_now_left z_now_spoons z_now_health z_firstImage_eaten z_firstImage_year z_firstImage_lot z_firstImage_weights_cells z_firstImage_brought z_firstImage_left z_firstImage_spoons z_firstImage_health z_secondImage_eaten z_secondImage_year z_secondImage_lot z_secondImage_weights_cells z_secondImage_brought z_secondImage_left z_secondImage_spoons z_secondImage_health z_keptImages z_asked zb_trace zb_text zb_typed zb_eats zb_barred zb_laws zb_houses zb_s zb_kept zb_isKept hs9
  obtain ⟨n, hn, hT, hV, hN, hK, hA⟩ := hs9
  exact ⟨z_asked, (zb_trace, 0), rfl, rfl, hA, al_of n hn hT hV hN hK hA⟩
theorem sim_told : SimOp_told Alike9 := by
  unfold SimOp_told
  intro z_text_length z_text_bytes z_village_houses z_village_law z_village_pride z_village_memory z_village_eats z_village_barred z_now_eaten z_now_year z_now_lot z_now_weights_cells z_now_brought z_now_left z_now_spoons z_now_health z_firstImage_eaten z_firstImage_year z_firstImage_lot z_firstImage_weights_cells z_firstImage_brought z_firstImage_left z_firstImage_spoons z_firstImage_health z_secondImage_eaten z_secondImage_year z_secondImage_lot z_secondImage_weights_cells z_secondImage_brought z_secondImage_left z_secondImage_spoons z_secondImage_health z_keptImages z_asked zb_trace zb_text zb_typed zb_eats zb_barred zb_laws zb_houses zb_s zb_kept zb_isKept x1 hs9
  obtain ⟨n, hn, hT, hV, hN, hK, hA⟩ := hs9
  have hV9 := hV
  obtain ⟨v1, v2, ⟨v3, -⟩, ⟨v4, -⟩, ⟨v5, -⟩, -⟩ := hV9
  by_cases h0 : x1 = 0
  · subst h0
    exact ⟨z_village_law, (zb_laws 0, 0), rfl, rfl, v3, al_of n hn hT hV hN hK hA⟩
  by_cases h1 : x1 = 1
  · subst h1
    exact ⟨z_village_pride, (zb_laws 1, 0), rfl, rfl, v4, al_of n hn hT hV hN hK hA⟩
  by_cases h2 : x1 = 2
  · subst h2
    exact ⟨z_village_memory, (zb_laws 2, 0), rfl, rfl, v5, al_of n hn hT hV hN hK hA⟩
  have e0 : x1.toInt ≠ 0 := fun h => h0 (Int32.toInt_inj.mp h)
  have e1 : x1.toInt ≠ 1 := fun h => h1 (Int32.toInt_inj.mp h)
  have e2 : x1.toInt ≠ 2 := fun h => h2 (Int32.toInt_inj.mp h)
  have hin : fX7_in x1 0 2 = some 0 := by
    by_cases hl : x1 < 0
    · exact in_f1 hl
    · refine in_f2 ?_
      rw [Int32.lt_iff_toInt_lt] at hl ⊢
      show (2 : Int) < x1.toInt
      have : ¬ x1.toInt < 0 := hl
      omega
  refine ⟨-1, (-1, 0), ?_, ?_, rfl, al_of n hn hT hV hN hK hA⟩
  · unfold fX6_told; rw [if_neg h0, if_neg h1, if_neg h2]
  · unfold fX7_told; rw [hin]; rfl
theorem one_ne : ¬ (1 : Int32) = 0 := by decide
theorem ge7 {x : Int32} (q : nI 7 ≤ x) : ¬ x < 0 ∧ (6 : Int32) < x ∧ ¬ x ≤ (6 : Int32) := by
  rw [Int32.le_iff_toInt_le, nI_toInt (by omega)] at q
  refine ⟨?_, ?_, ?_⟩
  · rw [Int32.lt_iff_toInt_lt]; show ¬ x.toInt < 0; omega
  · rw [Int32.lt_iff_toInt_lt]; show (6 : Int) < x.toInt; omega
  · rw [Int32.le_iff_toInt_le]; show ¬ x.toInt ≤ 6; omega
theorem nI_ne {a b : Nat} (ha : a < 2 ^ 31) (hb : b < 2 ^ 31) (h : a ≠ b) : ¬ nI a = nI b := fun e => h ((nI_eq ha hb).mp e)
theorem sim_house : SimOp_house Alike9 := by
  unfold SimOp_house
  intro z_text_length z_text_bytes z_village_houses z_village_law z_village_pride z_village_memory z_village_eats z_village_barred z_now_eaten z_now_year z_now_lot z_now_weights_cells z_now_brought z_now_left z_now_spoons z_now_health z_firstImage_eaten z_firstImage_year z_firstImage_lot z_firstImage_weights_cells z_firstImage_brought z_firstImage_left z_firstImage_spoons z_firstImage_health z_secondImage_eaten z_secondImage_year z_secondImage_lot z_secondImage_weights_cells z_secondImage_brought z_secondImage_left z_secondImage_spoons z_secondImage_health z_keptImages z_asked zb_trace zb_text zb_typed zb_eats zb_barred zb_laws zb_houses zb_s zb_kept zb_isKept x1 x2 hs9
  obtain ⟨n, hn, hT, hV, hN, hK, hA⟩ := hs9
  obtain ⟨rfl, rfl, -, -, -, v6, v7, v8, v9⟩ := id hV
  obtain ⟨a1, a2, a3, a4, a5, a6, -⟩ := id hN
  rcases house_cases hn x1 with ⟨h, hh, rfl, hx, hm⟩ | ⟨hx, hm⟩
  · rcases pk_ix x2 (n := 7) (by omega) with q | q | ⟨j, hj, rfl⟩
    · refine ⟨(-1), (-1, 0), ?_, ?_, rfl, al_of n hn hT hV hN hK hA⟩
      · simp only [fX6_house, hx, some_bind9, if_neg one_ne, if_pos q]
      · simp only [fX7_house, hm, some_bind9, if_neg one_ne, in_f1 q, if_true]
    · obtain ⟨g0, g1, g2⟩ := ge7 q
      refine ⟨(-1), (-1, 0), ?_, ?_, rfl, al_of n hn hT hV hN hK hA⟩
      · simp only [fX6_house, hx, some_bind9, if_neg one_ne, if_neg g0, if_neg g2]
      · simp only [fX7_house, hm, some_bind9, if_neg one_ne, in_f2 g1, if_true]
    · have hx6 : okx (nI h) 6 := okx_nI (by omega) (by omega)
      have hx12 : okx (nI h) 12 := okx_nI (by omega) (by omega)
      have hc : (nI h).toNatClampNeg = h := nI_clamp (by omega)
      have g0 : ¬ nI j < 0 := nI_pos (by omega)
      have g1 : nI j ≤ (6 : Int32) := nI_le (a := j) (b := 6) (by omega) (by omega)
      have hin : fX7_in (nI j) 0 6 = some 1 := in_t g0 (nI_nlt (a := 6) (b := j) (by omega) (by omega))
      rcases (show j < 4 ∨ j = 4 ∨ j = 5 ∨ j = 6 by omega) with q | rfl | rfl | rfl
      · have n4 : ¬ nI j = (4 : Int32) := nI_ne (b := 4) (by omega) (by omega) (by omega)
        have n5 : ¬ nI j = (5 : Int32) := nI_ne (b := 5) (by omega) (by omega) (by omega)
        have n6 : ¬ nI j = (6 : Int32) := nI_ne (b := 6) (by omega) (by omega) (by omega)
        have n7 : ¬ (4 : Int32) ≤ nI j := nI_ge (a := j) (b := 4) q (by omega)
        have ok : okx (nI (4 * h + j)) 67 := okx_nI (by omega) (by omega)
        refine ⟨(z_now_weights_cells (4 * h + j)), (zb_s (4 * h + j), 0), ?_, ?_, (a1 _ (by omega)), al_of n hn hT hV hN hK hA⟩
        · simp only [fX6_house, hx, some_bind9, if_neg one_ne, if_neg g0, if_pos g1, if_neg n4, if_neg n5, if_neg n6, of_eq (show h < 6 by omega) q]
        · simp only [fX7_house, hm, some_bind9, if_neg one_ne, hin, if_neg n7, nI4', gd_t ok, nI_clamp (show 4 * h + j < 2 ^ 31 by omega)]
      · refine ⟨(z_village_eats h), (zb_eats h, 0), ?_, ?_, (v6 h hh).1, al_of n hn hT hV hN hK hA⟩
        · simp only [fX6_house, hx, some_bind9, if_neg one_ne, if_neg g0, if_pos g1, if_pos (show nI 4 = (4 : Int32) from rfl), gd_t hx6, hc]
        · simp only [fX7_house, hm, some_bind9, if_neg one_ne, hin, if_pos (show (4 : Int32) ≤ nI 4 by decide), if_pos (show nI 4 = (4 : Int32) from rfl), gd_t hx12, hc]
      · refine ⟨(z_village_barred h), (zb_barred h, 0), ?_, ?_, (v8 h hh).1, al_of n hn hT hV hN hK hA⟩
        · simp only [fX6_house, hx, some_bind9, if_neg one_ne, if_neg g0, if_pos g1, if_neg (show ¬ nI 5 = (4 : Int32) by decide), if_pos (show nI 5 = (5 : Int32) from rfl), gd_t hx6, hc]
        · simp only [fX7_house, hm, some_bind9, if_neg one_ne, hin, if_pos (show (4 : Int32) ≤ nI 5 by decide), if_neg (show ¬ nI 5 = (4 : Int32) by decide), if_pos (show nI 5 = (5 : Int32) from rfl), gd_t hx12, hc]
      · have ok : okx (nI (24 + h)) 67 := okx_nI (by omega) (by omega)
        refine ⟨(z_now_brought h), (zb_s (24 + h), 0), ?_, ?_, (a4 h (by omega)), al_of n hn hT hV hN hK hA⟩
        · simp only [fX6_house, hx, some_bind9, if_neg one_ne, if_neg g0, if_pos g1, if_neg (show ¬ nI 6 = (4 : Int32) by decide), if_neg (show ¬ nI 6 = (5 : Int32) by decide), if_pos (show nI 6 = (6 : Int32) from rfl), gd_t hx6, hc]
        · simp only [fX7_house, hm, some_bind9, if_neg one_ne, hin, if_pos (show (4 : Int32) ≤ nI 6 by decide), if_neg (show ¬ nI 6 = (4 : Int32) by decide), if_neg (show ¬ nI 6 = (5 : Int32) by decide), L24, gd_t ok, nI_clamp (show 24 + h < 2 ^ 31 by omega)]
  · refine ⟨(-1), (-1, 0), ?_, ?_, rfl, al_of n hn hT hV hN hK hA⟩
    · simp only [fX6_house, hx, some_bind9, if_true]
    · simp only [fX7_house, hm, some_bind9, if_true]
theorem sim_ate : SimOp_ate Alike9 := by
  unfold SimOp_ate
  intro z_text_length z_text_bytes z_village_houses z_village_law z_village_pride z_village_memory z_village_eats z_village_barred z_now_eaten z_now_year z_now_lot z_now_weights_cells z_now_brought z_now_left z_now_spoons z_now_health z_firstImage_eaten z_firstImage_year z_firstImage_lot z_firstImage_weights_cells z_firstImage_brought z_firstImage_left z_firstImage_spoons z_firstImage_health z_secondImage_eaten z_secondImage_year z_secondImage_lot z_secondImage_weights_cells z_secondImage_brought z_secondImage_left z_secondImage_spoons z_secondImage_health z_keptImages z_asked zb_trace zb_text zb_typed zb_eats zb_barred zb_laws zb_houses zb_s zb_kept zb_isKept x1 x2 hs9
  obtain ⟨n, hn, hT, hV, hN, hK, hA⟩ := hs9
  obtain ⟨rfl, rfl, -, -, -, v6, v7, v8, v9⟩ := id hV
  obtain ⟨a1, a2, a3, a4, a5, a6, a7, a8, -⟩ := id hN
  rcases house_cases hn x1 with ⟨h, hh, rfl, hx, hm⟩ | ⟨hx, hm⟩
  · rcases sort_cases x2 with ⟨k, hk, rfl, sx, sm⟩ | ⟨sx, sm⟩
    · have ok : okx (nI (30 + (4 * h + k))) 67 := okx_nI (by omega) (by omega)
      have e9 : 30 + 4 * h + k = 30 + (4 * h + k) := by omega
      refine ⟨(z_now_spoons (4 * h + k)), (zb_s (30 + (4 * h + k)), 0), ?_, ?_, (a8 _ (by omega)), al_of n hn hT hV hN hK hA⟩
      · simp only [fX6_ate, hx, sx, some_bind9, if_neg one_ne, spoonsOf_eq (show h < 6 by omega) hk]
      · simp only [fX7_ate, hm, sm, some_bind9, if_neg one_ne, L4m, L30, nI_add, gd_t ok, nI_clamp (show 30 + (4 * h + k) < 2 ^ 31 by omega), e9]
    · refine ⟨(-1), (-1, 0), ?_, ?_, rfl, al_of n hn hT hV hN hK hA⟩
      · simp only [fX6_ate, hx, sx, some_bind9, if_neg one_ne, if_true]
      · simp only [fX7_ate, hm, sm, some_bind9, if_neg one_ne, if_true]
  · refine ⟨(-1), (-1, 0), ?_, ?_, rfl, al_of n hn hT hV hN hK hA⟩
    · simp only [fX6_ate, hx, some_bind9, if_true]
    · simp only [fX7_ate, hm, some_bind9, if_true]
/-- what a house ate in all -/
theorem allSpoons_eq {w : Nat → Int32} {h : Nat} (hh : h < 6) : fX1_allSpoonsOf w (nI h) = some (sumI (fun s => w (4 * h + s)) 4) := by
  unfold fX1_allSpoonsOf
  refine it2_run 4 (fun i => sumI (fun s => w (4 * h + s)) i) (fun i => nI i) _ (fun i hi self => ?_) (fun self => ?_) 100000 (by decide)
  · simp only [X1_allSpoonsOf_S4, if_neg (show ¬ (4 : Int32) ≤ nI i from nI_ge (a := i) (b := 4) hi (by omega)), spoonsOf_eq hh hi, some_bind9, lets_def, Lp1, sumI]
  · simp only [X1_allSpoonsOf_S4, if_pos (show (4 : Int32) ≤ nI 4 by decide)]
theorem eatenBy_eq {S : Nat → Int32} {h : Nat} (hh : h < 6) : fX7_eatenBy S (nI h) = some (sumI (fun s => S (30 + (4 * h + s))) 4) := by
  have k0 : okx (nI (30 + 4 * h)) 67 := okx_nI (by omega) (by omega)
  have k1 : okx (nI (30 + 4 * h + 1)) 67 := okx_nI (by omega) (by omega)
  have k2 : okx (nI (30 + 4 * h + 2)) 67 := okx_nI (by omega) (by omega)
  have k3 : okx (nI (30 + 4 * h + 3)) 67 := okx_nI (by omega) (by omega)
  simp only [fX7_eatenBy, L4m, L30, Lp1, Lp2, Lp3, gd_t k0, gd_t k1, gd_t k2, gd_t k3, nI_clamp (show 30 + 4 * h < 2 ^ 31 by omega), nI_clamp (show 30 + 4 * h + 1 < 2 ^ 31 by omega), nI_clamp (show 30 + 4 * h + 2 < 2 ^ 31 by omega), nI_clamp (show 30 + 4 * h + 3 < 2 ^ 31 by omega), sumI, Int32.zero_add]
  rfl
theorem sim_hungry : SimOp_hungry Alike9 := by
  unfold SimOp_hungry
  intro z_text_length z_text_bytes z_village_houses z_village_law z_village_pride z_village_memory z_village_eats z_village_barred z_now_eaten z_now_year z_now_lot z_now_weights_cells z_now_brought z_now_left z_now_spoons z_now_health z_firstImage_eaten z_firstImage_year z_firstImage_lot z_firstImage_weights_cells z_firstImage_brought z_firstImage_left z_firstImage_spoons z_firstImage_health z_secondImage_eaten z_secondImage_year z_secondImage_lot z_secondImage_weights_cells z_secondImage_brought z_secondImage_left z_secondImage_spoons z_secondImage_health z_keptImages z_asked zb_trace zb_text zb_typed zb_eats zb_barred zb_laws zb_houses zb_s zb_kept zb_isKept x1 hs9
  obtain ⟨n, hn, hT, hV, hN, hK, hA⟩ := hs9
  obtain ⟨rfl, rfl, -, -, -, v6, v7, v8, v9⟩ := id hV
  obtain ⟨a1, a2, a3, a4, a5, a6, a7, a8, a9, b1, b2, ⟨rfl, b3⟩, -⟩ := id hN
  rcases house_cases hn x1 with ⟨h, hh, rfl, hx, hm⟩ | ⟨hx, hm⟩
  · have hx6 : okx (nI h) 6 := okx_nI (by omega) (by omega)
    have hx12 : okx (nI h) 12 := okx_nI (by omega) (by omega)
    have hc : (nI h).toNatClampNeg = h := nI_clamp (by omega)
    by_cases he : zb_s 58 = 0
    · refine ⟨(-2), (-2, 0), ?_, ?_, rfl, al_of n hn hT hV hN hK hA⟩
      · simp only [fX6_hungry, hx, some_bind9, if_neg one_ne, if_pos he]
      · simp only [fX7_hungry, hm, some_bind9, if_neg one_ne, cl58, if_pos he]
    · refine ⟨(z_village_eats h - sumI (fun s => z_now_spoons (4 * h + s)) 4), (zb_eats h - sumI (fun s => zb_s (30 + (4 * h + s))) 4, 0), ?_, ?_, ?_, al_of n hn hT hV hN hK hA⟩
      · simp only [fX6_hungry, hx, some_bind9, if_neg one_ne, if_neg he, gd_t hx6, allSpoons_eq (show h < 6 by omega), hc]
      · simp only [fX7_hungry, hm, some_bind9, if_neg one_ne, cl58, if_neg he, gd_t hx12, eatenBy_eq (show h < 6 by omega), hc]
      · show _ - _ = _ - _
        rw [(v6 h hh).1, sumI_congr (fun i hi => a8 (4 * h + i) (by omega))]
  · refine ⟨(-1), (-1, 0), ?_, ?_, rfl, al_of n hn hT hV hN hK hA⟩
    · simp only [fX6_hungry, hx, some_bind9, if_true]
    · simp only [fX7_hungry, hm, some_bind9, if_true]
/-- how many houses brought a sort -/
def cntB (b : Nat → Int32) (x : Int32) : Nat → Int32 := sumI (fun h => if b h = x then 1 else 0)
theorem bringersOf_eq {b : Nat → Int32} {x : Int32} : fX1_bringersOf b x = some (cntB b x 6) := by
  unfold fX1_bringersOf
  refine it2_run 6 (fun i => cntB b x i) (fun i => nI i) _ (fun i hi self => ?_) (fun self => ?_) 100000 (by decide)
  · have ok : okx (nI i) 6 := okx_nI hi (by omega)
    simp only [X1_bringersOf_S4, X1_bringersOf_J23, if_neg (show ¬ (6 : Int32) ≤ nI i from nI_ge (a := i) (b := 6) hi (by omega)), gd_t ok, nI_clamp (show i < 2 ^ 31 by omega), lets_def, Lp1]
    by_cases hc : b i = x
    · simp only [if_pos hc, cntB, sumI]
    · simp only [if_neg hc, cntB, sumI, Int32.add_zero]
  · simp only [X1_bringersOf_S4, if_pos (show (6 : Int32) ≤ nI 6 by decide)]
theorem broughtBy_eq {n : Nat} (hn : n ≤ 6) {S : Nat → Int32} {x : Int32} : fX7_broughtBy (nI n) S x = some (cntB (fun h => S (24 + h)) x n) := by
  unfold fX7_broughtBy
  refine it2_run n (fun i => cntB (fun h => S (24 + h)) x i) (fun i => nI i) _ (fun i hi self => ?_) (fun self => ?_) 100000 (by omega)
  · have ok : okx (nI (24 + i)) 67 := okx_nI (by omega) (by omega)
    simp only [X7_broughtBy_S4, X7_broughtBy_J31, if_neg (nI_ge (a := i) (b := n) hi (by omega)), L24, gd_t ok, nI_clamp (show 24 + i < 2 ^ 31 by omega), lets_def, Lp1]
    by_cases hc : S (24 + i) = x
    · simp only [if_pos hc, cntB, sumI]
    · simp only [if_neg hc, cntB, sumI]
  · simp only [X7_broughtBy_S4, if_pos (nI_le (Nat.le_refl n) (by omega))]
theorem cnt_alike {n : Nat} (hn : n ≤ 6) {b S : Nat → Int32} (h1 : ∀ h, h < 6 → b h = S (24 + h)) (h2 : ∀ h, n ≤ h → h < 6 → S (24 + h) = -9) {x : Int32} (hx : ¬ (-9 : Int32) = x) : cntB b x 6 = cntB (fun h => S (24 + h)) x n := by
  unfold cntB
  rw [sumI_congr (g := fun h => if S (24 + h) = x then 1 else 0) (fun i hi => by rw [h1 i hi])]
  exact sumI_tail hn (fun i hi h6 => by rw [h2 i hi h6, if_neg hx])
theorem m9_ne (k : Nat) (h : k < 2 ^ 31) : ¬ (-9 : Int32) = nI k := fun e => by
  have e1 : (nI k).toInt = (k : Int) := nI_toInt h
  rw [← e] at e1
  have e2 : (-9 : Int32).toInt = -9 := by decide
  omega
