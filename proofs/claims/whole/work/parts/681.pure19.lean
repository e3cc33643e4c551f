theorem dec7 : ∀ i, i < 8 → (if i ≤ 7 then nI (7 - i) else (-1 : Int32)) + (-1) = if i + 1 ≤ 7 then nI (7 - (i + 1)) else -1 := by decide +kernel
theorem addM_eq {likely : Nat → Int64} {p : Nat → Nat} (hw : ∀ j, j < 8 → likely j = lN (p j)) {S : Nat → Int32} {h s W b : Nat} (hh : h < 6) (hs : s < 4) (hS : S (4 * h + s) = nI b) (hb : b ≤ W) (hW : W < 100) {x4 : Int64} {self : Int64 → Int32 → (Nat → Int64) → Option (Int64 × Int32 × (Nat → Int64))} :
    ∃ likely', it2 (X7_odds_S108 S (nI s) (nI h) self (nI W) x4) 100000 7 likely = self x4 (nI (h + 1)) likely' ∧ ∀ j, j < 8 → likely' j = lN (stP p b (W - b) j) := by
  refine ⟨fun j => if 7 < j + 8 ∧ j ≤ 7 then lN (stP p b (W - b) j) else likely j, ?_, fun j hj => if_pos (by omega)⟩
  refine it2_go 8 (fun i => if i ≤ 7 then nI (7 - i) else (-1 : Int32)) (fun i => (fun j => if 7 < j + i ∧ j ≤ 7 then lN (stP p b (W - b) j) else likely j)) _ rfl ?_ (fun i hi self2 => ?_) (fun self2 => ?_) 100000 (by decide)
  · funext j; rw [if_neg (by omega)]
  · have e5 := dec7 i hi
    rw [if_pos (show i ≤ 7 by omega)] at e5
    have ok : okx (nI (7 - i)) 16 := okx_nI (by omega) (by omega)
    have ok2 : okx (nI (4 * h + s)) 67 := okx_nI (by omega) (by omega)
    show X7_odds_S108 S (nI s) (nI h) self (nI W) x4 self2 (if i ≤ 7 then nI (7 - i) else (-1 : Int32)) (fun j => if 7 < j + i ∧ j ≤ 7 then lN (stP p b (W - b) j) else likely j) = self2 (if i + 1 ≤ 7 then nI (7 - (i + 1)) else -1) (fun j => if 7 < j + (i + 1) ∧ j ≤ 7 then lN (stP p b (W - b) j) else likely j)
    rw [if_pos (show i ≤ 7 by omega), ← e5]
    have st : ∀ v : Int64, v = lN (stP p b (W - b) (7 - i)) → vp_updL (fun j => if 7 < j + i ∧ j ≤ 7 then lN (stP p b (W - b) j) else likely j) (7 - i) v = (fun j => if 7 < j + (i + 1) ∧ j ≤ 7 then lN (stP p b (W - b) j) else likely j) := fun v hv => by
      funext j
      by_cases e : j = 7 - i
      · subst e; rw [pk_uLs, if_pos (by omega)]; exact hv
      · rw [pk_uLn e]
        exact if_iff9 (by omega)
    have en : ¬ nI (7 - i) < 0 := nI_pos (by omega)
    rcases Nat.eq_zero_or_pos (7 - i) with z | hp
    · have c0 : nI (7 - i) ≤ 0 := by rw [z]; decide
      simp only [X7_odds_S108, X7_odds_J173, if_neg en, gd_t ok, nI4', gd_t ok2, if_pos c0, nI_clamp (show 7 - i < 2 ^ 31 by omega), nI_clamp (show 4 * h + s < 2 ^ 31 by omega), hS, pk_sub hb, nI_l (show W - b < 2 ^ 31 by omega), lets_def, if_neg (show ¬ (7 < 7 - i + i ∧ 7 - i ≤ 7) by omega), hw (7 - i) (by omega), lN_mul]
      rw [st]
      unfold stP
      rw [if_pos z, Int64.add_zero, Nat.add_zero]
    · have c0 : ¬ nI (7 - i) ≤ 0 := nI_nle hp (by omega)
      have e1 : nI (7 - i) - 1 = nI (7 - i - 1) := pk_sub (a := 7 - i) (b := 1) hp
      have ok3 : okx (nI (7 - i - 1)) 16 := okx_nI (by omega) (by omega)
      simp only [X7_odds_S108, X7_odds_J173, if_neg en, gd_t ok, nI4', gd_t ok2, if_neg c0, e1, gd_t ok3, nI_clamp (show 7 - i < 2 ^ 31 by omega), nI_clamp (show 7 - i - 1 < 2 ^ 31 by omega), nI_clamp (show 4 * h + s < 2 ^ 31 by omega), hS, pk_sub hb, nI_l (show W - b < 2 ^ 31 by omega), nI_l (show b < 2 ^ 31 by omega), lets_def, if_neg (show ¬ (7 < 7 - i + i ∧ 7 - i ≤ 7) by omega), if_neg (show ¬ (7 < 7 - i - 1 + i ∧ 7 - i - 1 ≤ 7) by omega), hw (7 - i) (by omega), hw (7 - i - 1) (by omega), lN_mul, lN_add]
      rw [st]
      unfold stP
      rw [if_neg (by omega)]
  · show X7_odds_S108 S (nI s) (nI h) self (nI W) x4 self2 (-1) _ = _
    simp only [X7_odds_S108, X7_odds_J181, if_pos (show (-1 : Int32) < 0 by decide), lets_def, Lp1]
theorem oddsM_go {n : Nat} (hn : n ≤ 6) {q : Nat → Nat} {S : Nat → Int32} (hS : ∀ j, j < 24 → S j = nI (q j)) (h9 : ∀ j, j < 24 → q j ≤ 9) {s : Nat} (hs : s < 4) {x2 x3 : Int32} : ∀ (d h f : Nat) (likely : Nat → Int64), h + d = n → d < f → (∀ j, j < 8 → likely j = lN (pH q s h j)) → ∃ likely', it3 (X7_odds_S74 (nI n) S (nI s) x2 x3) f (lN (aH q h)) (nI h) likely = X7_odds_J187 x2 x3 (lN (aH q n)) likely' ∧ ∀ j, j < 8 → likely' j = lN (pH q s n j)
  | 0, h, f, likely, hd, hf, hw => by
    obtain ⟨f, rfl⟩ : ∃ m, f = m + 1 := ⟨f - 1, by omega⟩
    have e : h = n := by omega
    subst e
    refine ⟨likely, ?_, hw⟩
    show X7_odds_S74 (nI h) S (nI s) x2 x3 (it3 (X7_odds_S74 (nI h) S (nI s) x2 x3) f) (lN (aH q h)) (nI h) likely = _
    simp only [X7_odds_S74, if_pos (nI_le (Nat.le_refl h) (show h < 2 ^ 31 by omega))]
  | d + 1, h, f, likely, hd, hf, hw => by
    obtain ⟨f, rfl⟩ : ∃ m, f = m + 1 := ⟨f - 1, by omega⟩
    have hh : h < 6 := by omega
    have hq4 : ∀ t, t < 4 → (fun t => S (4 * h + t)) t = nI ((fun t => q (4 * h + t)) t) := fun t ht => hS _ (by omega)
    have hb : fb_sm (fun t => q (4 * h + t)) 4 ≤ 4 * 9 := fb_sm_bound (fun t ht => h9 _ (by omega))
    have l := le_sm (q := q) (h := h) hs
    show ∃ likely', X7_odds_S74 (nI n) S (nI s) x2 x3 (it3 (X7_odds_S74 (nI n) S (nI s) x2 x3) f) (lN (aH q h)) (nI h) likely = _ ∧ _
    rcases Nat.eq_zero_or_pos (fb_sm (fun t => q (4 * h + t)) 4) with z | hp
    · have ep : pH q s (h + 1) = pH q s h := by rw [pH, if_pos z]
      have ea : aH q h = aH q (h + 1) := by rw [aH, if_pos z]
      simp only [X7_odds_S74, X7_odds_J181, if_neg (nI_ge (a := h) (b := n) (by omega) (by omega)), weightsOf_eq hh, some_bind9, sumI_nI hq4, z, if_pos (show nI 0 ≤ 0 by decide), lets_def, Lp1]
      rw [ea]
      exact oddsM_go hn hS h9 hs d (h + 1) f likely (by omega) (by omega) (by rw [ep]; exact hw)
    · have ep : pH q s (h + 1) = stP (pH q s h) (q (4 * h + s)) (fb_sm (fun t => q (4 * h + t)) 4 - q (4 * h + s)) := by rw [pH, if_neg (by omega)]
      have ea : aH q h * fb_sm (fun t => q (4 * h + t)) 4 = aH q (h + 1) := by rw [aH, if_neg (by omega)]
      have np : ¬ nI (fb_sm (fun t => q (4 * h + t)) 4) ≤ 0 := nI_nle hp (by omega)
      obtain ⟨w2, e1, e2⟩ := addM_eq hw hh hs (hS (4 * h + s) (by omega)) l (by omega) (x4 := lN (aH q (h + 1))) (self := it3 (X7_odds_S74 (nI n) S (nI s) x2 x3) f)
      simp only [X7_odds_S74, if_neg (nI_ge (a := h) (b := n) (by omega) (by omega)), weightsOf_eq hh, some_bind9, sumI_nI hq4, if_neg np, nI_l (show fb_sm (fun t => q (4 * h + t)) 4 < 2 ^ 31 by omega), lN_mul, ea, lets_def, e1]
      exact oddsM_go hn hS h9 hs d (h + 1) f w2 (by omega) (by omega) (by rw [ep]; exact e2)
theorem oddsM_sum {likely : Nat → Int64} {p : Nat → Nat} (hw : ∀ j, j < 8 → likely j = lN (p j)) {k : Nat} (hk : k ≤ 6) {x3 : Int32} {x4 : Int64} : X7_odds_J187 (nI k) x3 x4 likely = X7_odds_J218 x3 x4 likely (lN (fb_sm (fun j => p (k + j)) (8 - k))) := by
  unfold X7_odds_J187
  refine it2_go (8 - k) (fun i => lN (fb_sm (fun j => p (k + j)) i)) (fun i => nI (k + i)) _ rfl rfl (fun i hi self => ?_) (fun self => ?_) 100000 (by omega)
  · have ok : okx (nI (k + i)) 16 := okx_nI (by omega) (by omega)
    simp only [X7_odds_S193, if_neg (show ¬ (8 : Int32) ≤ nI (k + i) from nI_ge (a := k + i) (b := 8) (by omega) (by omega)), gd_t ok, nI_clamp (show k + i < 2 ^ 31 by omega), hw (k + i) (by omega), lN_add, lets_def, Lp1, fb_sm_succ]
    rfl
  · have e : k + (8 - k) = 8 := by omega
    simp only [X7_odds_S193, e, if_pos (show (8 : Int32) ≤ nI 8 by decide)]
theorem fill16 {likely : Nat → Int64} {i : Nat} (v : Int64) (hv : v = (if i = 0 then 1 else 0)) : vp_updL (fa_fill (fun k => if k = 0 then (1 : Int64) else 0) likely i) i v = fa_fill (fun k => if k = 0 then (1 : Int64) else 0) likely (i + 1) := by
  funext j
  by_cases e : j = i
  · subst e; rw [pk_uLs, fa_fill_in (by omega)]; exact hv
  · rw [pk_uLn e]
    unfold fa_fill
    exact if_iff9 (by omega)
theorem oddsM_eq {n : Nat} (hn : n ≤ 6) {q : Nat → Nat} {S : Nat → Int32} (hS : ∀ j, j < 24 → S j = nI (q j)) (h9 : ∀ j, j < 24 → q j ≤ 9) {s k : Nat} (hs : s < 4) (hk : k ≤ 6) {x3 : Int32} {likely : Nat → Int64} : ∃ likely', it2 (X7_odds_S38 (nI n) S (nI s) (nI k) x3) 100000 0 likely = X7_odds_J218 x3 (lN (aH q n)) likely' (lN (fb_sm (fun j => pH q s n (k + j)) (8 - k))) := by
  obtain ⟨w', e1, e2⟩ := oddsM_go hn hS h9 hs (x2 := nI k) (x3 := x3) n 0 100000 (fa_fill (fun k => if k = 0 then 1 else 0) likely 16) (by omega) (by omega) (fun j hj => by
    rw [fa_fill_in (by omega)]
    show _ = lN (if j = 0 then 1 else 0)
    split <;> rfl)
  refine ⟨w', ?_⟩
  rw [← oddsM_sum e2 hk, ← e1]
  refine it2_go 16 (fun i => nI i) (fun i => fa_fill (fun k => if k = 0 then 1 else 0) likely i) _ rfl (fa_fill_0 _ _).symm (fun i hi self => ?_) (fun self => ?_) 100000 (by decide)
  · have ok : okx (nI i) 16 := okx_nI hi (by omega)
    rcases Nat.eq_zero_or_pos i with z | hp
    · subst z
      simp only [X7_odds_S38, X7_odds_J61, if_neg (show ¬ (16 : Int32) ≤ nI 0 by decide), if_pos (show nI 0 = 0 from rfl), gd_t ok, nI_clamp (show 0 < 2 ^ 31 by omega), lets_def, Lp1]
      rw [fill16 1 rfl]
    · simp only [X7_odds_S38, X7_odds_J61, if_neg (show ¬ (16 : Int32) ≤ nI i from nI_ge (a := i) (b := 16) hi (by omega)), if_neg (nI_ne0 hp (by omega)), gd_t ok, nI_clamp (show i < 2 ^ 31 by omega), lets_def, Lp1]
      rw [fill16 0 (by rw [if_neg (by omega)])]
  · simp only [X7_odds_S38, X7_odds_J68, if_pos (show (16 : Int32) ≤ nI 16 by decide)]
    rfl
theorem pH_tail {q : Nat → Nat} {s n : Nat} (hz : ∀ j, 4 * n ≤ j → j < 24 → q j = 0) : ∀ d, n + d ≤ 6 → pH q s (n + d) = pH q s n ∧ aH q (n + d) = aH q n
  | 0, _ => ⟨rfl, rfl⟩
  | d + 1, hd => by
    obtain ⟨i1, i2⟩ := pH_tail hz d (by omega)
    have z : fb_sm (fun t => q (4 * (n + d) + t)) 4 = 0 := by
      rw [sm4, hz _ (by omega) (by omega), hz _ (by omega) (by omega), hz _ (by omega) (by omega), hz _ (by omega) (by omega)]
    refine ⟨?_, ?_⟩
    · show pH q s (n + d + 1) = _
      rw [pH, if_pos z, i1]
    · show aH q (n + d + 1) = _
      rw [aH, if_pos z, i2]
theorem sim_odds : SimOp_odds Alike9 := by
  unfold SimOp_odds
  intro z_text_length z_text_bytes z_village_houses z_village_law z_village_pride z_village_memory z_village_eats z_village_barred z_now_eaten z_now_year z_now_lot z_now_weights_cells z_now_brought z_now_left z_now_spoons z_now_health z_firstImage_eaten z_firstImage_year z_firstImage_lot z_firstImage_weights_cells z_firstImage_brought z_firstImage_left z_firstImage_spoons z_firstImage_health z_secondImage_eaten z_secondImage_year z_secondImage_lot z_secondImage_weights_cells z_secondImage_brought z_secondImage_left z_secondImage_spoons z_secondImage_health z_keptImages z_asked zb_trace zb_text zb_typed zb_eats zb_barred zb_laws zb_houses zb_s zb_kept zb_isKept z_chances_ways zb_likely x1 x2 x3 hs9
  obtain ⟨n, hn, hT, hV, hN, hK, hA⟩ := hs9
  obtain ⟨rfl, rfl, -, -, -, v6, v7, v8, v9⟩ := id hV
  obtain ⟨a1, a2, a3, a4, a5, a6, a7, a8, a9, b1, b2, b3, b4, b5⟩ := id hN
  rcases sort_cases x1 with ⟨s, hs, rfl, hx, hm⟩ | ⟨hx, hm⟩
  · rcases pk_ix x2 (n := 7) (by omega) with h | h | ⟨k, hk, rfl⟩
    · refine ⟨(-1000000, z_chances_ways), (-1000000, 0, zb_likely), ?_, ?_, rfl, al_of n hn hT hV hN hK hA⟩
      · simp only [fX6_odds, hx, some_bind9, if_neg one_ne, if_pos h]
      · simp only [fX7_odds, hm, some_bind9, if_neg one_ne, in_f1 h, if_true]
    · have q := ge7 h
      refine ⟨(-1000000, z_chances_ways), (-1000000, 0, zb_likely), ?_, ?_, rfl, al_of n hn hT hV hN hK hA⟩
      · simp only [fX6_odds, hx, some_bind9, if_neg one_ne, if_neg q.1, if_pos q.2.1]
      · simp only [fX7_odds, hm, some_bind9, if_neg one_ne, in_f2 q.2.1, if_true]
    · have k0 : ¬ nI k < 0 := nI_pos (by omega)
      have k6 : ¬ (6 : Int32) < nI k := nI_nlt (a := 6) (b := k) (by omega) (by omega)
      rcases half_cases x3 with ⟨hh, gx, gm⟩ | ⟨h0, h1, gx, gm⟩
      · obtain ⟨q, hq⟩ : ∃ q : Nat → Nat, ∀ j, q j = (zb_s j).toNatClampNeg := ⟨fun j => (zb_s j).toNatClampNeg, fun _ => rfl⟩
        have hS : ∀ j, j < 24 → zb_s j = nI (q j) := fun j hj => by rw [hq]; exact (w_nat hN hj).1
        have h9 : ∀ j, j < 24 → q j ≤ 9 := fun j hj => by rw [hq]; exact (w_nat hN hj).2
        have hVq : ∀ j, j < 24 → z_now_weights_cells j = nI (q j) := fun j hj => (a1 j hj).trans (hS j hj)
        have hz : ∀ j, 4 * n ≤ j → j < 24 → q j = 0 := fun j g hj => by rw [hq, a3 j g hj]; rfl
        obtain ⟨t1, t2⟩ := pH_tail (s := s) hz (6 - n) (by omega)
        rw [show n + (6 - n) = 6 by omega] at t1 t2
        obtain ⟨w', e1, e2⟩ := countBringers_eq hVq h9 hs (ways := z_chances_ways)
        rw [t1] at e2
        have f1 := waysFrom_eq e2 (k := k) (by omega)
        have f2 := waysFrom_eq e2 (k := 0) (by omega)
        have sm := pH_sum (q := q) hs n hn
        have fz : fb_sm (fun j => pH q s n (0 + j)) (7 - 0) = aH q n := by
          rw [← sm]
          exact fb_sm_cong (fun j _ => by rw [Nat.zero_add])
        rw [fz] at f2
        have f3 : fb_sm (fun j => pH q s n (k + j)) (8 - k) = fb_sm (fun j => pH q s n (k + j)) (7 - k) := by
          rw [show 8 - k = 7 - k + 1 by omega, fb_sm_succ, pH_0 n (k + (7 - k)) (by omega), Nat.add_zero]
        have lb := aH_b h9 n hn
        have l2 := pre_sum (p := pH q s n) (k := k) (by omega)
        have l36 : 36 ^ n ≤ 36 ^ 6 := Nat.pow_le_pow_right (by omega) hn
        have l6 : (36 : Nat) ^ 6 < 2 ^ 32 := by decide
        obtain ⟨lk, e3⟩ := oddsM_eq hn hS h9 hs (k := k) (by omega) (x3 := x3) (likely := zb_likely)
        rw [f3] at e3
        obtain ⟨r, r1, r2⟩ := terms_eq (a := fb_sm (fun j => pH q s n (k + j)) (7 - k)) (b := aH q n) (by omega) (by omega) lb.1 x3
        refine ⟨(r, w'), (r, 0, lk), ?_, ?_, rfl, al_of n hn hT hV hN hK hA⟩
        · unfold fX6_odds
          rw [hx, some_bind9, if_neg one_ne, if_neg k0, if_neg k6, gx, some_bind9, if_neg one_ne, e1, some_bind9, f1, some_bind9]
          rw [show fX0_waysFrom w' 0 = some (lN (aH q n)) from f2, some_bind9, r1, some_bind9]
        · unfold fX7_odds
          rw [hm, some_bind9, if_neg one_ne, in_t k0 k6, some_bind9, if_neg one_ne, gm, some_bind9, if_neg one_ne, e3]
          unfold X7_odds_J218
          rw [r2, some_bind9]
      · refine ⟨(-1000000, z_chances_ways), (-1000000, 0, zb_likely), ?_, ?_, rfl, al_of n hn hT hV hN hK hA⟩
        · simp only [fX6_odds, hx, some_bind9, if_neg one_ne, if_neg k0, if_neg k6, gx, if_true]
        · simp only [fX7_odds, hm, some_bind9, if_neg one_ne, in_t k0 k6, gm, if_true]
  · refine ⟨(-1000000, z_chances_ways), (-1000000, 0, zb_likely), ?_, ?_, rfl, al_of n hn hT hV hN hK hA⟩
    · simp only [fX6_odds, hx, some_bind9, if_true]
    · simp only [fX7_odds, hm, some_bind9, if_true]
