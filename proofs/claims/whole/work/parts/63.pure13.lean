/-! typing: bytes of a long -/
def bv9 (y : Int64) : Nat := ((y &&& 255).toInt32).toNatClampNeg
theorem and255 (x : Int32) : ∃ b, b < 256 ∧ x &&& 255 = nI b := by
  obtain ⟨k, -, rfl⟩ := wb_of32 x
  refine ⟨k &&& 255, Nat.lt_succ_of_le Nat.and_le_right, ?_⟩
  exact fa_and k 255
theorem l255 (y : Int64) : (y &&& 255).toInt32 = y.toInt32 &&& 255 := by
  rw [Int64.toInt32_and]
  rfl
theorem bv_ok (y : Int64) : (y &&& 255).toInt32 = nI (bv9 y) ∧ bv9 y < 256 ∧ vp_nar .byte (y.toInt32.toInt8.toInt32) = (nI (bv9 y)).toInt8.toInt32 := by
  obtain ⟨b, hb, e⟩ := and255 y.toInt32
  have e1 : (y &&& 255).toInt32 = nI b := (l255 y).trans e
  have e2 : bv9 y = b := by unfold bv9; rw [e1, nI_clamp (by omega)]
  rw [e2]
  refine ⟨e1, hb, ?_⟩
  rw [vp_nar_byte, fb_byte_twice, ← e, fa_byte_low]
theorem dec8 : ∀ N, N < 9 → ∀ i, i < N → nI (8 * (N - 1 - i)) + (-8) = if i + 1 < N then nI (8 * (N - 1 - (i + 1))) else -8 := by decide +kernel
theorem dec1 : ∀ N, N < 9 → ∀ i, i < N → nI (N - 1 - i) + (-1) = if i + 1 < N then nI (N - 1 - (i + 1)) else -1 := by decide +kernel
def shV (v : Int64) (N k : Nat) : Int64 := v >>> ((nI (8 * (N - 1 - k))).toInt64 &&& 63)
theorem addX_eq {t N : Nat} (hN : N ≤ 8) (h1 : 1 ≤ N) (ht : t + N ≤ 300) {tb : Nat → Int32} {v : Int64} : fX2_add (nI t) tb v (nI N) = some (nI (t + N), fb_put tb (fun k => (nI (bv9 (shV v N k))).toInt8.toInt32) t N) := by
  unfold fX2_add
  have e0 : nI N - 1 = nI (N - 1) := pk_sub (a := N) (b := 1) h1
  have e1 : (8 : Int32) * nI (N - 1) = nI (8 * (N - 1)) := pk_mul 8 (N - 1)
  rw [e0, e1, lets_def]
  refine it3_go N (fun i => if i < N then nI (8 * (N - 1 - i)) else -8) (fun i => nI (t + i)) (fun i => fb_put tb (fun k => (nI (bv9 (shV v N k))).toInt8.toInt32) t i) _ (by rw [if_pos (by omega)]; rfl) rfl (fb_put_0 _ _ _).symm (fun i hi self => ?_) (fun self => ?_) 100000 (by omega)
  · have ed := dec8 N (by omega) i hi
    show X2_add_S8 v self (if i < N then nI (8 * (N - 1 - i)) else -8) (nI (t + i)) (fb_put tb (fun k => (nI (bv9 (shV v N k))).toInt8.toInt32) t i) = self (if i + 1 < N then nI (8 * (N - 1 - (i + 1))) else -8) (nI (t + (i + 1))) (fb_put tb (fun k => (nI (bv9 (shV v N k))).toInt8.toInt32) t (i + 1))
    rw [if_pos hi, ← ed]
    have ok : okx (nI (t + i)) 300 := okx_nI (by omega) (by omega)
    have eb := (bv_ok (shV v N i)).2.2
    unfold shV at eb
    simp only [X2_add_S8, if_neg (show ¬ nI (8 * (N - 1 - i)) < 0 from nI_pos (by omega)), if_neg (show ¬ (300 : Int32) ≤ nI (t + i) from nI_ge (a := t + i) (b := 300) (by omega) (by omega)), gd_t ok, nI_clamp (show t + i < 2 ^ 31 by omega), lets_def, Lp1, eb]
    rw [← fb_put_succ]
    rfl
  · show X2_add_S8 v self (if N < N then nI (8 * (N - 1 - N)) else -8) (nI (t + N)) _ = _
    rw [if_neg (Nat.lt_irrefl N)]
    simp only [X2_add_S8, if_pos (show (-8 : Int32) < 0 by decide)]
theorem typeM_eq {t N : Nat} (hN : N ≤ 8) (h1 : 1 ≤ N) (ht : t + N ≤ 300) {tx : Nat → Int32} {v : Int64} : it3 (X7_type_S37 v) 100000 (nI (N - 1)) (nI t) tx = some (nI (t + N), 0, nI (t + N), fb_put tx (fun k => nI (bv9 (shV v N k))) t N) := by
  refine it3_go N (fun i => if i < N then nI (N - 1 - i) else -1) (fun i => nI (t + i)) (fun i => fb_put tx (fun k => nI (bv9 (shV v N k))) t i) _ (by rw [if_pos (by omega)]; rfl) rfl (fb_put_0 _ _ _).symm (fun i hi self => ?_) (fun self => ?_) 100000 (by omega)
  · have ed := dec1 N (by omega) i hi
    show X7_type_S37 v self (if i < N then nI (N - 1 - i) else -1) (nI (t + i)) (fb_put tx (fun k => nI (bv9 (shV v N k))) t i) = self (if i + 1 < N then nI (N - 1 - (i + 1)) else -1) (nI (t + (i + 1))) (fb_put tx (fun k => nI (bv9 (shV v N k))) t (i + 1))
    rw [if_pos hi, ← ed]
    have ok : okx (nI (t + i)) 300 := okx_nI (by omega) (by omega)
    have eb := (bv_ok (shV v N i)).1
    unfold shV at eb
    have e8 : (8 : Int32) * nI (N - 1 - i) = nI (8 * (N - 1 - i)) := pk_mul 8 (N - 1 - i)
    simp only [X7_type_S37, if_neg (show ¬ nI (N - 1 - i) < 0 from nI_pos (by omega)), gd_t ok, nI_clamp (show t + i < 2 ^ 31 by omega), lets_def, Lp1, e8, eb]
    rw [← fb_put_succ]
    rfl
  · show X7_type_S37 v self (if N < N then nI (N - 1 - N) else -1) (nI (t + N)) _ = _
    rw [if_neg (Nat.lt_irrefl N)]
    simp only [X7_type_S37, X7_type_J79, if_pos (show (-1 : Int32) < 0 by decide)]
theorem sim_type : SimOp_type Alike9 := by
  unfold SimOp_type
  intro z_text_length z_text_bytes z_village_houses z_village_law z_village_pride z_village_memory z_village_eats z_village_barred z_now_eaten z_now_year z_now_lot z_now_weights_cells z_now_brought z_now_left z_now_spoons z_now_health z_firstImage_eaten z_firstImage_year z_firstImage_lot z_firstImage_weights_cells z_firstImage_brought z_firstImage_left z_firstImage_spoons z_firstImage_health z_secondImage_eaten z_secondImage_year z_secondImage_lot z_secondImage_weights_cells z_secondImage_brought z_secondImage_left z_secondImage_spoons z_secondImage_health z_keptImages z_asked zb_trace zb_text zb_typed zb_eats zb_barred zb_laws zb_houses zb_s zb_kept zb_isKept x1 x3 hs9
  obtain ⟨n, hn, hT, hV, hN, hK, hA⟩ := hs9
  obtain ⟨t, ht, rfl, rfl, hB⟩ := id hT
  rcases pk_ix x3 (n := 9) (by omega) with h | h | ⟨N, hN9, rfl⟩
  · have h1 : x3 < 1 := by
      rw [Int32.lt_iff_toInt_lt] at h ⊢
      have e0 : (0 : Int32).toInt = 0 := rfl
      have e1 : (1 : Int32).toInt = 1 := rfl
      omega
    refine ⟨(-1, nI t, z_text_bytes), (-1, 0, nI t, zb_text), ?_, ?_, rfl, al_of n hn hT hV hN hK hA⟩
    · simp only [fX6_type, if_pos h1]
    · simp only [fX7_type, in_f1 h1, some_bind9, if_true]
  · have e9 : (nI 9).toInt = 9 := rfl
    have e8 : (8 : Int32).toInt = 8 := rfl
    have e1 : (1 : Int32).toInt = 1 := rfl
    rw [Int32.le_iff_toInt_le] at h
    have h1 : ¬ x3 < 1 := by rw [Int32.lt_iff_toInt_lt]; omega
    have h8 : ¬ x3 ≤ 8 := by rw [Int32.le_iff_toInt_le]; omega
    have h8' : 8 < x3 := by rw [Int32.lt_iff_toInt_lt]; omega
    refine ⟨(-1, nI t, z_text_bytes), (-1, 0, nI t, zb_text), ?_, ?_, rfl, al_of n hn hT hV hN hK hA⟩
    · simp only [fX6_type, if_neg h1, if_neg h8]
    · simp only [fX7_type, in_f2 h8', some_bind9, if_true]
  · rcases Nat.eq_zero_or_pos N with z | hp
    · subst z
      refine ⟨(-1, nI t, z_text_bytes), (-1, 0, nI t, zb_text), ?_, ?_, rfl, al_of n hn hT hV hN hK hA⟩
      · simp only [fX6_type, if_pos (show nI 0 < 1 by decide)]
      · simp only [fX7_type, in_f1 (show nI 0 < 1 by decide), some_bind9, if_true]
    · have h1 : ¬ nI N < 1 := nI_nlt (a := N) (b := 1) (by omega) (by omega)
      have h8 : nI N ≤ 8 := nI_le (a := N) (b := 8) (by omega) (by omega)
      have h8' : ¬ 8 < nI N := nI_nlt (a := 8) (b := N) (by omega) (by omega)
      rcases Nat.lt_or_ge 300 (t + N) with g | g
      · have hc : ¬ nI (t + N) ≤ 300 := nI_ge (a := 300) (b := t + N) g (by omega)
        refine ⟨(-3, nI t, z_text_bytes), (-3, 0, nI t, zb_text), ?_, ?_, rfl, al_of n hn hT hV hN hK hA⟩
        · simp only [fX6_type, if_neg h1, if_pos h8, nI_add, if_neg hc]
        · simp only [fX7_type, in_t h1 h8', some_bind9, if_neg one_ne, nI_add, if_neg hc]
      · have hc : nI (t + N) ≤ 300 := nI_le (a := t + N) (b := 300) g (by omega)
        have e0 : nI N - 1 = nI (N - 1) := pk_sub (a := N) (b := 1) hp
        refine ⟨(nI (t + N), nI (t + N), fb_put z_text_bytes (fun k => (nI (bv9 (shV x1 N k))).toInt8.toInt32) t N), (nI (t + N), 0, nI (t + N), fb_put zb_text (fun k => nI (bv9 (shV x1 N k))) t N), ?_, ?_, rfl, al_of n hn ⟨t + N, g, rfl, rfl, fun i hi => ?_⟩ hV hN hK hA⟩
        · simp only [fX6_type, if_neg h1, if_pos h8, nI_add, if_pos hc, addX_eq (show N ≤ 8 by omega) hp g, some_bind9]
        · simp only [fX7_type, in_t h1 h8', some_bind9, if_neg one_ne, nI_add, if_pos hc, e0, lets_def]
          exact typeM_eq (by omega) hp g
        · show ∃ b, b < 256 ∧ fb_put zb_text (fun k => nI (bv9 (shV x1 N k))) t N i = nI b ∧ fb_put z_text_bytes (fun k => (nI (bv9 (shV x1 N k))).toInt8.toInt32) t N i = (nI b).toInt8.toInt32
          rcases Nat.lt_or_ge i t with q | q
          · rw [fb_put_out (Or.inl q), fb_put_out (Or.inl q)]
            exact hB i q
          · rw [fb_put_in q hi, fb_put_in q hi]
            exact ⟨_, (bv_ok _).2.1, rfl, rfl⟩
/-! sharing: the least of the bounds -/
def crS (sp : Nat → Int32) (x : Int32) : Nat → Int32 := sumI (fun s => if ((x >>> (nI s &&& 31)) &&& (1 : Int32)) = 0 then sp s else 0)
def crH (ea ba : Nat → Int32) (x : Int32) : Nat → Int32 := sumI (fun h => if (x &&& (ba h ^^^ (-1 : Int32))) = 0 then 0 else ea h)
theorem crossing_eq {pr : Int32} {ea ba br : Nat → Int32} {x : Int32} : fX6_crossing pr ea ba br x = some (crS (fun s => spB br ea pr (nI s) 6) x 4 + crH ea ba x 6) := by
  unfold fX6_crossing
  refine it2_go 4 (fun i => crS (fun s => spB br ea pr (nI s) 6) x i) (fun i => nI i) _ rfl rfl (fun i hi self => ?_) (fun self => ?_) 100000 (by decide)
  · simp only [X6_crossing_S4, X6_crossing_J25, if_neg (show ¬ (4 : Int32) ≤ nI i from nI_ge (a := i) (b := 4) hi (by omega)), spoonsBrought_eq, some_bind9, lets_def, Lp1, crS, sumI]
    by_cases hc : ((x >>> (nI i &&& 31)) &&& (1 : Int32)) = 0
    · simp only [if_pos hc]
    · simp only [if_neg hc, Int32.add_zero]
  · simp only [X6_crossing_S4, X6_crossing_J31, if_pos (show (4 : Int32) ≤ nI 4 by decide)]
    refine it2_go 6 (fun i => crS (fun s => spB br ea pr (nI s) 6) x 4 + crH ea ba x i) (fun i => nI i) _ (Int32.add_zero _).symm rfl (fun i hi self => ?_) (fun self => ?_) 100000 (by decide)
    · have ok : okx (nI i) 6 := okx_nI hi (by omega)
      simp only [X6_crossing_S33, X6_crossing_J67, if_neg (show ¬ (6 : Int32) ≤ nI i from nI_ge (a := i) (b := 6) hi (by omega)), gd_t ok, nI_clamp (show i < 2 ^ 31 by omega), lets_def, Lp1, crH, sumI]
      by_cases hc : (x &&& (ba i ^^^ (-1 : Int32))) = 0
      · simp only [if_pos hc, Int32.add_zero]
      · simp only [if_neg hc, Int32.add_assoc]
    · simp only [X6_crossing_S33, if_pos (show (6 : Int32) ≤ nI 6 by decide)]
def minI (c : Nat → Int32) : Nat → Int32
  | 0 => c 0
  | i + 1 => if c (i + 1) < minI c i then c (i + 1) else minI c i
theorem minI_ne {c : Nat → Int32} (h : ∀ i, i < 16 → ∃ k, k < 10000 ∧ c i = nI k) : ∀ i, i < 16 → ∃ k, k < 10000 ∧ minI c i = nI k
  | 0, _ => h 0 (by omega)
  | i + 1, hi => by
    unfold minI
    split
    · exact h (i + 1) hi
    · exact minI_ne h i (by omega)
theorem shared_eq {pr : Int32} {ea ba br : Nat → Int32} : fX6_shared pr ea ba br = some (minI (fun x => crS (fun s => spB br ea pr (nI s) 6) (nI x) 4 + crH ea ba (nI x) 6) 15) := by
  unfold fX6_shared
  rw [crossing_eq, some_bind9]
  refine it2_go 15 (fun i => minI (fun x => crS (fun s => spB br ea pr (nI s) 6) (nI x) 4 + crH ea ba (nI x) 6) i) (fun i => nI (i + 1)) _ rfl rfl (fun i hi self => ?_) (fun self => ?_) 100000 (by decide)
  · simp only [X6_shared_S8, if_neg (show ¬ (16 : Int32) ≤ nI (i + 1) from nI_ge (a := i + 1) (b := 16) (by omega) (by omega)), crossing_eq, some_bind9, lets_def, Lp1]
    rfl
  · simp only [X6_shared_S8, if_pos (show (16 : Int32) ≤ nI (15 + 1) by decide)]
theorem sharedM_eq {n : Nat} (hn : n ≤ 6) {ea ba la S : Nat → Int32} (hc : ∀ i, i < 16 → ∃ k, k < 10000 ∧ crS (fun s => spB (fun h => S (24 + h)) ea (la 1) (nI s) n) (nI i) 4 + crH ea ba (nI i) n = nI k) : fX7_shared (nI n) ea ba la S = some (minI (fun x => crS (fun s => spB (fun h => S (24 + h)) ea (la 1) (nI s) n) (nI x) 4 + crH ea ba (nI x) n) 15, 0) := by
  unfold fX7_shared
  refine it2_go 16 (fun i => if i = 0 then -9 else minI (fun x => crS (fun s => spB (fun h => S (24 + h)) ea (la 1) (nI s) n) (nI x) 4 + crH ea ba (nI x) n) (i - 1)) (fun i => nI i) _ rfl rfl (fun i hi self => ?_) (fun self => ?_) 100000 (by decide)
  · simp only [X7_shared_S10, if_neg (show ¬ (16 : Int32) ≤ nI i from nI_ge (a := i) (b := 16) (by omega) (by omega))]
    refine it2_go 4 (fun j => crS (fun s => spB (fun h => S (24 + h)) ea (la 1) (nI s) n) (nI i) j) (fun j => nI j) _ rfl rfl (fun j hj self2 => ?_) (fun self2 => ?_) 100000 (by decide)
    · simp only [X7_shared_S21, X7_shared_J47, if_neg (show ¬ (4 : Int32) ≤ nI j from nI_ge (a := j) (b := 4) hj (by omega)), spoonsOfM_eq hn, some_bind9, lets_def, Lp1, crS, sumI]
      by_cases hc : ((nI i >>> (nI j &&& 31)) &&& (1 : Int32)) = 0
      · simp only [if_pos hc]
      · simp only [if_neg hc]
    · simp only [X7_shared_S21, X7_shared_J55, if_pos (show (4 : Int32) ≤ nI 4 by decide)]
      refine it2_go n (fun j => crS (fun s => spB (fun h => S (24 + h)) ea (la 1) (nI s) n) (nI i) 4 + crH ea ba (nI i) j) (fun j => nI j) _ (Int32.add_zero _).symm rfl (fun j hj self3 => ?_) (fun self3 => ?_) 100000 (by omega)
      · have ok : okx (nI j) 12 := okx_nI (by omega) (by omega)
        simp only [X7_shared_S58, X7_shared_J93, if_neg (nI_ge (a := j) (b := n) hj (by omega)), gd_t ok, nI_clamp (show j < 2 ^ 31 by omega), lets_def, Lp1, crH, sumI]
        by_cases hc : (nI i &&& (ba j ^^^ (-1 : Int32))) = 0
        · simp only [if_pos hc, Int32.add_zero]
        · simp only [if_neg hc, Int32.add_assoc]
      · simp only [X7_shared_S58, X7_shared_J101, X7_shared_J112, X7_shared_J117, if_pos (nI_le (Nat.le_refl n) (show n < 2 ^ 31 by omega)), lets_def, Lp1]
        rcases i with _ | i
        · rfl
        · obtain ⟨k, hk, ek⟩ := minI_ne hc i (by omega)
          have n9 : ¬ minI (fun x => crS (fun s => spB (fun h => S (24 + h)) ea (la 1) (nI s) n) (nI x) 4 + crH ea ba (nI x) n) i = -9 := fun e => m9_ne k (by omega) (by rw [← ek]; exact e.symm)
          have ei : i + 1 - 1 = i := rfl
          have ei2 : i + 1 + 1 - 1 = i + 1 := rfl
          simp only [if_neg (Nat.succ_ne_zero i), if_neg (Nat.succ_ne_zero (i + 1)), ei, ei2, if_neg n9]
          by_cases hd : crS (fun s => spB (fun h => S (24 + h)) ea (la 1) (nI s) n) (nI (i + 1)) 4 + crH ea ba (nI (i + 1)) n < minI (fun x => crS (fun s => spB (fun h => S (24 + h)) ea (la 1) (nI s) n) (nI x) 4 + crH ea ba (nI x) n) i
          · have e1 : minI (fun x => crS (fun s => spB (fun h => S (24 + h)) ea (la 1) (nI s) n) (nI x) 4 + crH ea ba (nI x) n) (i + 1) = crS (fun s => spB (fun h => S (24 + h)) ea (la 1) (nI s) n) (nI (i + 1)) 4 + crH ea ba (nI (i + 1)) n := if_pos hd
            rw [if_neg (fa_of_lt hd).2.1, e1]
          · have e1 : minI (fun x => crS (fun s => spB (fun h => S (24 + h)) ea (la 1) (nI s) n) (nI x) 4 + crH ea ba (nI x) n) (i + 1) = minI (fun x => crS (fun s => spB (fun h => S (24 + h)) ea (la 1) (nI s) n) (nI x) 4 + crH ea ba (nI x) n) i := if_neg hd
            rw [if_pos (fa_of_nlt hd), e1]
  · simp only [X7_shared_S10, if_pos (show (16 : Int32) ≤ nI 16 by decide)]
    rw [if_neg (show ¬ (16 : Nat) = 0 by decide), show (16 : Nat) - 1 = 15 from rfl]
theorem minI_cg {c c' : Nat → Int32} : ∀ {i : Nat}, (∀ j, j ≤ i → c j = c' j) → minI c i = minI c' i
  | 0, h => h 0 (Nat.le_refl 0)
  | i + 1, h => by
    have e := minI_cg (c := c) (c' := c') (i := i) (fun j hj => h j (by omega))
    simp only [minI, e, h (i + 1) (Nat.le_refl _)]
theorem sim_shared : SimOp_shared Alike9 := by
  unfold SimOp_shared
  intro z_text_length z_text_bytes z_village_houses z_village_law z_village_pride z_village_memory z_village_eats z_village_barred z_now_eaten z_now_year z_now_lot z_now_weights_cells z_now_brought z_now_left z_now_spoons z_now_health z_firstImage_eaten z_firstImage_year z_firstImage_lot z_firstImage_weights_cells z_firstImage_brought z_firstImage_left z_firstImage_spoons z_firstImage_health z_secondImage_eaten z_secondImage_year z_secondImage_lot z_secondImage_weights_cells z_secondImage_brought z_secondImage_left z_secondImage_spoons z_secondImage_health z_keptImages z_asked zb_trace zb_text zb_typed zb_eats zb_barred zb_laws zb_houses zb_s zb_kept zb_isKept hs9
  obtain ⟨n, hn, hT, hV, hN, hK, hA⟩ := hs9
  obtain ⟨rfl, rfl, -, ⟨rfl, p9, hp9, ep9⟩, -, v6, v7, v8, v9⟩ := id hV
  obtain ⟨a1, a2, a3, a4, a5, a6, a7, a8, a9, b1, b2, b3, b4, b5⟩ := id hN
  have hE : ∀ h, h < n → zb_eats h = nI ((zb_eats h).toNatClampNeg) ∧ (zb_eats h).toNatClampNeg ≤ 9 := fun h hh => by
    obtain ⟨-, k, -, hk, e⟩ := v6 h hh
    rw [e, nI_clamp (by omega)]
    exact ⟨rfl, hk⟩
  have hsp : ∀ s, s < 4 → spB (fun h => zb_s (24 + h)) zb_eats (zb_laws 1) (nI s) n = nI (fb_sm (fun h => if zb_s (24 + h) = nI s then (zb_eats h).toNatClampNeg + p9 else 0) n) := fun s hs => by
    unfold spB
    refine sumI_nI (fun i hi => ?_)
    by_cases hq : zb_s (24 + i) = nI s
    · rw [if_pos hq, if_pos hq, ep9, (hE i hi).1, nI_add, nI_clamp (by have := (hE i hi).2; omega)]
    · rw [if_neg hq, if_neg hq]; rfl
  have hspb : ∀ s, fb_sm (fun h => if zb_s (24 + h) = nI s then (zb_eats h).toNatClampNeg + p9 else 0) n ≤ n * 18 := fun s => fb_sm_bound (fun i hi => by
    have := (hE i hi).2
    split <;> omega)
  have hc : ∀ i, i < 16 → ∃ k, k < 10000 ∧ crS (fun s => spB (fun h => zb_s (24 + h)) zb_eats (zb_laws 1) (nI s) n) (nI i) 4 + crH zb_eats zb_barred (nI i) n = nI k := fun i _ => by
    have e1 : crS (fun s => spB (fun h => zb_s (24 + h)) zb_eats (zb_laws 1) (nI s) n) (nI i) 4 = nI (fb_sm (fun s => if ((nI i >>> (nI s &&& 31)) &&& (1 : Int32)) = 0 then fb_sm (fun h => if zb_s (24 + h) = nI s then (zb_eats h).toNatClampNeg + p9 else 0) n else 0) 4) := by
      refine sumI_nI (fun s hs => ?_)
      by_cases hq : ((nI i >>> (nI s &&& 31)) &&& (1 : Int32)) = 0
      · rw [if_pos hq, if_pos hq]; exact hsp s hs
      · rw [if_neg hq, if_neg hq]; rfl
    have e2 : crH zb_eats zb_barred (nI i) n = nI (fb_sm (fun h => if (nI i &&& (zb_barred h ^^^ (-1 : Int32))) = 0 then 0 else (zb_eats h).toNatClampNeg) n) := by
      refine sumI_nI (fun h hh => ?_)
      by_cases hq : (nI i &&& (zb_barred h ^^^ (-1 : Int32))) = 0
      · rw [if_pos hq, if_pos hq]; rfl
      · rw [if_neg hq, if_neg hq]; exact (hE h hh).1
    have l1 : fb_sm (fun s => if ((nI i >>> (nI s &&& 31)) &&& (1 : Int32)) = 0 then fb_sm (fun h => if zb_s (24 + h) = nI s then (zb_eats h).toNatClampNeg + p9 else 0) n else 0) 4 ≤ 4 * (n * 18) := fb_sm_bound (fun s hs => by
      have := hspb s
      split <;> omega)
    have l2 : fb_sm (fun h => if (nI i &&& (zb_barred h ^^^ (-1 : Int32))) = 0 then 0 else (zb_eats h).toNatClampNeg) n ≤ n * 9 := fb_sm_bound (fun h hh => by
      have := (hE h hh).2
      split <;> omega)
    refine ⟨_, ?_, by rw [e1, e2, nI_add]⟩
    omega
  have key : minI (fun x => crS (fun s => spB z_now_brought z_village_eats (zb_laws 1) (nI s) 6) (nI x) 4 + crH z_village_eats z_village_barred (nI x) 6) 15 = minI (fun x => crS (fun s => spB (fun h => zb_s (24 + h)) zb_eats (zb_laws 1) (nI s) n) (nI x) 4 + crH zb_eats zb_barred (nI x) n) 15 := minI_cg (fun x _ => ?_)
  · have g1 := sharedM_eq hn hc
    have g2 := shared_eq (pr := zb_laws 1) (ea := z_village_eats) (ba := z_village_barred) (br := z_now_brought)
    rw [key] at g2
    generalize minI (fun x => crS (fun s => spB (fun h => zb_s (24 + h)) zb_eats (zb_laws 1) (nI s) n) (nI x) 4 + crH zb_eats zb_barred (nI x) n) 15 = rr at g1 g2
    exact ⟨rr, (rr, 0), g2, g1, rfl, al_of n hn hT hV hN hK hA⟩
  congr 1
  · refine sumI_congr (fun s hs => ?_)
    simp only [sp_alike hn a4 a6 (fun h hh => (v6 h hh).1) (m9_ne s (by omega))]
  · unfold crH
    rw [sumI_tail (n := n) hn (fun h h1 h2 => by simp only [v7 h h1 h2, ite_self])]
    exact sumI_congr (fun h hh => by simp only [(v6 h hh).1, (v8 h hh).1])
