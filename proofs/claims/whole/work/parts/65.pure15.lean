def fvN (f : Nat → Int32) : Option Nat := if (hvP f 4).1 = -9 then none else some ((hvP f 4).1.toNatClampNeg)
theorem fvN_ok (f : Nat → Int32) : (hvP f 4).1 = encO (fvN f) ∧ ∀ k, fvN f = some k → k < 4 := by
  obtain ⟨o, h1, h2⟩ := hv_enc f 4
  unfold fvN
  rw [h1]
  cases o with
  | none => exact ⟨rfl, fun k h => by rw [if_pos (show encO none = -9 from rfl)] at h; cases h⟩
  | some j =>
    have hj := h2 j rfl
    have n9 : ¬ encO (some j) = -9 := fun e => m9_ne j (by omega) e.symm
    have ec : (encO (some j)).toNatClampNeg = j := nI_clamp (by omega)
    rw [if_neg n9, ec]
    exact ⟨rfl, fun k h => by cases h; exact hj⟩
theorem note_eq {w fav : Nat → Int32} : fX6_noteFavourites w fav = some (fa_fill (fun h => (hvP (fun s => w (4 * h + s)) 4).1) fav 6) := by
  unfold fX6_noteFavourites
  refine it2_go 6 (fun i => nI i) (fun i => fa_fill (fun h => (hvP (fun s => w (4 * h + s)) 4).1) fav i) _ rfl (fa_fill_0 _ _).symm (fun i hi self => ?_) (fun self => ?_) 100000 (by decide)
  · have ok : okx (nI i) 6 := okx_nI hi (by omega)
    simp only [X6_noteFavourites_S2, if_neg (show ¬ (6 : Int32) ≤ nI i from nI_ge (a := i) (b := 6) hi (by omega)), heaviest_eq hi, some_bind9, gd_t ok, nI_clamp (show i < 2 ^ 31 by omega), lets_def, Lp1]
    rw [← fa_fill_succ]
  · simp only [X6_noteFavourites_S2, if_pos (show (6 : Int32) ≤ nI 6 by decide)]
theorem rng_cases (x : Int32) : (∃ c, 1 ≤ c ∧ c ≤ 99 ∧ x = nI c ∧ ¬ x < 1 ∧ ¬ (99 : Int32) < x ∧ fX7_in x 1 99 = some 1) ∨ ((x < 1 ∨ (¬ x < 1 ∧ (99 : Int32) < x)) ∧ fX7_in x 1 99 = some 0) := by
  by_cases h1 : x < 1
  · exact Or.inr ⟨Or.inl h1, in_f1 h1⟩
  · by_cases h2 : (99 : Int32) < x
    · exact Or.inr ⟨Or.inr ⟨h1, h2⟩, in_f2 h2⟩
    · left
      have e1 : (1 : Int32).toInt = 1 := rfl
      have e9 : (99 : Int32).toInt = 99 := rfl
      have g1 := h1
      have g2 := h2
      rw [Int32.lt_iff_toInt_lt] at g1 g2
      obtain ⟨j, hj, rfl⟩ := nI_of (x := x) (by rw [Int32.lt_iff_toInt_lt]; have e0 : (0 : Int32).toInt = 0 := rfl; omega)
      rw [nI_toInt hj] at g1 g2
      exact ⟨j, by omega, by omega, rfl, h1, h2, in_t h1 h2⟩
def fsP (p : Nat → Bool) : Nat → Int32
  | 0 => -9
  | i + 1 => if p i = true then (if fsP p i = -9 then nI i else fsP p i) else fsP p i
theorem fs_iff {p : Nat → Bool} : ∀ i, i < 1000 → (fsP p i = -9 ↔ fb_ct p i = 0)
  | 0, _ => ⟨fun _ => rfl, fun _ => rfl⟩
  | i + 1, hi => by
    have ih := fs_iff (p := p) i (by omega)
    rw [fsP, fb_ct_succ]
    cases p i with
    | true =>
      rw [if_pos rfl, if_pos rfl]
      constructor
      · intro e
        by_cases q : fsP p i = -9
        · rw [if_pos q] at e; exact absurd e.symm (m9_ne i (by omega))
        · rw [if_neg q] at e; exact absurd e q
      · intro e; omega
    | false =>
      rw [if_neg (by decide), if_neg (by decide), Nat.add_zero]
      exact ih
theorem fs_tail {p : Nat → Bool} {m : Nat} : ∀ k, m ≤ k → (∀ i, m ≤ i → i < k → p i = false) → fsP p k = fsP p m ∧ fb_ct p k = fb_ct p m
  | 0, h, _ => by rw [show m = 0 by omega]; exact ⟨rfl, rfl⟩
  | k + 1, h, hp => by
    rcases Nat.lt_or_ge k m with q | q
    · rw [show m = k + 1 by omega]; exact ⟨rfl, rfl⟩
    · obtain ⟨e1, e2⟩ := fs_tail k q (fun i h1 h2 => hp i h1 (by omega))
      rw [fsP, fb_ct_succ, hp k q (by omega), if_neg (by decide), if_neg (by decide)]
      exact ⟨e1, e2⟩
theorem fs_cg {p q : Nat → Bool} : ∀ k, (∀ i, i < k → p i = q i) → fsP p k = fsP q k
  | 0, _ => rfl
  | k + 1, h => by
    have e := fs_cg (p := p) (q := q) k (fun i hi => h i (by omega))
    simp only [fsP, e, h k (by omega)]
theorem bool_i (b : Bool) (R : Type) (A B : Option R) : (if (if b = true then (1 : Int32) else 0) = 0 then A else B) = if b = true then B else A := by cases b <;> rfl
theorem restsX_loop {fv : Nat → Option Nat} {Fv : Nat → Int32} (hf : ∀ h k, fv h = some k → k < 4) (hF : ∀ h, h < 6 → Fv h = encO (fv h)) {c w : Nat} (hc : c ≤ 99) (hw : w ≤ 99) {x3 : Int32} : it3 (X6_rests_S45 (nI c) (nI w) x3 Fv) 100000 0 (-9) 0 = X6_rests_J88 x3 Fv (nI (fb_ct (fun x => allN (restB fv c w x 6) 6) 64)) (fsP (fun x => allN (restB fv c w x 6) 6) 64) := by
  refine it3_go 64 (fun i => nI (fb_ct (fun x => allN (restB fv c w x 6) 6) i)) (fun i => fsP (fun x => allN (restB fv c w x 6) 6) i) (fun i => nI i) _ rfl rfl rfl (fun i hi self => ?_) (fun self => ?_) 100000 (by decide)
  · simp only [X6_rests_S45, X6_rests_J80, X6_rests_J82, if_neg (show ¬ (64 : Int32) ≤ nI i from nI_ge (a := i) (b := 64) hi (by omega)), isRest_eq hf hF hi hc hw, some_bind9, lets_def, Lp1, bool_i, fsP, fb_ct_succ]
    by_cases hb : allN (restB fv c w i 6) 6 = true
    · simp only [if_pos hb]
      by_cases g : fsP (fun x => allN (restB fv c w x 6) 6) i = -9
      · simp only [if_pos g]
      · simp only [if_neg g]
    · simp only [if_neg hb, Nat.add_zero]
  · simp only [X6_rests_S45, if_pos (show (64 : Int32) ≤ nI 64 by decide)]
theorem restsM_loop {n : Nat} (hn : n ≤ 6) {S Y : Nat → Int32} {fv : Nat → Option Nat} (hf : ∀ h k, fv h = some k → k < 4) (hF : ∀ h, h < n → (hvP (fun s => S (4 * h + s)) 4).1 = encO (fv h)) {c w : Nat} (hc1 : 1 ≤ c) (hc : c ≤ 99) (hw : w ≤ 99) {x3 : Int32} : it3 (X7_rests_S46 (nI n) S Y (nI c) (nI w) x3) 100000 0 (-9) 0 = X7_rests_J100 x3 (nI (fb_ct (fun x => allN (restB fv c w x n) n) (2 ^ n))) (fsP (fun x => allN (restB fv c w x n) n) (2 ^ n)) := by
  obtain ⟨p1, p2⟩ := pow6 n hn
  refine it3_go (2 ^ n) (fun i => nI (fb_ct (fun x => allN (restB fv c w x n) n) i)) (fun i => fsP (fun x => allN (restB fv c w x n) n) i) (fun i => nI i) _ rfl rfl rfl (fun i hi self => ?_) (fun self => ?_) 100000 (by omega)
  · have hx : i < 64 := by omega
    have hcan : allN (restB fv c w i n) n = true → allN (canB fv i) n = true := fun h => by
      cases hq : allN (canB fv i) n with
      | true => rfl
      | false =>
        obtain ⟨k, h1, h2, -⟩ := allN_f hq
        have := allN_t h k h1
        simp [canB] at h2
        simp [restB, h2.1, h2.2] at this
        omega
    have hz : (nI (fb_ct (fun x => allN (restB fv c w x n) n) i) = 0) ↔ fb_ct (fun x => allN (restB fv c w x n) n) i = 0 := by
      have := fb_ct_le (fun x => allN (restB fv c w x n) n) i
      have g := nI_eq (a := fb_ct (fun x => allN (restB fv c w x n) n) i) (b := 0) (by omega) (by omega)
      rw [nI_0] at g
      exact g
    have hz2 := (fs_iff (p := fun x => allN (restB fv c w x n) n) i (by omega)).symm
    simp only [X7_rests_S46, X7_rests_J94, X7_rests_J89, p1, if_neg (nI_ge (a := i) (b := 2 ^ n) hi (by omega)), canAll_eq hn hf hF hx, areAtRest_eq hn hf hF hx hc1 hc hw, some_bind9, lets_def, Lp1, bool_i, fsP, fb_ct_succ, hz, hz2]
    by_cases hb : allN (restB fv c w i n) n = true
    · simp only [if_pos hb, if_pos (hcan hb)]
      by_cases g : fsP (fun x => allN (restB fv c w x n) n) i = -9
      · simp only [if_pos g]
      · simp only [if_neg g]
    · simp only [if_neg hb, Nat.add_zero, ite_self]
  · simp only [X7_rests_S46, p1, if_pos (nI_le (Nat.le_refl (2 ^ n)) (show 2 ^ n < 2 ^ 31 by omega))]
theorem anyN_tail {p : Nat → Bool} {n : Nat} : ∀ {m : Nat}, n ≤ m → (∀ i, n ≤ i → i < m → p i = false) → anyN p m = anyN p n
  | 0, h, _ => by rw [show n = 0 by omega]
  | m + 1, h, hz => by
    rcases Nat.lt_or_ge m n with q | q
    · rw [show n = m + 1 by omega]
    · rw [anyN, hz m q (by omega), anyN_tail q (fun i h1 h2 => hz i h1 (by omega)), Bool.or_false]
theorem rest_alike {n : Nat} (hn : n ≤ 6) {fv : Nat → Option Nat} (h0 : ∀ h, n ≤ h → fv h = none) {c w x : Nat} (h : Nat) : restB fv c w x 6 h = restB fv c w x n h := by
  have e : (fv h = none ∨ thereW fv x h 6 = true) ↔ (fv h = none ∨ thereW fv x h n = true) := by
    by_cases q : fv h = none
    · simp [q]
    · have : thereW fv x h 6 = thereW fv x h n := anyN_tail hn (fun i h1 h2 => by
        rw [h0 i h1]
        have : ¬ none = fv h := fun e => q e.symm
        simp [this])
      rw [this]
  unfold restB
  simp only [e]
theorem rests_pq {n : Nat} (hn : n ≤ 6) {fv : Nat → Option Nat} (h0 : ∀ h, n ≤ h → fv h = none) {c w : Nat} (hc1 : 1 ≤ c) : (∀ x, x < 2 ^ n → allN (restB fv c w x 6) 6 = allN (restB fv c w x n) n) ∧ (∀ x, 2 ^ n ≤ x → x < 64 → allN (restB fv c w x 6) 6 = false) := by
  refine ⟨fun x hx => ?_, fun x h1 h2 => ?_⟩
  · rw [allN_cg (q := restB fv c w x n) (fun h _ => rest_alike hn h0 h)]
    refine allN_tail hn (fun h h1 h2 => ?_)
    have : x.testBit h = false := Nat.testBit_lt_two_pow (Nat.lt_of_lt_of_le hx (Nat.pow_le_pow_right (by omega) h1))
    simp [restB, this, h0 h h1]
  · obtain ⟨h, g1, g2, g3⟩ := hi6 n hn x h2 h1
    cases hq : allN (restB fv c w x 6) 6 with
    | false => rfl
    | true =>
      have := allN_t hq h g1
      simp [restB, g3, h0 h g2] at this
      omega
theorem restsX_eq {fv : Nat → Option Nat} {wc fav : Nat → Int32} (hf : ∀ h k, fv h = some k → k < 4) (hF : ∀ h, h < 6 → fa_fill (fun h => (hvP (fun s => wc (4 * h + s)) 4).1) fav 6 h = encO (fv h)) {c w : Nat} (hc : c ≤ 99) (hw : w ≤ 99) {x3 : Int32} (k1 : ¬ nI c < 1) (k2 : ¬ (99 : Int32) < nI c) (k4 : ¬ nI w < 1) (k5 : ¬ (99 : Int32) < nI w) (hx : fX6_isHalf x3 = some 1) : fX6_rests wc fav (nI c) (nI w) x3 = X6_rests_J88 x3 (fa_fill (fun h => (hvP (fun s => wc (4 * h + s)) 4).1) fav 6) (nI (fb_ct (fun x => allN (restB fv c w x 6) 6) 64)) (fsP (fun x => allN (restB fv c w x 6) 6) 64) := by
  unfold fX6_rests
  rw [if_neg k1, if_neg k2, if_neg k4, if_neg k5, hx, some_bind9, if_neg one_ne, note_eq, some_bind9]
  exact restsX_loop hf hF hc hw
theorem restsM_eq {n : Nat} (hn : n ≤ 6) {S Y : Nat → Int32} {fv : Nat → Option Nat} (hf : ∀ h k, fv h = some k → k < 4) (hF : ∀ h, h < n → (hvP (fun s => S (4 * h + s)) 4).1 = encO (fv h)) {c w : Nat} (hc1 : 1 ≤ c) (hc : c ≤ 99) (hw : w ≤ 99) {x3 : Int32} (k3 : fX7_in (nI c) 1 99 = some 1) (k6 : fX7_in (nI w) 1 99 = some 1) (hm : fX7_in x3 0 1 = some 1) : fX7_rests (nI n) S Y (nI c) (nI w) x3 = X7_rests_J100 x3 (nI (fb_ct (fun x => allN (restB fv c w x n) n) (2 ^ n))) (fsP (fun x => allN (restB fv c w x n) n) (2 ^ n)) := by
  unfold fX7_rests
  rw [k3, some_bind9, if_neg one_ne, k6, some_bind9, if_neg one_ne, hm, some_bind9, if_neg one_ne]
  exact restsM_loop hn hf hF hc1 hc hw
theorem sim_rests : SimOp_rests Alike9 := by
  unfold SimOp_rests
  intro z_text_length z_text_bytes z_village_houses z_village_law z_village_pride z_village_memory z_village_eats z_village_barred z_now_eaten z_now_year z_now_lot z_now_weights_cells z_now_brought z_now_left z_now_spoons z_now_health z_firstImage_eaten z_firstImage_year z_firstImage_lot z_firstImage_weights_cells z_firstImage_brought z_firstImage_left z_firstImage_spoons z_firstImage_health z_secondImage_eaten z_secondImage_year z_secondImage_lot z_secondImage_weights_cells z_secondImage_brought z_secondImage_left z_secondImage_spoons z_secondImage_health z_keptImages z_asked zb_trace zb_text zb_typed zb_eats zb_barred zb_laws zb_houses zb_s zb_kept zb_isKept z_favourites zb_years x1 x2 x3 hs9
  obtain ⟨n, hn, hT, hV, hN, hK, hA⟩ := hs9
  obtain ⟨rfl, rfl, -, -, -, v6, v7, v8, v9⟩ := id hV
  obtain ⟨a1, a2, a3, a4, a5, a6, a7, a8, a9, b1, b2, b3, b4, b5⟩ := id hN
  rcases rng_cases x1 with ⟨c, hc1, hc, rfl, k1, k2, k3⟩ | ⟨k1, k3⟩
  · rcases rng_cases x2 with ⟨w, hw1, hw, rfl, k4, k5, k6⟩ | ⟨k4, k6⟩
    · rcases half_cases x3 with ⟨hh, hx, hm⟩ | ⟨h0, h1, hx, hm⟩
      · obtain ⟨fv, hfv⟩ : ∃ fv : Nat → Option Nat, ∀ h, fv h = if h < n then fvN (fun s => zb_s (4 * h + s)) else none := ⟨fun h => if h < n then fvN (fun s => zb_s (4 * h + s)) else none, fun _ => rfl⟩
        have hf : ∀ h k, fv h = some k → k < 4 := fun h k e => by
          by_cases q : h < n
          · have e2 : fvN (fun s => zb_s (4 * h + s)) = some k := by rw [← e, hfv h, if_pos q]
            exact (fvN_ok _).2 k e2
          · have e2 : fv h = none := by rw [hfv h, if_neg q]
            rw [e2] at e; cases e
        have h0 : ∀ h, n ≤ h → fv h = none := fun h q => by rw [hfv h, if_neg (by omega)]
        have hFm : ∀ h, h < n → (hvP (fun s => zb_s (4 * h + s)) 4).1 = encO (fv h) := fun h q => by
          have e2 : fv h = fvN (fun s => zb_s (4 * h + s)) := by rw [hfv h, if_pos q]
          rw [e2]; exact (fvN_ok _).1
        have hFx : ∀ h, h < 6 → fa_fill (fun h => (hvP (fun s => z_now_weights_cells (4 * h + s)) 4).1) z_favourites 6 h = encO (fv h) := fun h q => by
          rw [fa_fill_in q]
          rcases Nat.lt_or_ge h n with g | g
          · rw [← hFm h g, hvP_cg (fun s hs => a1 (4 * h + s) (by omega))]
          · rw [h0 h g, hv_0 (fun s hs => (a1 (4 * h + s) (by omega)).trans (a3 _ (by omega) (by omega)))]
            rfl
        obtain ⟨pq1, pq2⟩ := rests_pq hn h0 (c := c) (w := w) hc1
        have p64 := (pow6 n hn).2
        obtain ⟨t1, t2⟩ := fs_tail (p := fun x => allN (restB fv c w x 6) 6) 64 p64 pq2
        have eX2 := restsX_eq (fv := fv) hf hFx hc hw k1 k2 k4 k5 hx
        have eM2 := restsM_eq hn (Y := zb_years) hf hFm hc1 hc hw k3 k6 hm
        have r1 : fsP (fun x => allN (restB fv c w x 6) 6) 64 = fsP (fun x => allN (restB fv c w x n) n) (2 ^ n) := t1.trans (fs_cg _ pq1)
        have r2 : fb_ct (fun x => allN (restB fv c w x 6) 6) 64 = fb_ct (fun x => allN (restB fv c w x n) n) (2 ^ n) := t2.trans (fb_ct_cong pq1)
        rw [r1, r2] at eX2
        generalize fsP (fun x => allN (restB fv c w x n) n) (2 ^ n) = A9 at eX2 eM2
        generalize fb_ct (fun x => allN (restB fv c w x n) n) (2 ^ n) = B9 at eX2 eM2
        by_cases z : x3 = 0
        · simp only [X6_rests_J88, if_pos z] at eX2
          simp only [X7_rests_J100, if_pos z] at eM2
          exact ⟨_, _, eX2, eM2, rfl, al_of n hn hT hV hN hK hA⟩
        · simp only [X6_rests_J88, if_neg z] at eX2
          simp only [X7_rests_J100, if_neg z] at eM2
          exact ⟨_, _, eX2, eM2, rfl, al_of n hn hT hV hN hK hA⟩
      · refine ⟨(-1, z_favourites), (-1, 0), ?_, ?_, rfl, al_of n hn hT hV hN hK hA⟩
        · simp only [fX6_rests, if_neg k1, if_neg k2, if_neg k4, if_neg k5, hx, some_bind9, if_true]
        · simp only [fX7_rests, k3, k6, hm, some_bind9, if_neg one_ne, if_true]
    · refine ⟨(-1, z_favourites), (-1, 0), ?_, ?_, rfl, al_of n hn hT hV hN hK hA⟩
      · rcases k4 with k4 | ⟨k4, k5⟩
        · simp only [fX6_rests, if_neg k1, if_neg k2, if_pos k4]
        · simp only [fX6_rests, if_neg k1, if_neg k2, if_neg k4, if_pos k5]
      · simp only [fX7_rests, k3, k6, some_bind9, if_neg one_ne, if_true]
  · refine ⟨(-1, z_favourites), (-1, 0), ?_, ?_, rfl, al_of n hn hT hV hN hK hA⟩
    · rcases k1 with k1 | ⟨k1, k2⟩
      · simp only [fX6_rests, if_pos k1]
      · simp only [fX6_rests, if_neg k1, if_pos k2]
    · simp only [fX7_rests, k3, some_bind9, if_true]
