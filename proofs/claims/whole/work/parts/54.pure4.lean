theorem it2_go {A0 A1 R : Type} {f : (A0 → A1 → Option R) → A0 → A1 → Option R} (N : Nat) (a0 : Nat → A0) (a1 : Nat → A1) (out : Option R) {x0 : A0} {x1 : A1} (e0 : x0 = a0 0) (e1 : x1 = a1 0) (hs : ∀ i, i < N → ∀ self, f self (a0 i) (a1 i) = self (a0 (i + 1)) (a1 (i + 1))) (ho : ∀ self, f self (a0 N) (a1 N) = out) (n : Nat) (hn : N < n) : it2 f n x0 x1 = out := by
  subst e0; subst e1
  exact it2_run N a0 a1 out hs ho n hn
def allN (p : Nat → Bool) : Nat → Bool
  | 0 => true
  | n + 1 => allN p n && p n
theorem allN_t {p : Nat → Bool} : ∀ {n : Nat}, allN p n = true → ∀ i, i < n → p i = true
  | 0, _, i, hi => absurd hi (by omega)
  | n + 1, h, i, hi => by
    simp only [allN, Bool.and_eq_true] at h
    rcases Nat.lt_or_ge i n with q | q
    · exact allN_t h.1 i q
    · rw [show i = n by omega]; exact h.2
theorem allN_f {p : Nat → Bool} : ∀ {n : Nat}, allN p n = false → ∃ k, k < n ∧ p k = false ∧ ∀ i, i < k → p i = true
  | 0, h => by simp [allN] at h
  | n + 1, h => by
    cases hp : allN p n with
    | false =>
      obtain ⟨k, h1, h2, h3⟩ := allN_f hp
      exact ⟨k, by omega, h2, h3⟩
    | true =>
      simp only [allN, hp, Bool.true_and] at h
      exact ⟨n, by omega, h, allN_t hp⟩
theorem allN_cg {p q : Nat → Bool} : ∀ {n : Nat}, (∀ i, i < n → p i = q i) → allN p n = allN q n
  | 0, _ => rfl
  | n + 1, h => by
    have e := allN_cg (p := p) (q := q) (n := n) (fun i hi => h i (by omega))
    rw [allN, allN, e, h n (by omega)]
theorem allN_tail {p : Nat → Bool} {n : Nat} : ∀ {m : Nat}, n ≤ m → (∀ i, n ≤ i → i < m → p i = true) → allN p m = allN p n
  | 0, h, _ => by rw [show n = 0 by omega]
  | m + 1, h, hz => by
    rcases Nat.lt_or_ge m n with q | q
    · rw [show n = m + 1 by omega]
    · rw [allN, hz m q (by omega), allN_tail q (fun i h1 h2 => hz i h1 (by omega)), Bool.and_true]
theorem it1_all {R : Type} {f : (Int32 → Option R) → Int32 → Option R} (N : Nat) (p : Nat → Bool) (good bad : Option R) (hs : ∀ i, i < N → ∀ self, f self (nI i) = if p i = true then self (nI (i + 1)) else bad) (ho : ∀ self, f self (nI N) = good) (n : Nat) (hn : N < n) : it1 f n (nI 0) = if allN p N = true then good else bad := by
  cases hp : allN p N with
  | true =>
    rw [if_pos rfl]
    exact it1_run N (fun i => nI i) good (fun i hi self => by rw [hs i hi self, if_pos (allN_t hp i hi)]) ho n hn
  | false =>
    obtain ⟨k, h1, h2, h3⟩ := allN_f hp
    rw [if_neg (by decide)]
    exact it1_run k (fun i => nI i) bad (fun i hi self => by rw [hs i (by omega) self, if_pos (h3 i hi)]) (fun self => by rw [hs k h1 self, h2]; rfl) n (by omega)
def orI (f : Nat → Int32) : Nat → Int32
  | 0 => 0
  | n + 1 => orI f n ||| f n
theorem orI_congr {f g : Nat → Int32} : ∀ {n : Nat}, (∀ i, i < n → f i = g i) → orI f n = orI g n
  | 0, _ => rfl
  | n + 1, h => by rw [orI, orI, orI_congr (fun i hi => h i (by omega)), h n (by omega)]
theorem now_cg {n : Nat} {ea ye lo : Int32} {wc br le sp he S wc' br' le' sp' he' S' : Nat → Int32} (H : NowOk n ea ye lo wc br le sp he S) (hS : ∀ k, k < 67 → S' k = S k) (h1 : ∀ i, i < 24 → wc' i = wc i) (h2 : ∀ i, i < 6 → br' i = br i) (h3 : ∀ i, i < 4 → le' i = le i) (h4 : ∀ i, i < 24 → sp' i = sp i) (h5 : ∀ i, i < 6 → he' i = he i) : NowOk n ea ye lo wc' br' le' sp' he' S' := by
  obtain ⟨a1, a2, a3, a4, a5, a6, a7, a8, a9, b1, b2, b3, b4, b5⟩ := H
  refine ⟨fun i hi => ?_, fun i hi => ?_, fun i g1 hi => ?_, fun i hi => ?_, fun i hi => ?_, fun i g1 hi => ?_, fun i hi => ?_, fun i hi => ?_, fun i g1 hi => ?_, fun i hi => ?_, fun i g1 hi => ?_, ?_, ?_, ?_⟩
  · rw [hS _ (by omega), h1 i hi]; exact a1 i hi
  · rw [hS _ (by omega)]; exact a2 i hi
  · rw [hS _ (by omega)]; exact a3 i g1 hi
  · rw [hS _ (by omega), h2 i hi]; exact a4 i hi
  · rw [hS _ (by omega)]; exact a5 i hi
  · rw [hS _ (by omega)]; exact a6 i g1 hi
  · rw [hS _ (by omega), h3 i hi]; exact a7 i hi
  · rw [hS _ (by omega), h4 i hi]; exact a8 i hi
  · rw [hS _ (by omega)]; exact a9 i g1 hi
  · rw [hS _ (by omega), h5 i hi]; exact b1 i hi
  · rw [hS _ (by omega)]; exact b2 i g1 hi
  · rw [hS _ (by omega)]; exact b3
  · rw [hS _ (by omega)]; exact b4
  · rw [hS _ (by omega)]; exact b5
theorem now_ill {n h : Nat} (hh : h < n) (hn : n ≤ 6) {t t' : Int32} (ht : (t = 2 ∧ t' = 1) ∨ (t = 1 ∧ t' = 2)) {ea ye lo : Int32} {wc br le sp he S : Nat → Int32} (H : NowOk n ea ye lo wc br le sp he S) : NowOk n ea ye lo wc br le sp (upd he h t) (upd S (59 + h) t') := by
  obtain ⟨a1, a2, a3, a4, a5, a6, a7, a8, a9, b1, b2, b3, b4, b5⟩ := H
  refine ⟨fun i hi => ?_, fun i hi => ?_, fun i g1 hi => ?_, fun i hi => ?_, fun i hi => ?_, fun i g1 hi => ?_, fun i hi => ?_, fun i hi => ?_, fun i g1 hi => ?_, fun i hi => ?_, fun i g1 hi => ?_, ?_, ?_, ?_⟩
  · rw [pk_un (by omega)]; exact a1 i hi
  · rw [pk_un (by omega)]; exact a2 i hi
  · rw [pk_un (by omega)]; exact a3 i g1 hi
  · rw [pk_un (by omega)]; exact a4 i hi
  · rw [pk_un (by omega)]; exact a5 i hi
  · rw [pk_un (by omega)]; exact a6 i g1 hi
  · rw [pk_un (by omega)]; exact a7 i hi
  · rw [pk_un (by omega)]; exact a8 i hi
  · rw [pk_un (by omega)]; exact a9 i g1 hi
  · by_cases e : i = h
    · subst e
      rw [pk_us, pk_us]
      exact Or.inr ht
    · rw [pk_un e, pk_un (by omega)]; exact b1 i hi
  · rw [pk_un (by omega)]; exact b2 i g1 hi
  · rw [pk_un (by omega)]; exact b3
  · rw [pk_un (by omega)]; exact b4
  · rw [pk_un (by omega)]; exact b5
theorem sim_ill : SimOp_ill Alike9 := by
  unfold SimOp_ill
  intro z_text_length z_text_bytes z_village_houses z_village_law z_village_pride z_village_memory z_village_eats z_village_barred z_now_eaten z_now_year z_now_lot z_now_weights_cells z_now_brought z_now_left z_now_spoons z_now_health z_firstImage_eaten z_firstImage_year z_firstImage_lot z_firstImage_weights_cells z_firstImage_brought z_firstImage_left z_firstImage_spoons z_firstImage_health z_secondImage_eaten z_secondImage_year z_secondImage_lot z_secondImage_weights_cells z_secondImage_brought z_secondImage_left z_secondImage_spoons z_secondImage_health z_keptImages z_asked zb_trace zb_text zb_typed zb_eats zb_barred zb_laws zb_houses zb_s zb_kept zb_isKept x1 x2 hs9
  obtain ⟨n, hn, hT, hV, hN, hK, hA⟩ := hs9
  obtain ⟨rfl, rfl, -, -, -, v6, v7, v8, v9⟩ := id hV
  obtain ⟨a1, a2, a3, a4, a5, a6, a7, a8, a9, b1, b2, ⟨rfl, b3⟩, b4, b5⟩ := id hN
  rcases house_cases hn x1 with ⟨h, hh, rfl, hx, hm⟩ | ⟨hx, hm⟩
  · have ok : okx (nI h) 6 := okx_nI (by omega) (by omega)
    have ok2 : okx (nI (59 + h)) 67 := okx_nI (by omega) (by omega)
    have hc : (nI h).toNatClampNeg = h := nI_clamp (by omega)
    have hc2 : (nI (59 + h)).toNatClampNeg = 59 + h := nI_clamp (by omega)
    have hin0 : fX7_in 0 0 1 = some 1 := by decide
    have hin1 : fX7_in 1 0 1 = some 1 := by decide
    by_cases he : zb_s 58 = 0
    · by_cases h0 : x2 = 0
      · subst h0
        refine ⟨(-2, z_now_health), (-2, 0, zb_s), ?_, ?_, rfl, al_of n hn hT hV hN hK hA⟩
        · simp only [fX6_ill, X6_ill_J19, hx, some_bind9, if_neg one_ne, if_pos he, if_pos]
        · simp only [fX7_ill, hm, hin0, some_bind9, if_neg one_ne, cl58, if_pos he]
      by_cases h1 : x2 = 1
      · subst h1
        refine ⟨(-2, z_now_health), (-2, 0, zb_s), ?_, ?_, rfl, al_of n hn hT hV hN hK hA⟩
        · simp only [fX6_ill, X6_ill_J19, hx, some_bind9, if_neg one_ne, if_pos he, if_pos]
        · simp only [fX7_ill, hm, hin1, some_bind9, if_neg one_ne, cl58, if_pos he]
      rcases half_cases x2 with ⟨q, -, -⟩ | ⟨-, -, -, hi⟩
      · exact absurd q (by simp [h0, h1])
      refine ⟨(-1, z_now_health), (-1, 0, zb_s), ?_, ?_, rfl, al_of n hn hT hV hN hK hA⟩
      · simp only [fX6_ill, hx, some_bind9, if_neg one_ne, if_neg h0, if_neg h1]
      · simp only [fX7_ill, hm, hi, some_bind9, if_neg one_ne, if_true]
    · by_cases h0 : x2 = 0
      · subst h0
        have eq : (z_now_health h = 1) ↔ (zb_s (59 + h) = 2) := by
          rcases b1 h (by omega) with ⟨p, q⟩ | ⟨p, q⟩ | ⟨p, q⟩ <;> rw [p, q] <;> decide
        by_cases hq : z_now_health h = 1
        · refine ⟨(0, upd z_now_health h 1), (0, 0, upd zb_s (59 + h) 2), ?_, ?_, rfl, al_of n hn hT hV (now_ill hh hn (Or.inr ⟨rfl, rfl⟩) hN) hK hA⟩
          · simp only [fX6_ill, X6_ill_J19, X6_ill_J42, X6_ill_J61, hx, some_bind9, if_neg one_ne, if_neg he, if_pos, if_neg (show ¬ (0 : Int32) = 1 by decide), gd_t ok, hc, if_pos hq, lets_def]
          · simp only [fX7_ill, X7_ill_J47, X7_ill_J66, hm, hin0, some_bind9, if_neg one_ne, cl58, if_neg he, if_neg (show ¬ (0 : Int32) = 1 by decide), L59, gd_t ok2, hc2, if_pos (eq.mp hq), lets_def]
        · refine ⟨(1, upd z_now_health h 1), (1, 0, upd zb_s (59 + h) 2), ?_, ?_, rfl, al_of n hn hT hV (now_ill hh hn (Or.inr ⟨rfl, rfl⟩) hN) hK hA⟩
          · simp only [fX6_ill, X6_ill_J19, X6_ill_J42, X6_ill_J61, hx, some_bind9, if_neg one_ne, if_neg he, if_pos, if_neg (show ¬ (0 : Int32) = 1 by decide), gd_t ok, hc, if_neg hq, lets_def]
          · simp only [fX7_ill, X7_ill_J47, X7_ill_J66, hm, hin0, some_bind9, if_neg one_ne, cl58, if_neg he, if_neg (show ¬ (0 : Int32) = 1 by decide), L59, gd_t ok2, hc2, if_neg (fun e => hq (eq.mpr e)), lets_def]
      by_cases h1 : x2 = 1
      · subst h1
        have eq : (z_now_health h = 2) ↔ (zb_s (59 + h) = 1) := by
          rcases b1 h (by omega) with ⟨p, q⟩ | ⟨p, q⟩ | ⟨p, q⟩ <;> rw [p, q] <;> decide
        by_cases hq : z_now_health h = 2
        · refine ⟨(0, upd z_now_health h 2), (0, 0, upd zb_s (59 + h) 1), ?_, ?_, rfl, al_of n hn hT hV (now_ill hh hn (Or.inl ⟨rfl, rfl⟩) hN) hK hA⟩
          · simp only [fX6_ill, X6_ill_J19, X6_ill_J42, X6_ill_J61, hx, some_bind9, if_neg one_ne, if_neg he, if_pos, gd_t ok, hc, if_pos hq, lets_def]
          · simp only [fX7_ill, X7_ill_J47, X7_ill_J66, hm, hin1, some_bind9, if_neg one_ne, cl58, if_neg he, if_pos, L59, gd_t ok2, hc2, if_pos (eq.mp hq), lets_def]
        · refine ⟨(1, upd z_now_health h 2), (1, 0, upd zb_s (59 + h) 1), ?_, ?_, rfl, al_of n hn hT hV (now_ill hh hn (Or.inl ⟨rfl, rfl⟩) hN) hK hA⟩
          · simp only [fX6_ill, X6_ill_J19, X6_ill_J42, X6_ill_J61, hx, some_bind9, if_neg one_ne, if_neg he, if_pos, gd_t ok, hc, if_neg hq, lets_def]
          · simp only [fX7_ill, X7_ill_J47, X7_ill_J66, hm, hin1, some_bind9, if_neg one_ne, cl58, if_neg he, if_pos, L59, gd_t ok2, hc2, if_neg (fun e => hq (eq.mpr e)), lets_def]
      rcases half_cases x2 with ⟨q, -, -⟩ | ⟨-, -, -, hi⟩
      · exact absurd q (by simp [h0, h1])
      refine ⟨(-1, z_now_health), (-1, 0, zb_s), ?_, ?_, rfl, al_of n hn hT hV hN hK hA⟩
      · simp only [fX6_ill, hx, some_bind9, if_neg one_ne, if_neg h0, if_neg h1]
      · simp only [fX7_ill, hm, hi, some_bind9, if_neg one_ne, if_true]
  · refine ⟨(-1, z_now_health), (-1, 0, zb_s), ?_, ?_, rfl, al_of n hn hT hV hN hK hA⟩
    · simp only [fX6_ill, hx, some_bind9, if_true]
    · simp only [fX7_ill, hm, some_bind9, if_true]
/-- a house speaks against a sort, or doesn't -/
def goodX (sp he : Nat → Int32) (s h : Nat) : Bool := if he h = 2 then !decide (sp (4 * h + s) ≤ 0) else if he h = 1 then decide (sp (4 * h + s) ≤ 0) else true
theorem isSuspect_eq {sp he : Nat → Int32} {s : Nat} (hs : s < 4) : fX6_isSuspect sp he (nI s) = some (if allN (goodX sp he s) 6 = true then 1 else 0) := by
  have e := it1_all (f := X6_isSuspect_S2 sp he (nI s)) 6 (goodX sp he s) (some 1) (some 0) (fun i hi self => ?_) (fun self => ?_) 100000 (by decide)
  · unfold fX6_isSuspect
    refine e.trans ?_
    split <;> rfl
  · have ok : okx (nI i) 6 := okx_nI hi (by omega)
    simp only [X6_isSuspect_S2, X6_isSuspect_J25, X6_isSuspect_J43, X6_isSuspect_J62, if_neg (show ¬ (6 : Int32) ≤ nI i from nI_ge (a := i) (b := 6) hi (by omega)), spoonsOf_eq hi hs, some_bind9, gd_t ok, nI_clamp (show i < 2 ^ 31 by omega), lets_def, Lp1, goodX]
    by_cases hc : sp (4 * i + s) ≤ 0
    · by_cases h2 : he i = 2
      · simp [hc, h2]
      · by_cases h1 : he i = 1
        · simp [hc, h1]
        · simp [hc, h1, h2]
    · by_cases h2 : he i = 2
      · simp [hc, h2]
      · by_cases h1 : he i = 1
        · simp [hc, h1]
        · simp [hc, h1, h2]
  · simp only [X6_isSuspect_S2, if_pos (show (6 : Int32) ≤ nI 6 by decide)]
theorem suspects_eq {sp he : Nat → Int32} : fX6_suspects sp he = some (orI (fun s => if allN (goodX sp he s) 6 = true then (1 : Int32) <<< (nI s &&& 31) else 0) 4) := by
  unfold fX6_suspects
  refine it2_run 4 (fun i => orI (fun s => if allN (goodX sp he s) 6 = true then (1 : Int32) <<< (nI s &&& 31) else 0) i) (fun i => nI i) _ (fun i hi self => ?_) (fun self => ?_) 100000 (by decide)
  · simp only [X6_suspects_S4, X6_suspects_J23, if_neg (show ¬ (4 : Int32) ≤ nI i from nI_ge (a := i) (b := 4) hi (by omega)), isSuspect_eq hi, some_bind9, lets_def, Lp1, orI]
    by_cases hc : allN (goodX sp he i) 6 = true
    · simp only [if_pos hc, if_neg one_ne]
    · simp only [if_neg hc, if_pos, Int32.or_zero]
  · simp only [X6_suspects_S4, if_pos (show (4 : Int32) ≤ nI 4 by decide)]
def goodM (S : Nat → Int32) (s h : Nat) : Bool := if S (59 + h) = 0 then true else if S (59 + h) = 1 then !decide (S (30 + (4 * h + s)) ≤ 0) else decide (S (30 + (4 * h + s)) ≤ 0)
theorem suspectsM_eq {n : Nat} (hn : n ≤ 6) {S : Nat → Int32} : fX7_suspects (nI n) S = some (orI (fun s => if allN (goodM S s) n = true then (1 : Int32) <<< (nI s &&& 31) else 0) 4, 0) := by
  unfold fX7_suspects
  refine it2_run 4 (fun i => orI (fun s => if allN (goodM S s) n = true then (1 : Int32) <<< (nI s &&& 31) else 0) i) (fun i => nI i) _ (fun i hi self => ?_) (fun self => ?_) 100000 (by decide)
  · simp only [X7_suspects_S9, if_neg (show ¬ (4 : Int32) ≤ nI i from nI_ge (a := i) (b := 4) hi (by omega))]
    refine it2_run n (fun h => if allN (goodM S i) h = true then (1 : Int32) else 0) (fun h => nI h) _ (fun h hh self2 => ?_) (fun self2 => ?_) 100000 (by omega)
    · have ok : okx (nI (59 + h)) 67 := okx_nI (by omega) (by omega)
      have ok2 : okx (nI (30 + (4 * h + i))) 67 := okx_nI (by omega) (by omega)
      have e9 : 30 + 4 * h + i = 30 + (4 * h + i) := by omega
      have st : (if allN (goodM S i) (h + 1) = true then (1 : Int32) else 0) = (if allN (goodM S i) h = true then (if S (59 + h) = 0 then 1 else if S (59 + h) = 1 then (if S (30 + (4 * h + i)) ≤ 0 then 0 else 1) else (if S (30 + (4 * h + i)) ≤ 0 then 1 else 0)) else 0) := by
        have e1 : allN (goodM S i) (h + 1) = (allN (goodM S i) h && goodM S i h) := rfl
        have e2 : goodM S i h = if S (59 + h) = 0 then true else if S (59 + h) = 1 then !decide (S (30 + (4 * h + i)) ≤ 0) else decide (S (30 + (4 * h + i)) ≤ 0) := rfl
        rw [e1, e2]
        by_cases ha : allN (goodM S i) h = true
        · rw [if_pos ha, ha]
          by_cases hc : S (30 + (4 * h + i)) ≤ 0 <;> by_cases h0 : S (59 + h) = 0 <;> by_cases h1 : S (59 + h) = 1 <;> simp [hc, h0, h1]
        · rw [if_neg ha]
          simp only [Bool.not_eq_true] at ha
          rw [ha]
          rfl
      show X7_suspects_S19 _ _ _ _ _ _ _ _ = self2 (if allN (goodM S i) (h + 1) = true then (1 : Int32) else 0) _
      rw [st]
      simp only [X7_suspects_S19, X7_suspects_J50, X7_suspects_J90, X7_suspects_J93, X7_suspects_J97, X7_suspects_J98, if_neg (nI_ge (a := h) (b := n) hh (by omega)), L4m, L30, L59, nI_add, e9, gd_t ok, gd_t ok2, nI_clamp (show 59 + h < 2 ^ 31 by omega), nI_clamp (show 30 + (4 * h + i) < 2 ^ 31 by omega), lets_def, Lp1]
      by_cases ha : allN (goodM S i) h = true <;> by_cases hc : S (30 + (4 * h + i)) ≤ 0 <;> by_cases h0 : S (59 + h) = 0 <;> by_cases h1 : S (59 + h) = 1 <;> simp [ha, hc, h0, h1]
    · simp only [X7_suspects_S19, X7_suspects_J105, X7_suspects_J117, if_pos (nI_le (Nat.le_refl n) (show n < 2 ^ 31 by omega)), lets_def, Lp1, orI]
      by_cases hc : allN (goodM S i) n = true
      · simp only [if_pos hc, if_neg one_ne]
      · simp only [if_neg hc, if_pos]
  · simp only [X7_suspects_S9, if_pos (show (4 : Int32) ≤ nI 4 by decide)]
theorem sim_suspects : SimOp_suspects Alike9 := by
  unfold SimOp_suspects
  intro z_text_length z_text_bytes z_village_houses z_village_law z_village_pride z_village_memory z_village_eats z_village_barred z_now_eaten z_now_year z_now_lot z_now_weights_cells z_now_brought z_now_left z_now_spoons z_now_health z_firstImage_eaten z_firstImage_year z_firstImage_lot z_firstImage_weights_cells z_firstImage_brought z_firstImage_left z_firstImage_spoons z_firstImage_health z_secondImage_eaten z_secondImage_year z_secondImage_lot z_secondImage_weights_cells z_secondImage_brought z_secondImage_left z_secondImage_spoons z_secondImage_health z_keptImages z_asked zb_trace zb_text zb_typed zb_eats zb_barred zb_laws zb_houses zb_s zb_kept zb_isKept hs9
  obtain ⟨n, hn, hT, hV, hN, hK, hA⟩ := hs9
  obtain ⟨rfl, rfl, -, -, -, v6, v7, v8, v9⟩ := id hV
  obtain ⟨a1, a2, a3, a4, a5, a6, a7, a8, a9, b1, b2, b3, b4, b5⟩ := id hN
  refine ⟨_, (_, 0), suspects_eq, suspectsM_eq hn, ?_, al_of n hn hT hV hN hK hA⟩
  refine orI_congr (fun s hs => ?_)
  have e : allN (goodX z_now_spoons z_now_health s) 6 = allN (goodM zb_s s) n := by
    rw [allN_cg (q := goodM zb_s s) (fun h hh => ?_)]
    · exact allN_tail hn (fun h h1 h6 => by simp only [goodM, b2 h h1 h6, if_pos])
    · simp only [goodX, goodM, a8 (4 * h + s) (by omega)]
      rcases b1 h hh with ⟨p, q⟩ | ⟨p, q⟩ | ⟨p, q⟩ <;> rw [p, q] <;> simp
  rw [e]
