def mn7 (i : Nat) : Nat := if i < 7 then i else 7
theorem wordM_eq {t q e : Nat} {b : Nat → Nat} {tx tb : Nat → Int32} (h : T9 t b tx tb) (hq : q < e) (he : e ≤ t) (hL : ∀ i, q ≤ i → i < e → isL9 (b i) = true) (hE : e < t → ¬ isL9 (b e) = true) : it2 (X7_advances_S68 (nI t) tx (nI q)) 100000 0 (nI q) = X7_advances_J130 (nI q) (lN (wN b q (mn7 (e - q)))) (nI e) := by
  have ht := h.1
  refine it2_go (e - q) (fun i => lN (wN b q (mn7 i))) (fun i => nI (q + i)) _ rfl rfl (fun i hi self => ?_) (fun self => ?_) 100000 (by omega)
  · have hb := h.2 (q + i) (by omega)
    have hl := hL (q + i) (by omega) (by omega)
    have es : nI (q + i) - nI q = nI i := by rw [pk_sub (by omega), show q + i - q = i by omega]
    simp only [X7_advances_S68, byteAt_in h (show q + i < t by omega), some_bind9, (by_let _ hb.1).2.2.1, bool_i, if_pos hl, es]
    have el : isL9 (b (q + i)) = true := hl
    simp only [isL9, decide_eq_true_eq] at el
    rcases Nat.lt_or_ge i 7 with g | g
    · have e1 : mn7 i = i := if_pos g
      have e2 : wN b q (mn7 (i + 1)) = 256 * wN b q i + b (q + i) := by
        have : mn7 (i + 1) = i + 1 := by unfold mn7; split <;> omega
        rw [this, wN]
      have n0 : ¬ nI (b (q + i)) = 0 := nI_ne0 (by omega) (by omega)
      have ea : fX7_add (lN (wN b q i)) (nI (b (q + i))) = some (lN (256 * wN b q i + b (q + i))) := by
        unfold fX7_add
        rw [if_neg n0, nI_l (by omega), show (256 : Int64) = lN 256 from rfl, lN_mul, lN_add]
      simp only [if_neg (show ¬ (7 : Int32) ≤ nI i from nI_ge (a := i) (b := 7) g (by omega)), e1, ea, some_bind9, X7_advances_J116, lets_def, Lp1, e2]
      rfl
    · have e1 : mn7 i = 7 := if_neg (by omega)
      have e2 : mn7 (i + 1) = 7 := if_neg (by omega)
      simp only [if_pos (show (7 : Int32) ≤ nI i from nI_le (a := 7) (b := i) g (by omega)), X7_advances_J116, lets_def, Lp1, e1, e2]
      rfl
  · have ee : q + (e - q) = e := by omega
    rcases Nat.lt_or_ge e t with g | g
    · have hb := h.2 e g
      simp only [X7_advances_S68, ee, byteAt_in h g, some_bind9, (by_let _ hb.1).2.2.1, bool_i, if_neg (hE g), if_true]
    · have e2 : e = t := by omega
      rw [e2] at ee ⊢
      simp only [X7_advances_S68, ee, byteAt_end ht, some_bind9, in_m1.1, if_true]
/-! numbers -/
def cD9 (b : Nat → Nat) (q : Nat) : Nat → Nat
  | 0 => 0
  | i + 1 => if cD9 b q i * 10 + (b (q + i) - 48) < 100 then cD9 b q i * 10 + (b (q + i) - 48) else 100
def mD9 (b : Nat → Nat) (q : Nat) : Nat → Nat
  | 0 => 0
  | i + 1 => if mD9 b q i ≤ 99 then 10 * mD9 b q i + (b (q + i) - 48) else mD9 b q i
theorem dig_rel {b : Nat → Nat} {q : Nat} : ∀ i, (∀ k, k < i → isD9 (b (q + k)) = true) → (cD9 b q i = mD9 b q i ∧ mD9 b q i ≤ 99) ∨ (cD9 b q i = 100 ∧ 99 < mD9 b q i ∧ mD9 b q i ≤ 999)
  | 0, _ => Or.inl ⟨rfl, by show 0 ≤ 99; omega⟩
  | i + 1, h => by
    have g := h i (by omega)
    simp only [isD9, decide_eq_true_eq] at g
    rw [cD9, mD9]
    rcases dig_rel i (fun k hk => h k (by omega)) with ⟨h1, h2⟩ | ⟨h1, h2, h3⟩
    · rw [if_pos h2, h1]
      split
      · left; omega
      · right; omega
    · rw [if_neg (show ¬ cD9 b q i * 10 + (b (q + i) - 48) < 100 by omega), if_neg (show ¬ mD9 b q i ≤ 99 by omega)]
      right; omega
theorem numX_eq {t q e : Nat} {b : Nat → Nat} {tx tb : Nat → Int32} (h : T9 t b tx tb) (hq : q < e) (he : e ≤ t) (hD : ∀ i, q ≤ i → i < e → isD9 (b i) = true) (hE : e < t → ¬ isD9 (b e) = true) : fX2_nextNumber (nI t) (nI q) (nI q) tb = X2_nextNumber_J73 (nI q) tb (nI e) (nI (cD9 b q (e - q))) := by
  have ht := h.1
  unfold fX2_nextNumber
  refine it2_go (e - q) (fun i => nI (q + i)) (fun i => nI (cD9 b q i)) _ rfl rfl (fun i hi self => ?_) (fun self => ?_) 100000 (by omega)
  · have ok : okx (nI (q + i)) 300 := okx_nI (by omega) (by omega)
    have hb := h.2 (q + i) (by omega)
    have hd := hD (q + i) (by omega) (by omega)
    have eb : tb (q + i) = nI (b (q + i)) := hb.2.2.trans (by_pl _ hb.1 (Or.inr hd))
    have el : isD9 (b (q + i)) = true := hd
    simp only [isD9, decide_eq_true_eq] at el
    have lim : cD9 b q i ≤ 100 := by
      rcases dig_rel (b := b) (q := q) i (fun k hk => hD _ (by omega) (by omega)) with ⟨h1, h2⟩ | ⟨h1, h2, h3⟩ <;> omega
    have e1 : nI (cD9 b q i) * (10 : Int32) = nI (cD9 b q i * 10) := pk_mul (cD9 b q i) 10
    have e2 : nI (cD9 b q i * 10 + b (q + i)) - (48 : Int32) = nI (cD9 b q i * 10 + (b (q + i) - 48)) := by
      have := pk_sub (a := cD9 b q i * 10 + b (q + i)) (b := 48) (by omega)
      rw [show cD9 b q i * 10 + b (q + i) - 48 = cD9 b q i * 10 + (b (q + i) - 48) by omega] at this
      exact this
    have edig : fX2_isDigit (nI (b (q + i))) = some (if isD9 (b (q + i)) = true then 1 else 0) := by
      rw [← by_pl _ hb.1 (Or.inr hd)]; exact (by_let _ hb.1).2.1
    simp only [X2_nextNumber_S5, if_neg (nI_ge (a := q + i) (b := t) (by omega) (by omega)), gd_t ok, nI_clamp (show q + i < 2 ^ 31 by omega), eb, edig, some_bind9, bool_i, if_pos hd, e1, nI_add, e2, lets_def, Lp1]
    have st : (if nI (cD9 b q i * 10 + (b (q + i) - 48)) < (100 : Int32) then nI (cD9 b q i * 10 + (b (q + i) - 48)) else 100) = nI (cD9 b q (i + 1)) := by
      have lt : (nI (cD9 b q i * 10 + (b (q + i) - 48)) < (100 : Int32)) ↔ cD9 b q i * 10 + (b (q + i) - 48) < 100 := nI_ltI (a := cD9 b q i * 10 + (b (q + i) - 48)) (b := 100) (by omega) (by omega)
      rw [cD9]
      by_cases g : cD9 b q i * 10 + (b (q + i) - 48) < 100
      · rw [if_pos (lt.mpr g), if_pos g]
      · rw [if_neg (fun z => g (lt.mp z)), if_neg g]; rfl
    rw [st]
    rfl
  · have ee : q + (e - q) = e := by omega
    rcases Nat.lt_or_ge e t with g | g
    · have ok : okx (nI e) 300 := okx_nI (by omega) (by omega)
      have hb := h.2 e g
      simp only [X2_nextNumber_S5, ee, if_neg (nI_ge (a := e) (b := t) g (by omega)), gd_t ok, nI_clamp (show e < 2 ^ 31 by omega), hb.2.2, (by_let _ hb.1).2.1, some_bind9, bool_i, if_neg (hE g), if_true]
    · have e2 : e = t := by omega
      rw [e2] at ee ⊢
      simp only [X2_nextNumber_S5, ee, if_pos (nI_le (Nat.le_refl t) (show t < 2 ^ 31 by omega))]
theorem numM_eq {t q e : Nat} {b : Nat → Nat} {tx tb : Nat → Int32} (h : T9 t b tx tb) (hq : q < e) (he : e ≤ t) (hD : ∀ i, q ≤ i → i < e → isD9 (b i) = true) (hE : e < t → ¬ isD9 (b e) = true) {r : Int32} : it2 (X7_advances_S175 (nI t) tx (nI q) r) 100000 (nI q) 0 = X7_advances_J245 (nI q) r (nI e) (nI (mD9 b q (e - q))) := by
  have ht := h.1
  refine it2_go (e - q) (fun i => nI (q + i)) (fun i => nI (mD9 b q i)) _ rfl rfl (fun i hi self => ?_) (fun self => ?_) 100000 (by omega)
  · have hb := h.2 (q + i) (by omega)
    have hd := hD (q + i) (by omega) (by omega)
    have el : isD9 (b (q + i)) = true := hd
    simp only [isD9, decide_eq_true_eq] at el
    have lim : mD9 b q i ≤ 999 := by
      rcases dig_rel (b := b) (q := q) i (fun k hk => hD _ (by omega) (by omega)) with ⟨h1, h2⟩ | ⟨h1, h2, h3⟩ <;> omega
    have e1 : (10 : Int32) * nI (mD9 b q i) = nI (10 * mD9 b q i) := pk_mul 10 (mD9 b q i)
    have e2 : nI (10 * mD9 b q i + b (q + i)) - (48 : Int32) = nI (10 * mD9 b q i + (b (q + i) - 48)) := by
      have := pk_sub (a := 10 * mD9 b q i + b (q + i)) (b := 48) (by omega)
      rw [show 10 * mD9 b q i + b (q + i) - 48 = 10 * mD9 b q i + (b (q + i) - 48) by omega] at this
      exact this
    have le : (nI (mD9 b q i) ≤ (99 : Int32)) ↔ mD9 b q i ≤ 99 := nI_leI (a := mD9 b q i) (b := 99) (by omega) (by omega)
    simp only [X7_advances_S175, X7_advances_J229, byteAt_in h (show q + i < t by omega), some_bind9, (by_let _ hb.1).2.2.2, bool_i, if_pos hd, e1, nI_add, e2, lets_def, Lp1, le]
    rw [mD9]
    by_cases g : mD9 b q i ≤ 99
    · rw [if_pos g, if_pos g]; rfl
    · rw [if_neg g, if_neg g]; rfl
  · have ee : q + (e - q) = e := by omega
    rcases Nat.lt_or_ge e t with g | g
    · have hb := h.2 e g
      simp only [X7_advances_S175, ee, byteAt_in h g, some_bind9, (by_let _ hb.1).2.2.2, bool_i, if_neg (hE g), if_true]
    · have e2 : e = t := by omega
      rw [e2] at ee ⊢
      simp only [X7_advances_S175, ee, byteAt_end ht, some_bind9, in_m1.2, if_true]
def tkM (k : Nat) : Int32 := if k = 0 then 0 else if k = 1 then 4 else if k = 2 then 2 else if k = 3 then 3 else 1
def Tok9 (t : Nat) (tx tb : Nat → Int32) (p at9 pl k v : Nat) : Prop :=
  p ≤ pl ∧ pl ≤ at9 ∧ at9 ≤ t ∧ (k ≠ 0 → pl < at9) ∧ (k = 0 → pl = t ∧ at9 = t) ∧ k ≤ 8 ∧ (k = 2 → v ≤ 99) ∧
  (∀ num, ∃ num', fX2_next (nI t) (nI p) num tb = some (nI at9, nI pl, nI k, num') ∧ (k = 2 → num' = nI v)) ∧
  (∀ val, ∃ val', fX7_advances (nI t) (nI p) val tx = some (nI at9, tkM k, nI pl, val') ∧ (k = 2 → val' = nI v) ∧ (4 ≤ k → val' = nI (k - 4)))
theorem tok_ex {t p : Nat} {b : Nat → Nat} {tx tb : Nat → Int32} (h : T9 t b tx tb) (hp : p ≤ t) : ∃ at9 pl k v, Tok9 t tx tb p at9 pl k v := by
  have ht := h.1
  obtain ⟨q, q1, q2, q3, q4⟩ := run_ex (P := fun i => b i = 32) hp
  have eX : ∀ num, fX2_next (nI t) (nI p) num tb = X2_next_J38 (nI t) num tb (nI q) := fun num => by
    unfold fX2_next
    refine it1_go (q - p) (fun i => nI (p + i)) _ rfl (fun i hi self => ?_) (fun self => ?_) 100000 (by omega)
    · have ok : okx (nI (p + i)) 300 := okx_nI (by omega) (by omega)
      have hb := h.2 (p + i) (by omega)
      have e32 : tb (p + i) = 32 := hb.2.2.trans ((by_eq _ hb.1).1.mpr (q3 _ (by omega) (by omega)))
      simp only [X2_next_S0, if_neg (nI_ge (a := p + i) (b := t) (by omega) (by omega)), gd_t ok, nI_clamp (show p + i < 2 ^ 31 by omega), if_pos e32, lets_def, Lp1]
      rfl
    · have ee : p + (q - p) = q := by omega
      rcases Nat.lt_or_ge q t with g | g
      · have ok : okx (nI q) 300 := okx_nI (by omega) (by omega)
        have hb := h.2 q g
        have n32 : ¬ tb q = 32 := fun z => q4 g ((by_eq _ hb.1).1.mp (hb.2.2.symm.trans z))
        simp only [X2_next_S0, ee, if_neg (nI_ge (a := q) (b := t) g (by omega)), gd_t ok, nI_clamp (show q < 2 ^ 31 by omega), if_neg n32]
      · have e2 : q = t := by omega
        rw [e2] at ee ⊢
        simp only [X2_next_S0, ee, if_pos (nI_le (Nat.le_refl t) (show t < 2 ^ 31 by omega))]
  have eM : ∀ val, fX7_advances (nI t) (nI p) val tx = X7_advances_J26 (nI t) val tx (nI q) := fun val => by
    unfold fX7_advances
    refine it1_go (q - p) (fun i => nI (p + i)) _ rfl (fun i hi self => ?_) (fun self => ?_) 100000 (by omega)
    · have hb := h.2 (p + i) (by omega)
      have e32 : nI (b (p + i)) = 32 := by rw [q3 (p + i) (by omega) (by omega)]; rfl
      simp only [X7_advances_S0, byteAt_in h (show p + i < t by omega), some_bind9, if_pos e32, lets_def, Lp1]
      rfl
    · have ee : p + (q - p) = q := by omega
      rcases Nat.lt_or_ge q t with g | g
      · have hb := h.2 q g
        have n32 : ¬ nI (b q) = 32 := fun z => q4 g ((nI_eq (a := b q) (b := 32) (by omega) (by omega)).mp z)
        simp only [X7_advances_S0, ee, byteAt_in h g, some_bind9, if_neg n32]
      · have e2 : q = t := by omega
        rw [e2] at ee ⊢
        simp only [X7_advances_S0, ee, byteAt_end ht, some_bind9, if_neg (show ¬ (-1 : Int32) = 32 by decide)]
  rcases Nat.lt_or_ge q t with g | g
  · have ok : okx (nI q) 300 := okx_nI (by omega) (by omega)
    have hb := h.2 q g
    have c0 : nI q < nI t := nI_lt g (by omega)
    have cl : (nI q).toNatClampNeg = q := nI_clamp (by omega)
    have bp : (0 : Int32) ≤ nI (b q) := nI_pos' (by omega)
    by_cases hL : isL9 (b q) = true
    · obtain ⟨e, e1, e2, e3, e4⟩ := run_ex (P := fun i => isL9 (b i) = true) (q := q) (t := t) (by omega)
      have hqe : q < e := by
        rcases Nat.lt_or_ge q e with z | z
        · exact z
        · exfalso
          have : e = q := by omega
          exact e4 (by omega) (by rw [this]; exact hL)
      have nw := nextWord_eq h e1 e2 e3 e4
      have wm := wordM_eq h hqe e2 e3 e4
      have x63 : wN b q (mn7 (e - q)) < 2 ^ 63 := by
        have m7 : mn7 (e - q) ≤ 7 ∧ mn7 (e - q) ≤ e - q := by unfold mn7; split <;> omega
        have l := (wN_lt (b := b) (q := q) (mn7 (e - q)) (fun k hk => e3 _ (by omega) (by omega))).1
        have := Nat.pow_le_pow_right (show 0 < 256 by omega) m7.1
        have : (256 : Nat) ^ 7 < 2 ^ 63 := by decide
        omega
      have wo := wordOf_eq x63
      have wn : ∀ w, w < 5 → (wN b q (mn7 (e - q)) = wK w ↔ isW9 b q e w = true) := fun w hw => word_num hw hqe e3
      simp only [wn 0 (by omega), wn 1 (by omega), wn 2 (by omega), wn 3 (by omega), wn 4 (by omega)] at wo
      have k8 : codeW b q e = 1 ∨ (4 ≤ codeW b q e ∧ codeW b q e ≤ 8) := by
        unfold codeW
        repeat' split
        all_goals omega
      refine ⟨e, q, codeW b q e, 0, q1, e1, e2, fun _ => hqe, fun z => by omega, by omega, fun z => by omega, fun num => ⟨num, ?_, fun z => by omega⟩, fun val => ⟨if codeW b q e = 1 then -9 else nI (codeW b q e - 4), ?_, fun z => by omega, fun z => if_neg (by omega)⟩⟩
      · rw [eX]
        simp only [X2_next_J38, if_pos c0, gd_t ok, cl, hb.2.2, (by_let _ hb.1).1, some_bind9, bool_i, if_pos hL, if_neg one_ne, nw]
      · rw [eM]
        simp only [X7_advances_J26, byteAt_in h g, some_bind9, if_pos bp, (by_let _ hb.1).2.2.1, bool_i, if_pos hL, wm, X7_advances_J130, X7_advances_J153, wo]
        unfold codeW
        by_cases g0 : isW9 b q e 0 = true
        · simp only [if_pos g0]; rfl
        · by_cases g1 : isW9 b q e 1 = true
          · simp only [if_neg g0, if_pos g1]; rfl
          · by_cases g2 : isW9 b q e 2 = true
            · simp only [if_neg g0, if_neg g1, if_pos g2]; rfl
            · by_cases g3 : isW9 b q e 3 = true
              · simp only [if_neg g0, if_neg g1, if_neg g2, if_pos g3]; rfl
              · by_cases g4 : isW9 b q e 4 = true
                · simp only [if_neg g0, if_neg g1, if_neg g2, if_neg g3, if_pos g4]; rfl
                · simp only [if_neg g0, if_neg g1, if_neg g2, if_neg g3, if_neg g4]; rfl
    · by_cases hD : isD9 (b q) = true
      · obtain ⟨e, e1, e2, e3, e4⟩ := run_ex (P := fun i => isD9 (b i) = true) (q := q) (t := t) (by omega)
        have hqe : q < e := by
          rcases Nat.lt_or_ge q e with z | z
          · exact z
          · exfalso
            have : e = q := by omega
            exact e4 (by omega) (by rw [this]; exact hD)
        have nx := numX_eq h hqe e2 e3 e4
        have nm := numM_eq h hqe e2 e3 e4 (r := nI (b q))
        have dr := dig_rel (b := b) (q := q) (e - q) (fun k hk => e3 _ (by omega) (by omega))
        have es : nI e - nI q = nI (e - q) := pk_sub e1
        have l1 : (nI (e - q) ≤ (1 : Int32)) ↔ e - q ≤ 1 := nI_leI (a := e - q) (b := 1) (by omega) (by omega)
        have l99 : ((99 : Int32) < nI (cD9 b q (e - q))) ↔ 99 < cD9 b q (e - q) := nI_ltI (a := 99) (b := cD9 b q (e - q)) (by omega) (by omega)
        have m99 : ((99 : Int32) < nI (mD9 b q (e - q))) ↔ 99 < mD9 b q (e - q) := nI_ltI (a := 99) (b := mD9 b q (e - q)) (by omega) (by omega)
        have t48 : (tb q = 48) ↔ b q = 48 := by rw [hb.2.2]; exact (by_eq _ hb.1).2.2
        have b48 : (nI (b q) = 48) ↔ b q = 48 := nI_eq (a := b q) (b := 48) (by omega) (by omega)
        have tl : tb q = (nI (b q)).toInt8.toInt32 := hb.2.2
        by_cases bad : 99 < mD9 b q (e - q) ∨ (1 < e - q ∧ b q = 48)
        · refine ⟨e, q, 1, 0, q1, e1, e2, fun _ => hqe, fun z => by omega, by omega, fun z => by omega, fun num => ⟨nI (cD9 b q (e - q)), ?_, fun z => by omega⟩, fun val => ⟨nI (mD9 b q (e - q)), ?_, fun z => by omega, fun z => by omega⟩⟩
          · rw [eX]
            simp only [X2_next_J38, if_pos c0, gd_t ok, cl, tl, (by_let _ hb.1).1, (by_let _ hb.1).2.1, some_bind9, bool_i, if_neg hL, if_pos hD, if_true, nx]
            simp only [X2_nextNumber_J73, X2_nextNumber_J104, X2_nextNumber_J105, X2_nextNumber_J120, X2_nextNumber_J125, es, l1, l99, gd_t ok, cl, t48]
            by_cases z1 : e - q ≤ 1
            · have z9 : 99 < cD9 b q (e - q) := by omega
              simp only [if_pos z1, if_pos z9, some_bind9]; rfl
            · by_cases z2 : b q = 48
              · simp only [if_neg z1, if_pos z2, if_neg one_ne, ite_self, some_bind9]; rfl
              · have z9 : 99 < cD9 b q (e - q) := by omega
                simp only [if_neg z1, if_neg z2, if_pos z9, some_bind9]; rfl
          · rw [eM]
            simp only [X7_advances_J26, byteAt_in h g, some_bind9, if_pos bp, (by_let _ hb.1).2.2.1, (by_let _ hb.1).2.2.2, bool_i, if_neg hL, if_pos hD, if_true, nm]
            simp only [X7_advances_J245, X7_advances_J274, X7_advances_J278, X7_advances_J279, es, l1, m99, b48]
            by_cases z9 : 99 < mD9 b q (e - q)
            · simp only [if_pos z9]; rfl
            · have z2 : b q = 48 := by omega
              have z1 : ¬ e - q ≤ 1 := by omega
              simp only [if_neg z9, if_pos z2, if_neg z1]; rfl
        · have c9 : ¬ 99 < cD9 b q (e - q) := by omega
          have z9 : ¬ 99 < mD9 b q (e - q) := by omega
          have ec : cD9 b q (e - q) = mD9 b q (e - q) := by omega
          refine ⟨e, q, 2, mD9 b q (e - q), q1, e1, e2, fun _ => hqe, fun z => by omega, by omega, fun _ => by omega, fun num => ⟨nI (cD9 b q (e - q)), ?_, fun _ => by rw [ec]⟩, fun val => ⟨nI (mD9 b q (e - q)), ?_, fun _ => rfl, fun z => by omega⟩⟩
          · rw [eX]
            simp only [X2_next_J38, if_pos c0, gd_t ok, cl, tl, (by_let _ hb.1).1, (by_let _ hb.1).2.1, some_bind9, bool_i, if_neg hL, if_pos hD, if_true, nx]
            simp only [X2_nextNumber_J73, X2_nextNumber_J104, X2_nextNumber_J105, X2_nextNumber_J120, X2_nextNumber_J125, es, l1, l99, gd_t ok, cl, t48]
            by_cases z1 : e - q ≤ 1
            · simp only [if_pos z1, if_neg c9, if_true, some_bind9]; rfl
            · have z2 : ¬ b q = 48 := by omega
              simp only [if_neg z1, if_neg z2, if_neg c9, if_true, some_bind9]; rfl
          · rw [eM]
            simp only [X7_advances_J26, byteAt_in h g, some_bind9, if_pos bp, (by_let _ hb.1).2.2.1, (by_let _ hb.1).2.2.2, bool_i, if_neg hL, if_pos hD, if_true, nm]
            simp only [X7_advances_J245, X7_advances_J274, X7_advances_J278, X7_advances_J279, es, l1, m99, b48, if_neg z9]
            by_cases z2 : b q = 48
            · have z1 : e - q ≤ 1 := by omega
              simp only [if_pos z2, if_pos z1]; rfl
            · simp only [if_neg z2]; rfl
      · have tl : tb q = (nI (b q)).toInt8.toInt32 := hb.2.2
        have t59 : ((nI (b q)).toInt8.toInt32 = 59) ↔ b q = 59 := (by_eq _ hb.1).2.1
        have b59 : (nI (b q) = 59) ↔ b q = 59 := nI_eq (a := b q) (b := 59) (by omega) (by omega)
        by_cases z : b q = 59
        · refine ⟨q + 1, q, 3, 0, q1, by omega, by omega, fun _ => by omega, fun y => by omega, by omega, fun y => by omega, fun num => ⟨num, ?_, fun y => by omega⟩, fun val => ⟨val, ?_, fun y => by omega, fun y => by omega⟩⟩
          · rw [eX]
            simp only [X2_next_J38, X2_next_J129, if_pos c0, gd_t ok, cl, tl, (by_let _ hb.1).1, (by_let _ hb.1).2.1, some_bind9, bool_i, if_neg hL, if_neg hD, if_true, t59, if_pos z, lets_def, Lp1]; rfl
          · rw [eM]
            simp only [X7_advances_J26, X7_advances_J307, byteAt_in h g, some_bind9, if_pos bp, (by_let _ hb.1).2.2.1, (by_let _ hb.1).2.2.2, bool_i, if_neg hL, if_neg hD, if_true, b59, if_pos z, lets_def, Lp1]; rfl
        · refine ⟨q + 1, q, 1, 0, q1, by omega, by omega, fun _ => by omega, fun y => by omega, by omega, fun y => by omega, fun num => ⟨num, ?_, fun y => by omega⟩, fun val => ⟨val, ?_, fun y => by omega, fun y => by omega⟩⟩
          · rw [eX]
            simp only [X2_next_J38, X2_next_J129, if_pos c0, gd_t ok, cl, tl, (by_let _ hb.1).1, (by_let _ hb.1).2.1, some_bind9, bool_i, if_neg hL, if_neg hD, if_true, t59, if_neg z, lets_def, Lp1]; rfl
          · rw [eM]
            simp only [X7_advances_J26, X7_advances_J307, byteAt_in h g, some_bind9, if_pos bp, (by_let _ hb.1).2.2.1, (by_let _ hb.1).2.2.2, bool_i, if_neg hL, if_neg hD, if_true, b59, if_neg z, lets_def, Lp1]; rfl
  · have e2 : q = t := by omega
    refine ⟨t, t, 0, 0, hp, Nat.le_refl t, Nat.le_refl t, fun z => absurd rfl z, fun _ => ⟨rfl, rfl⟩, by omega, fun z => by omega, fun num => ⟨num, ?_, fun z => by omega⟩, fun val => ⟨val, ?_, fun z => by omega, fun z => by omega⟩⟩
    · rw [eX, e2]
      simp only [X2_next_J38, if_neg (nI_nlt (Nat.le_refl t) (show t < 2 ^ 31 by omega))]; rfl
    · rw [eM, e2]
      simp only [X7_advances_J26, byteAt_end ht, some_bind9, if_neg (show ¬ (0 : Int32) ≤ -1 by decide)]; rfl
