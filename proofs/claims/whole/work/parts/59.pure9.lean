/-- a row filled from its start on -/
def fillI (g : Nat → Int32) (v : Int32) (i : Nat) : Nat → Int32 := fun j => if j < i then v else g j
theorem fill_0 {g : Nat → Int32} {v : Int32} : fillI g v 0 = g := by
  funext j; simp only [fillI, if_neg (Nat.not_lt_zero j)]
theorem fill_step {g : Nat → Int32} {v : Int32} {i : Nat} : upd (fillI g v i) i v = fillI g v (i + 1) := by
  funext j
  by_cases e : j = i
  · subst e; rw [pk_us]; simp only [fillI, if_pos (Nat.lt_succ_self j)]
  · rw [pk_un e]
    simp only [fillI]
    by_cases h : j < i
    · rw [if_pos h, if_pos (by omega)]
    · rw [if_neg h, if_neg (by omega)]
theorem fill_in {g : Nat → Int32} {v : Int32} {i j : Nat} (h : j < i) : fillI g v i j = v := by simp only [fillI, if_pos h]
theorem clearTable_eq {br le sp he : Nat → Int32} : fX1_clearTable br le sp he = some (0, fillI br (-9) 6, fillI le 0 4, fillI sp 0 24, fillI he 0 6) := by
  have e1 : ∀ b h l, X1_clearTable_J49 sp b h l = some (0, b, l, fillI sp 0 24, h) := fun b h l => by
    unfold X1_clearTable_J49
    refine it2_go 24 (fun i => nI i) (fun i => fillI sp 0 i) _ rfl fill_0.symm (fun i hi self => ?_) (fun self => ?_) 100000 (by decide)
    · have ok : okx (nI i) 24 := okx_nI hi (by omega)
      simp only [X1_clearTable_S51, if_neg (show ¬ (24 : Int32) ≤ nI i from nI_ge (a := i) (b := 24) hi (by omega)), gd_t ok, nI_clamp (show i < 2 ^ 31 by omega), lets_def, Lp1, fill_step]
    · simp only [X1_clearTable_S51, X1_clearTable_J73, if_pos (show (24 : Int32) ≤ nI 24 by decide)]
  have e2 : ∀ b h, X1_clearTable_J29 le sp b h = some (0, b, fillI le 0 4, fillI sp 0 24, h) := fun b h => by
    unfold X1_clearTable_J29
    refine it2_go 4 (fun i => nI i) (fun i => fillI le 0 i) _ rfl fill_0.symm (fun i hi self => ?_) (fun self => ?_) 100000 (by decide)
    · have ok : okx (nI i) 4 := okx_nI hi (by omega)
      simp only [X1_clearTable_S31, if_neg (show ¬ (4 : Int32) ≤ nI i from nI_ge (a := i) (b := 4) hi (by omega)), gd_t ok, nI_clamp (show i < 2 ^ 31 by omega), lets_def, Lp1, fill_step]
    · simp only [X1_clearTable_S31, e1, if_pos (show (4 : Int32) ≤ nI 4 by decide)]
  have e3 := it3_run (f := X1_clearTable_S2 le sp) 6 (fun i => nI i) (fun i => fillI br (-9) i) (fun i => fillI he 0 i) (some (0, fillI br (-9) 6, fillI le 0 4, fillI sp 0 24, fillI he 0 6)) (fun i hi self => by
    have ok : okx (nI i) 6 := okx_nI hi (by omega)
    simp only [X1_clearTable_S2, if_neg (show ¬ (6 : Int32) ≤ nI i from nI_ge (a := i) (b := 6) hi (by omega)), gd_t ok, nI_clamp (show i < 2 ^ 31 by omega), lets_def, Lp1, fill_step]) (fun self => by
    simp only [X1_clearTable_S2, e2, if_pos (show (6 : Int32) ≤ nI 6 by decide)]) 100000 (by decide)
  simp only [fill_0] at e3
  exact e3
def clrS (S : Nat → Int32) (i : Nat) : Nat → Int32 := fun j => if 24 ≤ j ∧ j < 24 + i then (if j < 30 then -9 else 0) else S j
theorem clears_eq {S : Nat → Int32} : fX7_clears S = some (clrS S 41) := by
  unfold fX7_clears
  refine it2_go 41 (fun i => nI (24 + i)) (fun i => clrS S i) _ rfl ?_ (fun i hi self => ?_) (fun self => ?_) 100000 (by decide)
  · funext j; simp only [clrS, if_neg (show ¬ (24 ≤ j ∧ j < 24 + 0) by omega)]
  · have ok : okx (nI (24 + i)) 67 := okx_nI (by omega) (by omega)
    have hst : ∀ v, v = (if 24 + i < 30 then (-9 : Int32) else 0) → upd (clrS S i) (24 + i) v = clrS S (i + 1) := fun v hv => by
      funext j
      by_cases e : j = 24 + i
      · subst e; rw [pk_us, hv]; simp only [clrS, if_pos (show 24 ≤ 24 + i ∧ 24 + i < 24 + (i + 1) by omega)]
      · rw [pk_un e]
        simp only [clrS]
        by_cases h : 24 ≤ j ∧ j < 24 + i
        · have h' : 24 ≤ j ∧ j < 24 + (i + 1) := by omega
          rw [if_pos h, if_pos h']
        · have h' : ¬ (24 ≤ j ∧ j < 24 + (i + 1)) := by omega
          rw [if_neg h, if_neg h']
    have e1 : nI (24 + i) + 1 = nI (24 + (i + 1)) := Lp1 (24 + i)
    rcases Nat.lt_or_ge (24 + i) 30 with q | q
    · simp only [X7_clears_S3, X7_clears_J26, if_neg (show ¬ (65 : Int32) ≤ nI (24 + i) from nI_ge (a := 24 + i) (b := 65) (by omega) (by omega)), if_neg (show ¬ (30 : Int32) ≤ nI (24 + i) from nI_ge (a := 24 + i) (b := 30) q (by omega)), gd_t ok, nI_clamp (show 24 + i < 2 ^ 31 by omega), lets_def, e1, hst (-9) (by rw [if_pos q])]
    · simp only [X7_clears_S3, X7_clears_J26, if_neg (show ¬ (65 : Int32) ≤ nI (24 + i) from nI_ge (a := 24 + i) (b := 65) (by omega) (by omega)), if_pos (show (30 : Int32) ≤ nI (24 + i) from nI_le (a := 30) (b := 24 + i) q (by omega)), gd_t ok, nI_clamp (show 24 + i < 2 ^ 31 by omega), lets_def, e1, hst 0 (by rw [if_neg (by omega)])]
  · simp only [X7_clears_S3, if_pos (show (65 : Int32) ≤ nI (24 + 41) by decide)]
/-- a weight a year later -/
def nwF (ch x : Int32) : Int32 := if x ≤ 0 then x else if (1 : Int32) < (if (x + ch) < (9 : Int32) then (x + ch) else (9 : Int32)) then (if (x + ch) < (9 : Int32) then (x + ch) else (9 : Int32)) else (1 : Int32)
def chF (mem c : Int32) : Int32 := if c = 0 then mem else if c = 1 then 0 else -mem
def wtF (mem c v : Int32) : Int32 := if v = 0 then v else if c = 1 then v else if (if c = 0 then v + mem else v - mem) ≤ (9 : Int32) then (if (1 : Int32) ≤ (if c = 0 then v + mem else v - mem) then (if c = 0 then v + mem else v - mem) else 1) else 9
theorem nw_num : ∀ k, k < 10 → ∀ m, m < 10 → (nwF (nI m) (nI k) = wtF (nI m) 0 (nI k) ∧ nwF 0 (nI k) = wtF (nI m) 1 (nI k) ∧ nwF (-(nI m)) (nI k) = wtF (nI m) 2 (nI k)) ∧ (∃ j, j < 10 ∧ nwF (nI m) (nI k) = nI j) ∧ (∃ j, j < 10 ∧ nwF 0 (nI k) = nI j) ∧ (∃ j, j < 10 ∧ nwF (-(nI m)) (nI k) = nI j) := by decide +kernel
theorem wt_2 {mem c v : Int32} (h0 : ¬ c = 0) (h1 : ¬ c = 1) : wtF mem c v = wtF mem 2 v := by
  simp only [wtF, if_neg h0, if_neg h1, if_neg (show ¬ (2 : Int32) = 0 by decide), if_neg (show ¬ (2 : Int32) = 1 by decide)]
theorem nw_wt {k m : Nat} (hk : k ≤ 9) (hm : m ≤ 9) (c : Int32) : nwF (chF (nI m) c) (nI k) = wtF (nI m) c (nI k) ∧ ∃ j, j ≤ 9 ∧ nwF (chF (nI m) c) (nI k) = nI j := by
  obtain ⟨⟨p1, p2, p3⟩, ⟨j1, q1, r1⟩, ⟨j2, q2, r2⟩, ⟨j3, q3, r3⟩⟩ := nw_num k (by omega) m (by omega)
  by_cases h0 : c = 0
  · subst h0
    simp only [chF, if_pos]
    exact ⟨p1, j1, by omega, r1⟩
  · by_cases h1 : c = 1
    · subst h1
      simp only [chF, if_neg one_ne, if_pos]
      exact ⟨p2, j2, by omega, r2⟩
    · simp only [chF, if_neg h0, if_neg h1]
      exact ⟨by rw [wt_2 h0 h1]; exact p3, j3, by omega, r3⟩
theorem weightThen_eq {la : Nat → Int32} {v c : Int32} : fX7_weightThen la v c = some (wtF (la 2) c v) := by
  have c2 : (2 : Int32).toNatClampNeg = 2 := rfl
  simp only [fX7_weightThen, X7_weightThen_J34, wtF, c2]
  by_cases h0 : v = 0
  · simp only [if_pos h0]
  · by_cases h1 : c = 1
    · simp only [if_neg h0, if_pos h1]
    · by_cases h2 : c = 0
      · simp only [if_neg h0, if_neg h1, if_pos h2]
        repeat' split
        all_goals rfl
      · simp only [if_neg h0, if_neg h1, if_neg h2]
        repeat' split
        all_goals rfl
theorem put_eq {w : Nat → Int32} {h s : Nat} {x : Int32} (hh : h < 6) (hs : s < 4) : fX4_put w (nI h) (nI s) x = some (upd w (4 * h + s) x) := by
  have ok : okx (nI (4 * h + s)) 24 := okx_nI (by omega) (by omega)
  simp only [fX4_put, nI4, gd_t ok, nI_clamp (show 4 * h + s < 2 ^ 31 by omega), lets_def]
/-- one sort's weights of the first i houses anew -/
def passS (w : Nat → Int32) (s : Nat) (ch : Int32) (i : Nat) : Nat → Int32 := fun j => if j % 4 = s ∧ j / 4 < i then nwF ch (w j) else w j
theorem passJ_eq {w : Nat → Int32} {s : Nat} (hs : s < 4) {ch : Int32} : X4_pass_J19 w (nI s) ch = some (passS w s ch 6) := by
  unfold X4_pass_J19
  refine it2_go 6 (fun i => nI i) (fun i => passS w s ch i) _ rfl ?_ (fun i hi self => ?_) (fun self => ?_) 100000 (by decide)
  · funext j; simp only [passS, if_neg (show ¬ (j % 4 = s ∧ j / 4 < 0) by omega)]
  · have e0 : passS w s ch i (4 * i + s) = w (4 * i + s) := by simp only [passS, if_neg (show ¬ ((4 * i + s) % 4 = s ∧ (4 * i + s) / 4 < i) by omega)]
    have hst : ∀ v, v = nwF ch (w (4 * i + s)) → upd (passS w s ch i) (4 * i + s) v = passS w s ch (i + 1) := fun v hv => by
      funext j
      by_cases e : j = 4 * i + s
      · subst e; rw [pk_us, hv]; simp only [passS, if_pos (show (4 * i + s) % 4 = s ∧ (4 * i + s) / 4 < i + 1 by omega)]
      · rw [pk_un e]
        simp only [passS]
        by_cases h : j % 4 = s ∧ j / 4 < i
        · have h' : j % 4 = s ∧ j / 4 < i + 1 := by omega
          rw [if_pos h, if_pos h']
        · have h' : ¬ (j % 4 = s ∧ j / 4 < i + 1) := by omega
          rw [if_neg h, if_neg h']
    simp only [X4_pass_S24, X4_pass_J66, if_neg (show ¬ (6 : Int32) ≤ nI i from nI_ge (a := i) (b := 6) hi (by omega)), of_eq hi hs, some_bind9, e0, lets_def, Lp1]
    by_cases hc : w (4 * i + s) ≤ 0
    · have e1 : passS w s ch (i + 1) = passS w s ch i := by
        rw [← hst (w (4 * i + s)) (by simp only [nwF, if_pos hc])]
        funext j
        by_cases e : j = 4 * i + s
        · subst e; rw [pk_us, e0]
        · rw [pk_un e]
      simp only [if_pos hc, e1]
    · simp only [if_neg hc, put_eq hi hs, some_bind9]
      rw [hst _ (by simp only [nwF, if_neg hc])]
  · simp only [X4_pass_S24, if_pos (show (6 : Int32) ≤ nI 6 by decide)]
theorem pass_eq {w : Nat → Int32} {s : Nat} (hs : s < 4) {c mem : Int32} : fX4_pass w (nI s) c mem = some (passS w s (chF mem c) 6) := by
  unfold fX4_pass chF
  by_cases h0 : c = 0
  · simp only [if_pos h0, passJ_eq hs]
  · by_cases h1 : c = 1
    · simp only [if_neg h0, if_pos h1, passJ_eq hs]
    · simp only [if_neg h0, if_neg h1, passJ_eq hs]
