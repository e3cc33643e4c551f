theorem r6_hi {n m k : Nat} (h : n ≤ k) : r6 n m k = 9 := if_neg (by omega)
theorem likelyM {q : Nat → Nat} {n N a b : Nat} (hn : n ≤ 6) (ha : a ≤ 99) (hb : b ≤ 99) (h9 : ∀ j, j < 24 → q j ≤ 9) (hz : ∀ j, 4 * n ≤ j → j < 24 → q j = 0) (hv : vlF q (r6 n N) n 0 = true) : (lg_cmp (lN (vV (idl9 q (r6 n N)) (mw9 q (r6 n N)) n 0 0) * (nI b).toInt64) ((nI a).toInt64 * lN (allM q (r6 n N) n)) < 0) ↔ ¬ Gd9 q a b n N := by
  have hv' := (vl_iff (r6_ok n N) n 0).mp hv
  have hv6 : ∀ k, k < 6 → valid9 q (r6 n N) k := fun k hk => by
    rcases Nat.lt_or_ge k n with g | g
    · exact hv' k (Nat.zero_le k) (by omega)
    · exact Or.inl (if_neg (by omega))
  obtain ⟨s1, s2, s3⟩ := scale9 (r := r6 n N) hn hz (fun k hk => r6_hi hk) (fun k hk => hv6 k (by omega))
  have lb := (aH_b h9 6 (by omega)).2
  have l6 : (36 : Nat) ^ 6 < 2 ^ 32 := by decide
  have u1 : vV (idl9 q (r6 n N)) (mw9 q (r6 n N)) n 0 0 ≤ vV (idl9 q (r6 n N)) (cw9 q (r6 n N)) 6 0 0 := by rw [s2]; exact Nat.le_mul_of_pos_left _ s1
  have u2 : allM q (r6 n N) n ≤ aH q 6 := by rw [s3]; exact Nat.le_mul_of_pos_left _ s1
  have u3 : vV (idl9 q (r6 n N)) (cw9 q (r6 n N)) 6 0 0 ≤ aH q 6 := by
    have e := vV_le (id9 := idl9 q (r6 n N)) (w := cw9 q (r6 n N)) 6 0 0
    have eP := cPr_Pd (q := q) (r := r6 n N) (T := 0) (by omega) 6 0 (fun i _ h2 => hv6 i (by omega))
    rw [Nat.zero_add, sum_all hv6 6 (Nat.le_refl 6), cPr, Nat.one_mul] at eP
    rw [← eP] at e
    exact e
  have m1 : vV (idl9 q (r6 n N)) (mw9 q (r6 n N)) n 0 0 * b ≤ 2 ^ 32 * 99 := Nat.mul_le_mul (by omega) hb
  have m2 : a * allM q (r6 n N) n ≤ 99 * 2 ^ 32 := Nat.mul_le_mul ha (by omega)
  rw [lg_cmp_lt, nI_l (by omega), nI_l (by omega), lN_mul, lN_mul, Int64.lt_iff_toInt_lt, pf_lI (by omega), pf_lI (by omega)]
  unfold Gd9
  constructor
  · rintro h ⟨-, g⟩
    omega
  · intro h
    apply Classical.byContradiction
    intro g
    exact h ⟨hv, by omega⟩
theorem call_go {q : Nat → Nat} {n a b : Nat} (hn : n ≤ 6) (ha : a ≤ 99) (hb : b ≤ 99) {S : Nat → Int32} (hS : ∀ j, j < 24 → S j = nI (q j)) (h9 : ∀ j, j < 24 → q j ≤ 9) (hz : ∀ j, 4 * n ≤ j → j < 24 → q j = 0) {x3 : Int32} : ∀ (d N f : Nat) (x4 : Int32) (al : Int64) (lk th : Nat → Int64) (row best : Nat → Int32), N + d = 5 ^ n → d < f → Best9 q a b n N x4 best → (∀ k, n ≤ k → k < 6 → row k = 9) →
    ∃ x4' al' lk' th' row' best', it7 (X7_call_S87 (nI n) S (nI a) (nI b) x3 (nI (5 ^ n))) f x4 (nI N) al lk th row best = X7_call_J293 x3 x4' al' lk' th' row' best' ∧ Best9 q a b n (5 ^ n) x4' best'
  | 0, N, f, x4, al, lk, th, row, best, hd, hf, hB, hrow => by
    obtain ⟨f, rfl⟩ : ∃ k, f = k + 1 := ⟨f - 1, by omega⟩
    have p6 : 5 ^ n ≤ 5 ^ 6 := Nat.pow_le_pow_right (by omega) hn
    have p66 : (5 : Nat) ^ 6 = 15625 := by decide
    have e : N = 5 ^ n := by omega
    subst e
    refine ⟨x4, al, lk, th, row, best, ?_, hB⟩
    show X7_call_S87 (nI n) S (nI a) (nI b) x3 (nI (5 ^ n)) (it7 _ f) x4 (nI (5 ^ n)) al lk th row best = _
    simp only [X7_call_S87, if_pos (nI_le (Nat.le_refl (5 ^ n)) (show 5 ^ n < 2 ^ 31 by omega))]
  | d + 1, N, f, x4, al, lk, th, row, best, hd, hf, hB, hrow => by
    obtain ⟨f, rfl⟩ : ∃ k, f = k + 1 := ⟨f - 1, by omega⟩
    have p6 : 5 ^ n ≤ 5 ^ 6 := Nat.pow_le_pow_right (by omega) hn
    have p66 : (5 : Nat) ^ 6 = 15625 := by decide
    have hin := call_in (n := n) (N := N) hn (by omega) hS h9 (row := row) (x1 := nI a) (x2 := nI b) (x4 := x4) (al := al) (lk := lk) (th := th) (best := best) (self := it7 (X7_call_S87 (nI n) S (nI a) (nI b) x3 (nI (5 ^ n))) f)
    have hrow' : ∀ k, n ≤ k → k < 6 → rowJ n N row n k = 9 := fun k h1 h2 => by
      unfold rowJ; rw [if_neg (by omega)]; exact hrow k h1 h2
    have hrowA : ∀ k, k < 6 → rowJ n N row n k = nI (r6 n N k) := fun k hk => by
      rcases Nat.lt_or_ge k n with g | g
      · unfold rowJ; rw [if_pos (by omega)]
      · rw [hrow' k g hk]
        have : r6 n N k = 9 := if_neg (by omega)
        rw [this]; rfl
    show ∃ x4' al' lk' th' row' best', X7_call_S87 (nI n) S (nI a) (nI b) x3 (nI (5 ^ n)) (it7 (X7_call_S87 (nI n) S (nI a) (nI b) x3 (nI (5 ^ n))) f) x4 (nI N) al lk th row best = _ ∧ _
    simp only [X7_call_S87, if_neg (nI_ge (a := N) (b := 5 ^ n) (by omega) (by omega)), lets_def, hin]
    have lN' := ct_le (r := r6 n N) n 0
    have go : ∀ (x4 : Int32) (al : Int64) (lk th : Nat → Int64) (best : Nat → Int32), Best9 q a b n (N + 1) x4 best → ∃ x4' al' lk' th' row' best', X7_call_J287 (nI N) (it7 (X7_call_S87 (nI n) S (nI a) (nI b) x3 (nI (5 ^ n))) f) (rowJ n N row n) x4 al lk th best = X7_call_J293 x3 x4' al' lk' th' row' best' ∧ Best9 q a b n (5 ^ n) x4' best' := fun x4 al lk th best hB2 => by
      simp only [X7_call_J287, lets_def, Lp1]
      exact call_go hn ha hb hS h9 hz d (N + 1) f x4 al lk th _ best (by omega) (by omega) hB2 hrow'
    unfold X7_call_J212
    by_cases hv : vlF q (r6 n N) n 0 = true
    · rw [if_pos hv, if_neg one_ne]
      have test : (∀ m0, x4 = nI (ctF (r6 n m0) n 0) → ctF (r6 n N) n 0 < ctF (r6 n m0) n 0) → ∃ x4' al' lk' th' row' best', X7_call_J231 (nI n) S (nI a) (nI b) x4 (nI N) lk th best (it7 (X7_call_S87 (nI n) S (nI a) (nI b) x3 (nI (5 ^ n))) f) (nI (ctF (r6 n N) n 0)) (rowJ n N row n) = X7_call_J293 x3 x4' al' lk' th' row' best' ∧ Best9 q a b n (5 ^ n) x4' best' := fun hless => by
        obtain ⟨lk2, th2, ea⟩ := allThere_eq hn (r := r6 n N) (row := rowJ n N row n) hS h9 (fun k hk => hrowA k (by omega)) (fun k _ => by have := r6_ok n N k; omega) (likely := lk) (th := th)
        unfold X7_call_J231
        rw [ea, some_bind9]
        simp only []
        by_cases hg : Gd9 q a b n N
        · rw [if_neg (fun h => (likelyM hn ha hb h9 hz hv).mp h hg)]
          have ec : it2 (X7_call_S260 (nI N) (it7 (X7_call_S87 (nI n) S (nI a) (nI b) x3 (nI (5 ^ n))) f) (nI (ctF (r6 n N) n 0)) (rowJ n N row n) (lN (vV (idl9 q (r6 n N)) (mw9 q (r6 n N)) n 0 0), lN (allM q (r6 n N) n), lk2, th2)) 100000 0 best = X7_call_J287 (nI N) (it7 (X7_call_S87 (nI n) S (nI a) (nI b) x3 (nI (5 ^ n))) f) (rowJ n N row n) (nI (ctF (r6 n N) n 0)) (lN (allM q (r6 n N) n)) lk2 th2 (fa_fill (rowJ n N row n) best 6) := by
            refine it2_go 6 (fun i => nI i) (fun i => fa_fill (rowJ n N row n) best i) _ rfl (fa_fill_0 _ _).symm (fun i hi self => ?_) (fun self => ?_) 100000 (by decide)
            · have ok : okx (nI i) 6 := okx_nI hi (by omega)
              simp only [X7_call_S260, if_neg (show ¬ (6 : Int32) ≤ nI i from nI_ge (a := i) (b := 6) hi (by omega)), gd_t ok, nI_clamp (show i < 2 ^ 31 by omega), lets_def, Lp1]
              rw [← fa_fill_succ]
            · simp only [X7_call_S260, if_pos (show (6 : Int32) ≤ nI 6 by decide)]
          rw [ec]
          refine go _ _ _ _ _ (Or.inr ⟨N, by omega, hg, rfl, fun k hk => by rw [fa_fill_in hk]; exact hrowA k hk, fun m hm g => ?_⟩)
          rcases Nat.lt_or_ge m N with z | z
          · rcases hB with ⟨-, h2⟩ | ⟨m0, h1, h2, h3, h4, h5⟩
            · exact absurd g (h2 m z)
            · have l1 := hless m0 h3
              have l2 := (h5 m z g).1
              exact ⟨by omega, fun _ => by omega⟩
          · rw [show m = N by omega]
            exact ⟨Nat.le_refl _, fun _ => Nat.le_refl _⟩
        · rw [if_pos ((likelyM hn ha hb h9 hz hv).mpr hg)]
          exact go _ _ _ _ _ (best_keep hn hB (fun g => absurd g hg))
      by_cases e9 : x4 = -9
      · rw [if_pos e9]
        refine test (fun m0 e => ?_)
        rw [e9] at e
        exact absurd e (m9_ne _ (by have := ct_le (r := r6 n m0) n 0; omega))
      · rw [if_neg e9]
        rcases hB with ⟨h1, -⟩ | ⟨m0, h1, h2, h3, h4, h5⟩
        · exact absurd h1 e9
        · have l0 := ct_le (r := r6 n m0) n 0
          by_cases hc : x4 ≤ nI (ctF (r6 n N) n 0)
          · rw [if_pos hc]
            refine go _ _ _ _ _ (best_keep hn (Or.inr ⟨m0, h1, h2, h3, h4, h5⟩) (fun _ => ⟨m0, h3, ?_⟩))
            rw [h3, nI_leI (by omega) (by omega)] at hc
            exact hc
          · rw [if_neg hc]
            refine test (fun m1 e => ?_)
            have l1 := ct_le (r := r6 n m1) n 0
            rw [e, nI_leI (by omega) (by omega)] at hc
            omega
    · rw [if_neg hv, if_pos rfl]
      exact go _ _ _ _ _ (best_keep hn hB (fun g => absurd g.1 hv))
theorem callM_eq {q : Nat → Nat} {n a b : Nat} (hn : n ≤ 6) (ha : a ≤ 99) (hb : b ≤ 99) {S : Nat → Int32} (hS : ∀ j, j < 24 → S j = nI (q j)) (h9 : ∀ j, j < 24 → q j ≤ 9) (hz : ∀ j, 4 * n ≤ j → j < 24 → q j = 0) {x3 : Int32} {al : Int64} {lk th : Nat → Int64} {row best : Nat → Int32} : ∃ x4' al' lk' th' row' best', X7_call_J49 (nI n) al S lk th row best (nI a) (nI b) x3 = X7_call_J293 x3 x4' al' lk' th' row' best' ∧ Best9 q a b n (5 ^ n) x4' best' := by
  have p6 : 5 ^ n ≤ 5 ^ 6 := Nat.pow_le_pow_right (by omega) hn
  have p66 : (5 : Nat) ^ 6 = 15625 := by decide
  obtain ⟨x4', al', lk', th', row', best', e, hB⟩ := call_go hn ha hb hS h9 hz (x3 := x3) (5 ^ n) 0 100000 (-9) al lk th (fillI row 9 6) best (by omega) (by omega) (Or.inl ⟨rfl, fun m hm => absurd hm (by omega)⟩) (fun k _ h2 => fill_in h2)
  refine ⟨x4', al', lk', th', row', best', ?_, hB⟩
  unfold X7_call_J49
  refine it2_go n (fun i => nI (5 ^ i)) (fun i => nI i) _ rfl rfl (fun i hi self => ?_) (fun self => ?_) 100000 (by omega)
  · have e5 : nI (5 ^ i) * (5 : Int32) = nI (5 ^ (i + 1)) := pk_mul (5 ^ i) 5
    simp only [X7_call_S59, if_neg (nI_ge (a := i) (b := n) hi (by omega)), lets_def, Lp1, e5]
  · simp only [X7_call_S59, X7_call_J80, if_pos (nI_le (Nat.le_refl n) (show n < 2 ^ 31 by omega)), nobody_eq, some_bind9]
    exact e
/-- class and reference find the same -/
theorem call_same {q : Nat → Nat} {n a b : Nat} (hn : n ≤ 6) (hz : ∀ j, 4 * n ≤ j → j < 24 → q j = 0) {res : Option (Int32 × Int32 × Int32 × (Nat → Int64) × (Nat → Int64) × (Nat → Int32))} (hX : Fewest9 q a b res) {x4 : Int32} {best : Nat → Int32} (hB : Best9 q a b n (5 ^ n) x4 best) : ∃ av rows told, res = some (x4, nI a, nI b, av, rows, told) ∧ (x4 ≠ -9 → ∀ k, k < 6 → told k = best k) := by
  have ext : ∀ {y : Nat → Nat}, (∀ k, k < 6 → valid9 q y k) → ∃ m, m < 5 ^ n ∧ (∀ k, k < 6 → r6 n m k = y k) ∧ m = numF y n 0 ∧ ctF (r6 n m) n 0 = ctF y 6 0 ∧ (lk9 q a b y → Gd9 q a b n m) ∧ numF y 6 0 = m * 5 ^ (6 - n) := fun {y} hy => by
    have y9 : ∀ k, n ≤ k → k < 6 → y k = 9 := fun k h1 h2 => by
      rcases hy k h2 with g | g
      · exact g
      · have := hz (4 * k + y k) (by omega) (by omega)
        omega
    have hyn : ∀ k, k < n → y k = 9 ∨ y k < 4 := fun k hk => by
      rcases hy k (by omega) with g | g
      · exact Or.inl g
      · exact Or.inr g.1
    obtain ⟨e1, e2⟩ := r6_num (n := n) (r := fun k => if k < n then y k else 9) (fun k hk => by rw [if_pos hk]; exact hyn k hk) (fun k hk => if_neg (by omega))
    have en : numF (fun k => if k < n then y k else 9) n 0 = numF y n 0 := num_cg n 0 (fun k _ h2 => if_pos (by omega))
    rw [en] at e1 e2
    have e3 : ∀ k, k < 6 → r6 n (numF y n 0) k = y k := fun k hk => by
      rw [e2 k]
      by_cases g : k < n
      · rw [if_pos g]
      · rw [if_neg g, y9 k (by omega) hk]
    have e4 : ctF (r6 n (numF y n 0)) n 0 = ctF y 6 0 := by
      have s := ct_short (r := y) n (6 - n) 0 (fun k h1 h2 => y9 k (by omega) (by omega))
      rw [show n + (6 - n) = 6 by omega] at s
      rw [s]
      exact ct_cg n 0 (fun k _ h2 => e3 k (by omega))
    have e5 : numF y 6 0 = numF y n 0 * 5 ^ (6 - n) := by
      have s := num_short (r := y) n (6 - n) 0 (fun k h1 h2 => y9 k (by omega) (by omega))
      rw [show n + (6 - n) = 6 by omega] at s
      exact s
    refine ⟨numF y n 0, e1, e3, rfl, e4, fun hl => ?_, e5⟩
    have hv6 : ∀ k, k < n → valid9 q (r6 n (numF y n 0)) k := fun k hk => by
      unfold valid9; rw [e3 k (by omega)]; exact hy k (by omega)
    refine ⟨(vl_iff (r6_ok n _) n 0).mpr (fun k _ h2 => hv6 k (by omega)), ?_⟩
    rw [gd_iff hn hz (fun k hk => r6_hi hk) hv6]
    unfold lk9 at hl ⊢
    rw [vr_cg e3]; exact hl
  have back : ∀ {m : Nat}, m < 5 ^ n → Gd9 q a b n m → (∀ k, k < 6 → valid9 q (r6 n m) k) ∧ lk9 q a b (r6 n m) := fun {m} hm hg => by
    have hv := (vl_iff (r6_ok n m) n 0).mp hg.1
    have hvn : ∀ k, k < n → valid9 q (r6 n m) k := fun k hk => hv k (Nat.zero_le k) (by omega)
    refine ⟨fun k hk => ?_, ?_⟩
    · rcases Nat.lt_or_ge k n with g | g
      · exact hvn k g
      · exact Or.inl (if_neg (by omega))
    · rw [← gd_iff hn hz (fun k hk => r6_hi hk) hvn]
      exact hg.2
  have numr : ∀ m, m < 5 ^ n → numF (r6 n m) 6 0 = m * 5 ^ (6 - n) := fun m hm => by
    have s := num_short (r := r6 n m) n (6 - n) 0 (fun k h1 h2 => if_neg (by omega))
    rw [show n + (6 - n) = 6 by omega, num_r6' hm] at s
    exact s
  have ctr : ∀ m, ctF (r6 n m) n 0 = ctF (r6 n m) 6 0 := fun m => by
    have s := ct_short (r := r6 n m) n (6 - n) 0 (fun k h1 h2 => if_neg (by omega))
    rw [show n + (6 - n) = 6 by omega] at s
    exact s.symm
  rcases hX with ⟨m, x, av, rows, told, r1, r2, r3, r4, r5, r6'⟩ | ⟨av, rows, told, r1, r2⟩
  · obtain ⟨c1, c2, c3, c4, c5⟩ := id r3
    obtain ⟨mx, x1, x2, x3, x4', x5, x6⟩ := ext c2
    have gx := x5 c5
    rcases hB with ⟨-, h2⟩ | ⟨m0, h1, h2, h3, h4, h5⟩
    · exact absurd gx (h2 mx x1)
    · obtain ⟨b1, b2⟩ := back h1 h2
      have lx := h5 mx x1 gx
      have hd : dist9 (r6 n m0) 6 := by
        apply Classical.byContradiction
        intro nd
        obtain ⟨r', d1, d2, d3⟩ := not_dist b1 b2 nd
        obtain ⟨m', y1, -, -, y4, y5, -⟩ := ext d1
        have := (h5 m' y1 (y5 d2)).1
        rw [ctr m0, y4] at this
        omega
      have hc0 : Comp9 q a b (fun _ => 9) 6 0 (ctF (r6 n m0) 6 0) (r6 n m0) := ⟨fun k hk => absurd hk (by omega), b1, hd, rfl, b2⟩
      have ge : m ≤ ctF (r6 n m0) 6 0 := by
        apply Classical.byContradiction
        intro g
        exact r6' _ (by omega) _ hc0
      have em : ctF (r6 n m0) 6 0 = m := by
        have := lx.1
        rw [ctr m0, x4', c4] at this
        omega
      rw [em] at hc0
      have l1 := r5 _ hc0
      have l2 := lx.2 (by rw [x4', c4, ctr m0, em])
      rw [x6, numr m0 h1] at l1
      have hp : 0 < 5 ^ (6 - n) := Nat.pow_pos (by omega)
      have l3 : mx ≤ m0 := Nat.le_of_mul_le_mul_right l1 hp
      have e0 : mx = m0 := by omega
      refine ⟨av, rows, told, ?_, fun _ k hk => ?_⟩
      · rw [r1, h3, ctr m0, em]
      · rw [r4 k hk, h4 k hk, ← e0, x2 k hk]
  · refine ⟨av, rows, told, ?_, ?_⟩
    · rcases hB with ⟨h1, -⟩ | ⟨m0, h1, h2, h3, h4, h5⟩
      · rw [r1, h1]
      · exfalso
        obtain ⟨b1, b2⟩ := back h1 h2
        obtain ⟨r', d1, d2, d3, -⟩ := fewest_ex 6 (r6 n m0) (by have := ct_le (r := r6 n m0) 6 0; omega) b1 b2
        exact r2 _ (ct_4 d1 d3) r' ⟨fun k hk => absurd hk (by omega), d1, d3, rfl, d2⟩
    · rcases hB with ⟨h1, -⟩ | ⟨m0, h1, h2, h3, h4, h5⟩
      · intro h; exact absurd h1 h
      · exfalso
        obtain ⟨b1, b2⟩ := back h1 h2
        obtain ⟨r', d1, d2, d3, -⟩ := fewest_ex 6 (r6 n m0) (by have := ct_le (r := r6 n m0) 6 0; omega) b1 b2
        exact r2 _ (ct_4 d1 d3) r' ⟨fun k hk => absurd hk (by omega), d1, d3, rfl, d2⟩
theorem sim_call : SimOp_call Alike9 := by
  unfold SimOp_call
  intro z_text_length z_text_bytes z_village_houses z_village_law z_village_pride z_village_memory z_village_eats z_village_barred z_now_eaten z_now_year z_now_lot z_now_weights_cells z_now_brought z_now_left z_now_spoons z_now_health z_firstImage_eaten z_firstImage_year z_firstImage_lot z_firstImage_weights_cells z_firstImage_brought z_firstImage_left z_firstImage_spoons z_firstImage_health z_secondImage_eaten z_secondImage_year z_secondImage_lot z_secondImage_weights_cells z_secondImage_brought z_secondImage_left z_secondImage_spoons z_secondImage_health z_keptImages z_asked zb_trace zb_text zb_typed zb_eats zb_barred zb_laws zb_houses zb_s zb_kept zb_isKept z_chances_a z_chances_b z_chances_avoiding z_chances_rows z_chances_told zb_all zb_likely zb_then zb_row zb_best x1 x2 x3 hs9
  obtain ⟨n, hn, hT, hV, hN, hK, hA⟩ := hs9
  obtain ⟨rfl, rfl, -, -, -, v6, v7, v8, v9⟩ := id hV
  obtain ⟨a1, a2, a3, a4, a5, a6, a7, a8, a9, b1, b2, b3, b4, b5⟩ := id hN
  rcases rng_cases x2 with ⟨b, hb1, hb, rfl, k1, k2, k3⟩ | ⟨k1, k3⟩
  · by_cases n0 : x1 < 0
    · refine ⟨(-1, z_chances_a, z_chances_b, z_chances_avoiding, z_chances_rows, z_chances_told), (-1, 0, zb_all, zb_likely, zb_then, zb_row, zb_best), ?_, ?_, rfl, al_of n hn hT hV hN hK hA⟩
      · simp only [fX6_call, if_neg k1, if_neg k2, if_pos n0]
      · simp only [fX7_call, k3, some_bind9, if_neg one_ne, in_f1 n0, if_true]
    by_cases nb : nI b < x1
    · refine ⟨(-1, z_chances_a, z_chances_b, z_chances_avoiding, z_chances_rows, z_chances_told), (-1, 0, zb_all, zb_likely, zb_then, zb_row, zb_best), ?_, ?_, rfl, al_of n hn hT hV hN hK hA⟩
      · simp only [fX6_call, if_neg k1, if_neg k2, if_neg n0, if_pos nb]
      · simp only [fX7_call, k3, some_bind9, if_neg one_ne, in_f2 nb, if_true]
    obtain ⟨a, ha0, rfl⟩ := nI_of n0
    have hab : a ≤ b := by
      have : ¬ b < a := fun h => nb ((nI_ltI (a := b) (b := a) (by omega) ha0).mpr h)
      omega
    have ha : a ≤ 99 := by omega
    have i1 : fX7_in (nI a) 0 (nI b) = some 1 := in_t n0 nb
    have i2 : fX7_in (nI a) 0 99 = some 1 := in_t n0 (nI_nlt (a := 99) (b := a) (by omega) (by omega))
    obtain ⟨q, hq⟩ : ∃ q : Nat → Nat, ∀ j, q j = (zb_s j).toNatClampNeg := ⟨fun j => (zb_s j).toNatClampNeg, fun _ => rfl⟩
    have hS : ∀ j, j < 24 → zb_s j = nI (q j) := fun j hj => by rw [hq]; exact (w_nat hN hj).1
    have h9 : ∀ j, j < 24 → q j ≤ 9 := fun j hj => by rw [hq]; exact (w_nat hN hj).2
    have hVq : ∀ j, j < 24 → z_now_weights_cells j = nI (q j) := fun j hj => (a1 j hj).trans (hS j hj)
    have hz : ∀ j, 4 * n ≤ j → j < 24 → q j = 0 := fun j g hj => by rw [hq, a3 j g hj]; rfl
    have hX := fewest_eq ha hb hVq h9 (av := z_chances_avoiding) (rows := z_chances_rows) (told := z_chances_told)
    obtain ⟨x4', al', lk', th', row', best', eM, hB⟩ := callM_eq hn ha hb hS h9 hz (x3 := x3) (al := zb_all) (lk := zb_likely) (th := zb_then) (row := zb_row) (best := zb_best)
    obtain ⟨av, rows, told, eX, hbest⟩ := call_same hn hz hX hB
    by_cases m1 : x3 = -1
    · subst m1
      refine ⟨(x4', nI a, nI b, av, rows, told), (x4', 0, al', lk', th', row', best'), ?_, ?_, rfl, al_of n hn hT hV hN hK hA⟩
      · simp only [fX6_call, X6_call_J35, X6_call_J65, if_neg k1, if_neg k2, if_neg n0, if_neg nb, if_pos, eX, some_bind9, ite_self]
      · simp only [fX7_call, k3, some_bind9, if_neg one_ne, i1, i2, if_pos, eM, X7_call_J293, X7_call_J304, if_neg (show ¬ (0 : Int32) ≤ -1 by decide), ite_self]
    · rcases house_cases hn x3 with ⟨h, hh, rfl, hx, hm⟩ | ⟨hx, hm⟩
      · by_cases e9 : x4' = -9
        · refine ⟨(x4', nI a, nI b, av, rows, told), (x4', 0, al', lk', th', row', best'), ?_, ?_, rfl, al_of n hn hT hV hN hK hA⟩
          · simp only [fX6_call, X6_call_J35, X6_call_J65, if_neg k1, if_neg k2, if_neg n0, if_neg nb, if_neg m1, hx, some_bind9, if_neg one_ne, eX, if_pos e9]
          · simp only [fX7_call, k3, some_bind9, if_neg one_ne, i1, i2, if_neg m1, hm, eM, X7_call_J293, X7_call_J304, if_pos e9]
        · have ok : okx (nI h) 6 := okx_nI (by omega) (by omega)
          refine ⟨(told h, nI a, nI b, av, rows, told), (best' h, 0, al', lk', th', row', best'), ?_, ?_, hbest e9 h (by omega), al_of n hn hT hV hN hK hA⟩
          · simp only [fX6_call, X6_call_J35, if_neg k1, if_neg k2, if_neg n0, if_neg nb, if_neg m1, hx, some_bind9, if_neg one_ne, eX, if_neg e9, gd_t ok, nI_clamp (show h < 2 ^ 31 by omega)]
          · simp only [fX7_call, k3, some_bind9, if_neg one_ne, i1, i2, if_neg m1, hm, eM, X7_call_J293, if_neg e9, if_pos (nI_pos' (show h < 2 ^ 31 by omega)), gd_t ok, nI_clamp (show h < 2 ^ 31 by omega)]
      · refine ⟨(-1, z_chances_a, z_chances_b, z_chances_avoiding, z_chances_rows, z_chances_told), (-1, 0, zb_all, zb_likely, zb_then, zb_row, zb_best), ?_, ?_, rfl, al_of n hn hT hV hN hK hA⟩
        · simp only [fX6_call, if_neg k1, if_neg k2, if_neg n0, if_neg nb, if_neg m1, hx, some_bind9, if_true]
        · simp only [fX7_call, k3, some_bind9, if_neg one_ne, i1, i2, if_neg m1, hm, if_true]
  · refine ⟨(-1, z_chances_a, z_chances_b, z_chances_avoiding, z_chances_rows, z_chances_told), (-1, 0, zb_all, zb_likely, zb_then, zb_row, zb_best), ?_, ?_, rfl, al_of n hn hT hV hN hK hA⟩
    · rcases k1 with k1 | ⟨k1, k2⟩
      · simp only [fX6_call, if_pos k1]
      · simp only [fX6_call, if_neg k1, if_pos k2]
    · simp only [fX7_call, k3, some_bind9, if_true]
