/-! the reference's ways -/
def mw9 (q r : Nat → Nat) (h s : Nat) : Nat := if r h = 9 then q (4 * h + s) else if r h = s then 1 else 0
def allM (q r : Nat → Nat) : Nat → Nat
  | 0 => 1
  | h + 1 => if r h = 9 then (if Wt9 q h = 0 then allM q r h else allM q r h * Wt9 q h) else allM q r h
def tA9 (Lx : Nat) (w : Nat → Nat) (x : Nat) (T : Nat → Nat) : Nat → (Nat → Nat)
  | 0 => T
  | s + 1 => updN (tA9 Lx w x T s) (x ||| 2 ^ s) (tA9 Lx w x T s (x ||| 2 ^ s) + Lx * w s)
def tB9 (L : Nat → Nat) (w : Nat → Nat) : Nat → (Nat → Nat)
  | 0 => fun _ => 0
  | x + 1 => tA9 (L x) w x (tB9 L w x) 4
def wsum (T g : Nat → Nat) : Nat := fb_sm (fun k => T k * g k) 16
theorem wsum_upd {T g : Nat → Nat} {k v : Nat} (hk : k < 16) : wsum (updN T k (T k + v)) g = wsum T g + v * g k := by
  have e := fb_sm_upd (fun k => T k * g k) ((T k + v) * g k) hk
  have e2 : wsum (updN T k (T k + v)) g = fb_sm (fun j => if j = k then (T k + v) * g k else T j * g j) 16 := by
    unfold wsum
    refine fb_sm_cong (fun j _ => ?_)
    unfold updN
    by_cases q : j = k
    · rw [if_pos q, if_pos q, q]
    · rw [if_neg q, if_neg q]
  rw [e2]
  unfold wsum
  rw [Nat.add_mul] at e ⊢
  omega
theorem wsum_A {Lx : Nat} {w g T : Nat → Nat} {x : Nat} (hx : x < 16) : ∀ s, s ≤ 4 → wsum (tA9 Lx w x T s) g = wsum T g + Lx * fb_sm (fun t => w t * g (x ||| 2 ^ t)) s
  | 0, _ => by simp [tA9, fb_sm]
  | s + 1, hs => by
    rw [tA9, wsum_upd (or_lt x hx s (by omega)), wsum_A hx s (by omega), fb_sm_succ, Nat.mul_add, Nat.mul_assoc]
    omega
theorem wsum_B {L w g : Nat → Nat} : ∀ x, x ≤ 16 → wsum (tB9 L w x) g = fb_sm (fun y => L y * fb_sm (fun t => w t * g (y ||| 2 ^ t)) 4) x
  | 0, _ => by
    unfold wsum tB9
    rw [fb_sm_cong (g := fun _ => 0) (fun k _ => Nat.zero_mul _), fb_sm_const]
    rfl
  | x + 1, hx => by
    rw [tB9, wsum_A (by omega) 4 (by omega), wsum_B x (by omega)]
    exact (fb_sm_succ (fun y => L y * fb_sm (fun t => w t * g (y ||| 2 ^ t)) 4) x).symm
def arrN (T : Nat → Nat) (th : Nat → Int64) : Nat → Int64 := fun k => if k < 16 then lN (T k) else th k
theorem arr_in {T : Nat → Nat} {th : Nat → Int64} {k : Nat} (h : k < 16) : arrN T th k = lN (T k) := if_pos h
theorem arr_upd {T : Nat → Nat} {th : Nat → Int64} {k v : Nat} (hk : k < 16) : vp_updL (arrN T th) k (lN v) = arrN (updN T k v) th := by
  funext j
  by_cases e : j = k
  · subst e
    rw [pk_uLs, arr_in hk]
    have : updN T j v j = v := if_pos rfl
    rw [this]
  · rw [pk_uLn e]
    unfold arrN
    have : updN T k v j = T j := if_neg e
    rw [this]
theorem there_in {q r : Nat → Nat} {S row : Nat → Int32} {h : Nat} (hh : h < 6) (hS : ∀ j, j < 24 → S j = nI (q j)) (h9 : ∀ j, j < 24 → q j ≤ 9) (hr : row h = nI (r h)) (hr9 : r h ≤ 9) {L T : Nat → Nat} {likely th : Nat → Int64} (hL : ∀ x, x < 16 → likely x = lN (L x)) {x : Nat} (hx : x < 16) {self : Int32 → (Nat → Int64) → Option (Int64 × Int64 × (Nat → Int64) × (Nat → Int64))} :
    it2 (X7_allThere_S94 S row (nI h) likely (nI x) self) 100000 0 (arrN T th) = self (nI (x + 1)) (arrN (tA9 (L x) (mw9 q r h) x T 4) th) := by
  refine it2_go 4 (fun s => nI s) (fun s => arrN (tA9 (L x) (mw9 q r h) x T s) th) _ rfl rfl (fun s hs self2 => ?_) (fun self2 => ?_) 100000 (by decide)
  · have ok6 : okx (nI h) 6 := okx_nI hh (by omega)
    have ok67 : okx (nI (4 * h + s)) 67 := okx_nI (by omega) (by omega)
    obtain ⟨e1, -⟩ := setb6 x (by omega) s (by omega)
    have l1 := or_lt x hx s hs
    have okx1 : okx (nI (x ||| 2 ^ s)) 16 := okx_nI l1 (by omega)
    have okx2 : okx (nI x) 16 := okx_nI hx (by omega)
    have go : ∀ b : Nat, ∀ t0 : Int32, t0.toInt64 = lN b → mw9 q r h s = b → X7_allThere_J138 likely (nI x) (nI s) (arrN (tA9 (L x) (mw9 q r h) x T s) th) self2 t0 = self2 (nI (s + 1)) (arrN (tA9 (L x) (mw9 q r h) x T (s + 1)) th) := fun b t0 et eb => by
      simp only [X7_allThere_J138, e1, gd_t okx1, gd_t okx2, nI_clamp (show x ||| 2 ^ s < 2 ^ 31 by omega), nI_clamp (show x < 2 ^ 31 by omega), hL x hx, et, arr_in l1, lN_mul, lN_add, lets_def, Lp1]
      rw [arr_upd l1]
      have : tA9 (L x) (mw9 q r h) x T (s + 1) = updN (tA9 (L x) (mw9 q r h) x T s) (x ||| 2 ^ s) (tA9 (L x) (mw9 q r h) x T s (x ||| 2 ^ s) + L x * b) := by rw [tA9, eb]
      rw [this]
    have c9 : (nI (r h) = 9) ↔ r h = 9 := nI_eq (a := r h) (b := 9) (by omega) (by omega)
    have cs : (nI (r h) = nI s) ↔ r h = s := nI_eq (by omega) (by omega)
    simp only [X7_allThere_S94, if_neg (show ¬ (4 : Int32) ≤ nI s from nI_ge (a := s) (b := 4) hs (by omega)), gd_t ok6, nI4', gd_t ok67, nI_clamp (show h < 2 ^ 31 by omega), nI_clamp (show 4 * h + s < 2 ^ 31 by omega), hr, c9, cs, hS (4 * h + s) (by omega)]
    by_cases g9 : r h = 9
    · rw [if_pos g9]
      exact go (q (4 * h + s)) _ (nI_l (by have := h9 (4 * h + s) (by omega); omega)) (by simp only [mw9, if_pos g9])
    · rw [if_neg g9]
      by_cases gs : r h = s
      · rw [if_pos gs]
        exact go 1 1 rfl (by simp only [mw9, if_neg g9, if_pos gs])
      · rw [if_neg gs]
        exact go 0 0 rfl (by simp only [mw9, if_neg g9, if_neg gs])
  · simp only [X7_allThere_S94, X7_allThere_J169, if_pos (show (4 : Int32) ≤ nI 4 by decide), lets_def, Lp1]
theorem there_step {q r : Nat → Nat} {S row : Nat → Int32} {h : Nat} (hh : h < 6) (hS : ∀ j, j < 24 → S j = nI (q j)) (h9 : ∀ j, j < 24 → q j ≤ 9) (hr : row h = nI (r h)) (hr9 : r h ≤ 9) {L : Nat → Nat} {likely th : Nat → Int64} (hL : ∀ x, x < 16 → likely x = lN (L x)) {al : Int64} {self : Int32 → Int64 → (Nat → Int64) → (Nat → Int64) → Option (Int64 × Int64 × (Nat → Int64) × (Nat → Int64))} :
    X7_allThere_J63 S row (nI h) al likely th self = self (nI (h + 1)) (al * lN (if r h = 9 then Wt9 q h else 1)) (arrN (tB9 L (mw9 q r h) 16) likely) (arrN (tB9 L (mw9 q r h) 16) th) := by
  have hq4 : ∀ t, t < 4 → (fun t => S (4 * h + t)) t = nI ((fun t => q (4 * h + t)) t) := fun t ht => hS _ (by omega)
  have hb : fb_sm (fun t => q (4 * h + t)) 4 ≤ 4 * 9 := fb_sm_bound (fun t ht => h9 _ (by omega))
  unfold X7_allThere_J63
  refine it2_go 16 (fun i => nI i) (fun i => fa_fill (fun _ => 0) th i) _ rfl (fa_fill_0 _ _).symm (fun i hi self2 => ?_) (fun self2 => ?_) 100000 (by decide)
  · have ok : okx (nI i) 16 := okx_nI hi (by omega)
    simp only [X7_allThere_S65, if_neg (show ¬ (16 : Int32) ≤ nI i from nI_ge (a := i) (b := 16) hi (by omega)), gd_t ok, nI_clamp (show i < 2 ^ 31 by omega), lets_def, Lp1]
    rw [← fillL_succ]
  · have e0 : fa_fill (fun _ => (0 : Int64)) th 16 = arrN (tB9 L (mw9 q r h) 0) th := by
      funext k
      unfold fa_fill arrN tB9
      rfl
    simp only [X7_allThere_S65, X7_allThere_J84, if_pos (show (16 : Int32) ≤ nI 16 by decide), e0]
    refine it2_go 16 (fun x => nI x) (fun x => arrN (tB9 L (mw9 q r h) x) th) _ rfl rfl (fun x hx self3 => ?_) (fun self3 => ?_) 100000 (by decide)
    · simp only [X7_allThere_S86, if_neg (show ¬ (16 : Int32) ≤ nI x from nI_ge (a := x) (b := 16) hx (by omega))]
      exact there_in hh hS h9 hr hr9 hL hx
    · simp only [X7_allThere_S86, X7_allThere_J175, if_pos (show (16 : Int32) ≤ nI 16 by decide)]
      refine it2_go 16 (fun i => nI i) (fun i => fa_fill (arrN (tB9 L (mw9 q r h) 16) th) likely i) _ rfl (fa_fill_0 _ _).symm (fun i hi self4 => ?_) (fun self4 => ?_) 100000 (by decide)
      · have ok : okx (nI i) 16 := okx_nI hi (by omega)
        simp only [X7_allThere_S177, if_neg (show ¬ (16 : Int32) ≤ nI i from nI_ge (a := i) (b := 16) hi (by omega)), gd_t ok, nI_clamp (show i < 2 ^ 31 by omega), lets_def, Lp1]
        rw [← fillL_succ]
      · have e1 : fa_fill (arrN (tB9 L (mw9 q r h) 16) th) likely 16 = arrN (tB9 L (mw9 q r h) 16) likely := by
          funext k
          unfold fa_fill arrN
          by_cases g : k < 16
          · rw [if_pos g, if_pos g, if_pos g]
          · rw [if_neg g, if_neg g]
        have ok6 : okx (nI h) 6 := okx_nI hh (by omega)
        have c9 : (nI (r h) = 9) ↔ r h = 9 := nI_eq (a := r h) (b := 9) (by omega) (by omega)
        simp only [X7_allThere_S177, X7_allThere_J201, X7_allThere_J227, X7_allThere_J231, if_pos (show (16 : Int32) ≤ nI 16 by decide), e1, gd_t ok6, nI_clamp (show h < 2 ^ 31 by omega), hr, c9, weightsOf_eq hh, some_bind9, sumI_nI hq4, nI_l (show fb_sm (fun t => q (4 * h + t)) 4 < 2 ^ 31 by omega), lets_def, Lp1]
        by_cases g9 : r h = 9
        · rw [if_pos g9, if_pos g9]; rfl
        · rw [if_neg g9, if_neg g9]; rfl
theorem there_go {n : Nat} (hn : n ≤ 6) {q r : Nat → Nat} {S row : Nat → Int32} (hS : ∀ j, j < 24 → S j = nI (q j)) (h9 : ∀ j, j < 24 → q j ≤ 9) (hr : ∀ k, k < n → row k = nI (r k)) (hr9 : ∀ k, k < n → r k ≤ 9) : ∀ (d h f : Nat) (L : Nat → Nat) (likely th : Nat → Int64), h + d = n → d < f → (∀ x, x < 16 → likely x = lN (L x)) → ∃ likely' th', it4 (X7_allThere_S36 (nI n) S row) f (nI h) (lN (allM q r h)) likely th = some (lN (wsum L (vV (idl9 q r) (mw9 q r) d h)), lN (allM q r n), likely', th')
  | 0, h, f, L, likely, th, hd, hf, hL => by
    obtain ⟨f, rfl⟩ : ∃ m, f = m + 1 := ⟨f - 1, by omega⟩
    have e : h = n := by omega
    subst e
    have c15 : (15 : Int32).toNatClampNeg = 15 := rfl
    have ew : wsum L (vV (idl9 q r) (mw9 q r) 0 h) = L 15 := by
      unfold wsum vV
      simp [fb_sm]
    refine ⟨likely, th, ?_⟩
    show X7_allThere_S36 (nI h) S row (it4 (X7_allThere_S36 (nI h) S row) f) (nI h) (lN (allM q r h)) likely th = _
    simp only [X7_allThere_S36, X7_allThere_J237, if_pos (nI_le (Nat.le_refl h) (show h < 2 ^ 31 by omega)), c15, hL 15 (by omega), ew]
  | d + 1, h, f, L, likely, th, hd, hf, hL => by
    obtain ⟨f, rfl⟩ : ∃ m, f = m + 1 := ⟨f - 1, by omega⟩
    have hh : h < n := by omega
    have hq4 : ∀ t, t < 4 → (fun t => S (4 * h + t)) t = nI ((fun t => q (4 * h + t)) t) := fun t ht => hS _ (by omega)
    have hb : fb_sm (fun t => q (4 * h + t)) 4 ≤ 4 * 9 := fb_sm_bound (fun t ht => h9 _ (by omega))
    have ok6 : okx (nI h) 6 := okx_nI (by omega) (by omega)
    have r9 := hr9 h hh
    have c9 : (nI (r h) = 9) ↔ r h = 9 := nI_eq (a := r h) (b := 9) (by omega) (by omega)
    show ∃ likely' th', X7_allThere_S36 (nI n) S row (it4 (X7_allThere_S36 (nI n) S row) f) (nI h) (lN (allM q r h)) likely th = _
    have act : idl9 q r h = false → lN (allM q r h) * lN (if r h = 9 then Wt9 q h else 1) = lN (allM q r (h + 1)) → ∃ likely' th', X7_allThere_J63 S row (nI h) (lN (allM q r h)) likely th (it4 (X7_allThere_S36 (nI n) S row) f) = some (lN (wsum L (vV (idl9 q r) (mw9 q r) (d + 1) h)), lN (allM q r n), likely', th') := fun hi ea => by
      rw [there_step (by omega) hS h9 (hr h hh) r9 hL, ea]
      have ew : wsum L (vV (idl9 q r) (mw9 q r) (d + 1) h) = wsum (tB9 L (mw9 q r h) 16) (vV (idl9 q r) (mw9 q r) d (h + 1)) := by
        rw [wsum_B 16 (Nat.le_refl 16)]
        unfold wsum
        refine fb_sm_cong (fun x _ => ?_)
        show L x * vV (idl9 q r) (mw9 q r) (d + 1) h x = _
        rw [vV, if_neg (by rw [hi]; decide)]
      rw [ew]
      exact there_go hn hS h9 hr hr9 d (h + 1) f (tB9 L (mw9 q r h) 16) _ _ (by omega) (by omega) (fun x hx => arr_in hx)
    by_cases g9 : r h = 9
    · rcases Nat.eq_zero_or_pos (Wt9 q h) with z | hp
      · have hi : idl9 q r h = true := by simp [idl9, g9, z]
        have ea : allM q r (h + 1) = allM q r h := by rw [allM, if_pos g9, if_pos z]
        have ew : wsum L (vV (idl9 q r) (mw9 q r) (d + 1) h) = wsum L (vV (idl9 q r) (mw9 q r) d (h + 1)) := by
          unfold wsum
          refine fb_sm_cong (fun x _ => ?_)
          show L x * vV (idl9 q r) (mw9 q r) (d + 1) h x = _
          rw [vV, if_pos hi]
        have zz : fb_sm (fun t => q (4 * h + t)) 4 = 0 := z
        simp only [X7_allThere_S36, X7_allThere_J231, if_neg (nI_ge (a := h) (b := n) hh (by omega)), gd_t ok6, nI_clamp (show h < 2 ^ 31 by omega), hr h hh, c9, if_pos g9, weightsOf_eq (show h < 6 by omega), some_bind9, sumI_nI hq4, zz, if_pos (show nI 0 ≤ 0 by decide), lets_def, Lp1]
        rw [ew, ← ea]
        exact there_go hn hS h9 hr hr9 d (h + 1) f L likely th (by omega) (by omega) hL
      · have hi : idl9 q r h = false := by simp [idl9]; omega
        have np : ¬ nI (fb_sm (fun t => q (4 * h + t)) 4) ≤ 0 := nI_nle hp (by omega)
        simp only [X7_allThere_S36, if_neg (nI_ge (a := h) (b := n) hh (by omega)), gd_t ok6, nI_clamp (show h < 2 ^ 31 by omega), hr h hh, c9, if_pos g9, weightsOf_eq (show h < 6 by omega), some_bind9, sumI_nI hq4, if_neg np]
        exact act hi (by rw [allM, if_pos g9, if_pos g9, if_neg (by omega), lN_mul])
    · have hi : idl9 q r h = false := by simp [idl9, g9]
      simp only [X7_allThere_S36, if_neg (nI_ge (a := h) (b := n) hh (by omega)), gd_t ok6, nI_clamp (show h < 2 ^ 31 by omega), hr h hh, c9, if_neg g9]
      exact act hi (by rw [allM, if_neg g9, if_neg g9, lN_mul, Nat.mul_one])
theorem allThere_eq {n : Nat} (hn : n ≤ 6) {q r : Nat → Nat} {S row : Nat → Int32} (hS : ∀ j, j < 24 → S j = nI (q j)) (h9 : ∀ j, j < 24 → q j ≤ 9) (hr : ∀ k, k < n → row k = nI (r k)) (hr9 : ∀ k, k < n → r k ≤ 9) {likely th : Nat → Int64} : ∃ likely' th', fX7_allThere (nI n) S likely th row = some (lN (vV (idl9 q r) (mw9 q r) n 0 0), lN (allM q r n), likely', th') := by
  obtain ⟨l', t', e⟩ := there_go hn hS h9 hr hr9 n 0 100000 (fun x => if x = 0 then 1 else 0) (fa_fill (fun k => if k = 0 then 1 else 0) likely 16) th (by omega) (by omega) (fun x hx => by rw [fa_fill_in hx]; split <;> rfl)
  refine ⟨l', t', ?_⟩
  have ew : wsum (fun x => if x = 0 then 1 else 0) (vV (idl9 q r) (mw9 q r) n 0) = vV (idl9 q r) (mw9 q r) n 0 0 := by
    unfold wsum
    simp [fb_sm]
  rw [ew] at e
  unfold fX7_allThere
  refine it2_go 16 (fun i => nI i) (fun i => fa_fill (fun k => if k = 0 then 1 else 0) likely i) _ rfl (fa_fill_0 _ _).symm (fun i hi self => ?_) (fun self => ?_) 100000 (by decide)
  · have ok : okx (nI i) 16 := okx_nI hi (by omega)
    rcases Nat.eq_zero_or_pos i with z | hp
    · subst z
      simp only [X7_allThere_S2, X7_allThere_J22, if_neg (show ¬ (16 : Int32) ≤ nI 0 by decide), if_pos (show nI 0 = 0 from rfl), gd_t ok, nI_clamp (show 0 < 2 ^ 31 by omega), lets_def, Lp1]
      rw [fill16 1 rfl]
    · simp only [X7_allThere_S2, X7_allThere_J22, if_neg (show ¬ (16 : Int32) ≤ nI i from nI_ge (a := i) (b := 16) hi (by omega)), if_neg (nI_ne0 hp (by omega)), gd_t ok, nI_clamp (show i < 2 ^ 31 by omega), lets_def, Lp1]
      rw [fill16 0 (by rw [if_neg (by omega)])]
  · simp only [X7_allThere_S2, X7_allThere_J29, if_pos (show (16 : Int32) ≤ nI 16 by decide)]
    exact e
theorem nobody_eq {row : Nat → Int32} : fX7_nobodyTold row = some (fillI row 9 6) := by
  unfold fX7_nobodyTold
  refine it2_go 6 (fun i => nI i) (fun i => fillI row 9 i) _ rfl fill_0.symm (fun i hi self => ?_) (fun self => ?_) 100000 (by decide)
  · have ok : okx (nI i) 6 := okx_nI hi (by omega)
    simp only [X7_nobodyTold_S2, if_neg (show ¬ (6 : Int32) ≤ nI i from nI_ge (a := i) (b := 6) hi (by omega)), gd_t ok, nI_clamp (show i < 2 ^ 31 by omega), lets_def, Lp1, fill_step]
  · simp only [X7_nobodyTold_S2, if_pos (show (6 : Int32) ≤ nI 6 by decide)]
theorem allM_free {q : Nat → Nat} : ∀ h, allM q (fun _ => 9) h = aH q h
  | 0 => rfl
  | h + 1 => by
    rw [allM, aH, if_pos rfl, allM_free h]
    rfl
theorem free_go {q : Nat → Nat} {av rows0 : Nat → Int64} (hav : ∀ j, j < 96 → av j = lN (avN q (j / 16) (j % 16))) : ∀ (d h f : Nat) (rows : Nat → Int64) (told : Nat → Int32), h + d = 6 → d < f → RowsOk q (fun _ => 9) h rows → (∀ k, k < h → told k = nI 9) → ∃ rows' told', it3 (X0_leaveAllFree_S7 (av, rows0)) f (nI h) rows told = some (av, rows', told') ∧ RowsOk q (fun _ => 9) 6 rows'
  | 0, h, f, rows, told, hd, hf, hR, hT => by
    obtain ⟨f, rfl⟩ : ∃ m, f = m + 1 := ⟨f - 1, by omega⟩
    have e : h = 6 := by omega
    subst e
    refine ⟨rows, told, ?_, hR⟩
    show X0_leaveAllFree_S7 (av, rows0) (it3 (X0_leaveAllFree_S7 (av, rows0)) f) (nI 6) rows told = _
    simp only [X0_leaveAllFree_S7, if_pos (show (6 : Int32) ≤ nI 6 by decide)]
  | d + 1, h, f, rows, told, hd, hf, hR, hT => by
    obtain ⟨f, rfl⟩ : ∃ m, f = m + 1 := ⟨f - 1, by omega⟩
    obtain ⟨rows', told', e1, e2, e3⟩ := decide_ok hav (r := fun _ => 9) (x := 9) (show h < 6 by omega) (Or.inl rfl) hR hT
    have eu : updN (fun _ => 9) h 9 = fun _ => 9 := by funext k; unfold updN; split <;> rfl
    rw [eu] at e2 e3
    have e9 : fX0_decide av rows told (nI h) 9 = some (rows', told') := e1
    show ∃ rows' told', X0_leaveAllFree_S7 (av, rows0) (it3 (X0_leaveAllFree_S7 (av, rows0)) f) (nI h) rows told = _ ∧ _
    simp only [X0_leaveAllFree_S7, if_neg (show ¬ (6 : Int32) ≤ nI h from nI_ge (a := h) (b := 6) (by omega) (by omega)), e9, some_bind9, lets_def, Lp1]
    exact free_go hav d (h + 1) f rows' told' (by omega) (by omega) e2 e3
theorem sim_all : SimOp_all Alike9 := by
  unfold SimOp_all
  intro z_text_length z_text_bytes z_village_houses z_village_law z_village_pride z_village_memory z_village_eats z_village_barred z_now_eaten z_now_year z_now_lot z_now_weights_cells z_now_brought z_now_left z_now_spoons z_now_health z_firstImage_eaten z_firstImage_year z_firstImage_lot z_firstImage_weights_cells z_firstImage_brought z_firstImage_left z_firstImage_spoons z_firstImage_health z_secondImage_eaten z_secondImage_year z_secondImage_lot z_secondImage_weights_cells z_secondImage_brought z_secondImage_left z_secondImage_spoons z_secondImage_health z_keptImages z_asked zb_trace zb_text zb_typed zb_eats zb_barred zb_laws zb_houses zb_s zb_kept zb_isKept z_chances_avoiding z_chances_rows z_chances_told zb_all zb_likely zb_then zb_row x1 hs9
  obtain ⟨n, hn, hT, hV, hN, hK, hA⟩ := hs9
  obtain ⟨rfl, rfl, -, -, -, v6, v7, v8, v9⟩ := id hV
  obtain ⟨a1, a2, a3, a4, a5, a6, a7, a8, a9, b1, b2, b3, b4, b5⟩ := id hN
  rcases half_cases x1 with ⟨hh, hx, hm⟩ | ⟨h0, h1, hx, hm⟩
  · obtain ⟨q, hq⟩ : ∃ q : Nat → Nat, ∀ j, q j = (zb_s j).toNatClampNeg := ⟨fun j => (zb_s j).toNatClampNeg, fun _ => rfl⟩
    have hS : ∀ j, j < 24 → zb_s j = nI (q j) := fun j hj => by rw [hq]; exact (w_nat hN hj).1
    have h9 : ∀ j, j < 24 → q j ≤ 9 := fun j hj => by rw [hq]; exact (w_nat hN hj).2
    have hVq : ∀ j, j < 24 → z_now_weights_cells j = nI (q j) := fun j hj => (a1 j hj).trans (hS j hj)
    have hz : ∀ j, 4 * n ≤ j → j < 24 → q j = 0 := fun j g hj => by rw [hq, a3 j g hj]; rfl
    have hp := prepare_eq hVq h9 (av := z_chances_avoiding) (rows := z_chances_rows)
    have hav : ∀ j, j < 96 → fa_fill (fun j => lN (avN q (j / 16) (j % 16))) z_chances_avoiding 96 j = lN (avN q (j / 16) (j % 16)) := fun j hj => fa_fill_in hj
    obtain ⟨rows', told', e1, e2⟩ := free_go hav (rows0 := fa_fill (fun _ => 1) z_chances_rows 16) 6 0 100000 (fa_fill (fun _ => 1) z_chances_rows 16) z_chances_told (by omega) (by omega) (fun k hk T hT => by
      have : k = 0 := by omega
      subst this
      rw [Nat.mul_zero, Nat.zero_add, fa_fill_in hT]; rfl) (fun k hk => absurd hk (by omega))
    have hv : ∀ i, i < 6 → valid9 q (fun _ => 9) i := fun i _ => Or.inl rfl
    obtain ⟨f1, f2, f3⟩ := row_ways e2 hv
    obtain ⟨-, t2⟩ := pH_tail (s := 0) hz (6 - n) (by omega)
    rw [show n + (6 - n) = 6 by omega] at t2
    have ev : vV (idl9 q (fun _ => 9)) (cw9 q (fun _ => 9)) 6 0 0 = vV (idl9 q (fun _ => 9)) (mw9 q (fun _ => 9)) n 0 0 := by
      have e := vV_short (id9 := idl9 q (fun _ => 9)) (w := cw9 q (fun _ => 9)) n (6 - n) 0 0 (fun k g1 g2 => by
        have z : Wt9 q k = 0 := by
          unfold Wt9
          rw [sm4, hz _ (by omega) (by omega), hz _ (by omega) (by omega), hz _ (by omega) (by omega), hz _ (by omega) (by omega)]
        simp [idl9, z])
      rw [show n + (6 - n) = 6 by omega] at e
      rw [e]
      exact vV_cg n 0 0 (fun k _ _ => ⟨rfl, fun s _ => by simp only [cw9, mw9, if_pos]⟩)
    obtain ⟨lk, th, g1⟩ := allThere_eq hn (r := fun _ => 9) (row := fillI zb_row 9 6) hS h9 (fun k hk => fill_in (by omega)) (fun k _ => Nat.le_refl 9) (likely := zb_likely) (th := zb_then)
    rw [allM_free, ← ev, ← t2] at g1
    have lb := aH_b h9 6 (by omega)
    have l6 : (36 : Nat) ^ 6 < 2 ^ 32 := by decide
    obtain ⟨r, r1, r2⟩ := terms_eq (a := vV (idl9 q (fun _ => 9)) (cw9 q (fun _ => 9)) 6 0 0) (b := aH q 6) (by omega) (by omega) lb.1 x1
    refine ⟨(r, fa_fill (fun j => lN (avN q (j / 16) (j % 16))) z_chances_avoiding 96, rows', told'), (r, 0, lN (aH q 6), lk, th, fillI zb_row 9 6), ?_, ?_, rfl, al_of n hn hT hV hN hK hA⟩
    · unfold fX6_all fX0_leaveAllFree
      rw [hx, some_bind9, if_neg one_ne, hp, some_bind9]
      rw [show it3 (X0_leaveAllFree_S7 (fa_fill (fun j => lN (avN q (j / 16) (j % 16))) z_chances_avoiding 96, fa_fill (fun _ => 1) z_chances_rows 16)) 100000 0 (fa_fill (fun j => lN (avN q (j / 16) (j % 16))) z_chances_avoiding 96, fa_fill (fun _ => 1) z_chances_rows 16).2 z_chances_told = _ from e1, some_bind9]
      simp only [f1, f2, some_bind9, r1]
    · unfold fX7_all
      rw [hm, some_bind9, if_neg one_ne, nobody_eq, some_bind9, g1, some_bind9]
      simp only [r2, some_bind9]
  · refine ⟨(-1000000, z_chances_avoiding, z_chances_rows, z_chances_told), (-1000000, 0, zb_all, zb_likely, zb_then, zb_row), ?_, ?_, rfl, al_of n hn hT hV hN hK hA⟩
    · simp only [fX6_all, hx, some_bind9, if_true]
    · simp only [fX7_all, hm, some_bind9, if_true]
