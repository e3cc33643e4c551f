/-! years: how weights go on -/
def hvs (V : Nat → Int32) (h : Nat) : Int32 := (hvP (fun t => V (4 * h + t)) 4).1
def bcn (V : Nat → Int32) (s : Nat) : Int32 := cntB (hvs V) (nI s) 6
def gyV (mem : Int32) (V : Nat → Int32) : Nat → Int32 := yW mem (fun s => bcn V s) V 4
def wyV (mem : Int32) (V : Nat → Int32) : Nat → (Nat → Int32)
  | 0 => V
  | y + 1 => gyV mem (wyV mem V y)
theorem hvs_sort (V : Nat → Int32) (h : Nat) : hvs V h = -9 ∨ ∃ k, k < 4 ∧ hvs V h = nI k := by
  obtain ⟨o, h1, h2⟩ := hv_enc (fun t => V (4 * h + t)) 4
  cases o with
  | none => exact Or.inl h1
  | some k => exact Or.inr ⟨k, h2 k rfl, h1⟩
def brS (V br : Nat → Int32) (i : Nat) : Nat → Int32 := fun s => if s < 4 then cntB (hvs V) (nI s) i else br s
theorem brS_skip {V br : Nat → Int32} {i : Nat} (e : hvs V i = -9) : brS V br (i + 1) = brS V br i := by
  funext s
  unfold brS
  by_cases q : s < 4
  · rw [if_pos q, if_pos q]
    unfold cntB
    rw [sumI, e, if_neg (m9_ne s (by omega)), Int32.add_zero]
  · rw [if_neg q, if_neg q]
theorem brS_step {V br : Nat → Int32} {i k : Nat} (hk : k < 4) (e : hvs V i = nI k) : upd (brS V br i) k (brS V br i k + 1) = brS V br (i + 1) := by
  funext s
  by_cases g : s = k
  · subst g
    rw [pk_us]
    unfold brS
    rw [if_pos hk, if_pos hk]
    unfold cntB
    rw [sumI, e, if_pos rfl]
  · rw [pk_un g]
    unfold brS
    by_cases q : s < 4
    · rw [if_pos q, if_pos q]
      unfold cntB
      rw [sumI, e, if_neg (fun h => g ((nI_eq (by omega) (by omega)).mp h).symm), Int32.add_zero]
    · rw [if_neg q, if_neg q]
theorem heavV {V : Nat → Int32} {i : Nat} (hi : i < 6) : fX4_heaviest V (nI i) = some (hvs V i) := heaviest_eq hi
theorem goOn2_eq {mem : Int32} {V br : Nat → Int32} : X5_goOn_J59 V mem (brS V br 6) = some (gyV mem V, brS V br 6) := by
  unfold X5_goOn_J59
  refine it2_go 4 (fun i => nI i) (fun i => yW mem (fun s => bcn V s) V i) _ rfl ?_ (fun i hi self3 => ?_) (fun self3 => ?_) 100000 (by decide)
  · funext j; simp only [yW, if_neg (show ¬ (j % 4 < 0 ∧ j < 24) by omega)]
  · have ok : okx (nI i) 4 := okx_nI hi (by omega)
    have eb : brS V br 6 i = bcn V i := by unfold brS bcn; rw [if_pos hi]
    simp only [X5_goOn_S61, if_neg (show ¬ (4 : Int32) ≤ nI i from nI_ge (a := i) (b := 4) hi (by omega)), gd_t ok, nI_clamp (show i < 2 ^ 31 by omega), eb, pass_eq hi, some_bind9, lets_def, Lp1]
    rw [← yW_step]
  · simp only [X5_goOn_S61, if_pos (show (4 : Int32) ≤ nI 4 by decide), gyV]
theorem goOn1_eq {mem : Int32} {V br : Nat → Int32} : X5_goOn_J20 V mem (brS V br 0) = some (gyV mem V, brS V br 6) := by
  unfold X5_goOn_J20
  refine it2_go 6 (fun i => nI i) (fun i => brS V br i) _ rfl rfl (fun i hi self2 => ?_) (fun self2 => ?_) 100000 (by decide)
  · rcases hvs_sort V i with e | ⟨k, hk, e⟩
    · simp only [X5_goOn_S22, X5_goOn_J53, if_neg (show ¬ (6 : Int32) ≤ nI i from nI_ge (a := i) (b := 6) hi (by omega)), heavV hi, some_bind9, lets_def, Lp1, if_pos e]
      rw [brS_skip e]
    · have ok : okx (nI k) 4 := okx_nI hk (by omega)
      have n9 : ¬ nI k = -9 := fun e => m9_ne k (by omega) e.symm
      simp only [X5_goOn_S22, X5_goOn_J53, if_neg (show ¬ (6 : Int32) ≤ nI i from nI_ge (a := i) (b := 6) hi (by omega)), heavV hi, some_bind9, lets_def, Lp1, e, if_neg n9, gd_t ok, nI_clamp (show k < 2 ^ 31 by omega)]
      rw [brS_step hk e]
  · simp only [X5_goOn_S22, if_pos (show (6 : Int32) ≤ nI 6 by decide), goOn2_eq]
theorem goOn_eq {mem : Int32} {V br : Nat → Int32} : ∃ br', fX5_goOn V br mem = some (gyV mem V, br') := by
  refine ⟨brS V br 6, ?_⟩
  have e0 : fillI br 0 4 = brS V br 0 := by
    funext s
    unfold fillI brS cntB
    rw [sumI]
  unfold fX5_goOn
  refine it2_go 4 (fun i => nI i) (fun i => fillI br 0 i) _ rfl fill_0.symm (fun i hi self => ?_) (fun self => ?_) 100000 (by decide)
  · have ok : okx (nI i) 4 := okx_nI hi (by omega)
    simp only [X5_goOn_S2, if_neg (show ¬ (4 : Int32) ≤ nI i from nI_ge (a := i) (b := 4) hi (by omega)), gd_t ok, nI_clamp (show i < 2 ^ 31 by omega), lets_def, Lp1, fill_step]
  · simp only [X5_goOn_S2, if_pos (show (4 : Int32) ≤ nI 4 by decide), e0, goOn1_eq]
/-! twelve weights as one number -/
def pkN (q : Nat → Nat) (b : Nat) : Nat → Nat
  | 0 => 0
  | i + 1 => pkN q b i * 16 + q (b + i)
theorem pkN_lt {q : Nat → Nat} {b : Nat} : ∀ {i : Nat}, (∀ j, j < i → q (b + j) ≤ 15) → pkN q b i < 16 ^ i
  | 0, _ => by simp [pkN]
  | i + 1, h => by
    have e := pkN_lt (q := q) (b := b) (i := i) (fun j hj => h j (by omega))
    have g := h i (by omega)
    rw [pkN, Nat.pow_succ]
    omega
theorem pkN_inj {q q' : Nat → Nat} {b : Nat} : ∀ {i : Nat}, (∀ j, j < i → q (b + j) ≤ 15 ∧ q' (b + j) ≤ 15) → pkN q b i = pkN q' b i → ∀ j, j < i → q (b + j) = q' (b + j)
  | 0, _, _, j, hj => absurd hj (by omega)
  | i + 1, h, e, j, hj => by
    have g := h i (by omega)
    rw [pkN, pkN] at e
    rcases Nat.lt_or_ge j i with r | r
    · exact pkN_inj (fun j hj => h j (by omega)) (by omega) j r
    · rw [show j = i by omega]; omega
theorem pkN_cg {q q' : Nat → Nat} {b : Nat} : ∀ {i : Nat}, (∀ j, j < i → q (b + j) = q' (b + j)) → pkN q b i = pkN q' b i
  | 0, _ => rfl
  | i + 1, h => by
    have e := pkN_cg (q := q) (q' := q') (b := b) (i := i) (fun j hj => h j (by omega))
    rw [pkN, pkN, e, h i (by omega)]
theorem shl4 (n : Nat) : lN n <<< ((4 : Int32).toInt64 &&& 63) = lN (n * 16) := wb_shl n (k := 4) (by omega)
theorem packed_eq {V : Nat → Int32} {q : Nat → Nat} (hV : ∀ j, j < 24 → V j = nI (q j) ∧ q j ≤ 9) {a : Nat} (ha : a ≤ 3) : fX4_packed V (nI a) = some (lN (pkN q (4 * a) 12)) := by
  have hb : ∀ i, i ≤ 12 → pkN q (4 * a) i < 2 ^ 48 := fun i hi => by
    have e := pkN_lt (q := q) (b := 4 * a) (i := i) (fun j hj => by have := (hV (4 * a + j) (by omega)).2; omega)
    have e2 : 16 ^ i ≤ 16 ^ 12 := Nat.pow_le_pow_right (by omega) hi
    have e3 : (16 : Nat) ^ 12 = 2 ^ 48 := by decide
    omega
  unfold fX4_packed
  refine it2_go 3 (fun i => lN (pkN q (4 * a) (4 * i))) (fun i => nI (a + i)) _ rfl rfl (fun i hi self => ?_) (fun self => ?_) 100000 (by decide)
  · simp only [X4_packed_S5, Lp3, if_neg (nI_ge (a := a + i) (b := a + 3) (by omega) (by omega))]
    refine it2_go 4 (fun s => lN (pkN q (4 * a) (4 * i + s))) (fun s => nI s) _ rfl rfl (fun s hs self2 => ?_) (fun self2 => ?_) 100000 (by decide)
    · obtain ⟨e1, e2⟩ := hV (4 * (a + i) + s) (by omega)
      have l1 := hb (4 * i + s) (by omega)
      simp only [X4_packed_S16, if_neg (show ¬ (4 : Int32) ≤ nI s from nI_ge (a := s) (b := 4) hs (by omega)), of_eq (show a + i < 6 by omega) hs, some_bind9, lets_def, Lp1, e1, nI_l (show q (4 * (a + i) + s) < 2 ^ 31 by omega), shl4]
      rw [g_or (k := 4) (p := 16) (by decide) (by omega) (by omega)]
      congr 1
      show _ = lN (pkN q (4 * a) (4 * i + s + 1))
      rw [pkN, show 4 * a + (4 * i + s) = 4 * (a + i) + s by omega]
    · simp only [X4_packed_S16, X4_packed_J42, if_pos (show (4 : Int32) ≤ nI 4 by decide), lets_def, Lp1]
      rfl
  · simp only [X4_packed_S5, Lp3, if_pos (nI_le (Nat.le_refl (a + 3)) (show a + 3 < 2 ^ 31 by omega))]
/-! the years' weights -/
theorem wy_ok {m : Nat} (hm : m ≤ 9) {n : Nat} {V : Nat → Int32} (h9 : ∀ j, j < 24 → ∃ k, k ≤ 9 ∧ V j = nI k) (h0 : ∀ j, 4 * n ≤ j → j < 24 → V j = 0) : ∀ y, (∀ j, j < 24 → ∃ k, k ≤ 9 ∧ wyV (nI m) V y j = nI k) ∧ (∀ j, 4 * n ≤ j → j < 24 → wyV (nI m) V y j = 0)
  | 0 => ⟨h9, h0⟩
  | y + 1 => by
    obtain ⟨i1, i2⟩ := wy_ok hm h9 h0 y
    refine ⟨fun j hj => ?_, fun j g hj => ?_⟩
    · obtain ⟨k, hk, e⟩ := i1 j hj
      obtain ⟨-, k2, hk2, e2⟩ := nw_wt hk hm (bcn (wyV (nI m) V y) (j % 4))
      refine ⟨k2, hk2, ?_⟩
      show yW (nI m) _ _ 4 j = _
      simp only [yW, if_pos (show j % 4 < 4 ∧ j < 24 by omega), e, e2]
    · show yW (nI m) _ _ 4 j = _
      simp only [yW, if_pos (show j % 4 < 4 ∧ j < 24 by omega), i2 j g hj, nwF, if_pos (show (0 : Int32) ≤ 0 by decide)]
def same24 (V V' : Nat → Int32) : Prop := ∀ j, j < 24 → V j = V' j
theorem gy_cg {mem : Int32} {V V' : Nat → Int32} (h : same24 V V') : same24 (gyV mem V) (gyV mem V') := fun j hj => by
  have hb : ∀ s, bcn V s = bcn V' s := fun s => by
    unfold bcn cntB
    refine sumI_congr (fun i hi => ?_)
    have : hvs V i = hvs V' i := by
      unfold hvs
      rw [hvP_cg (fun t ht => h (4 * i + t) (by omega))]
    rw [this]
  show yW mem _ V 4 j = yW mem _ V' 4 j
  simp only [yW, if_pos (show j % 4 < 4 ∧ j < 24 by omega), h j hj, hb]
theorem nat_of {V : Nat → Int32} (h9 : ∀ j, j < 24 → ∃ k, k ≤ 9 ∧ V j = nI k) : ∀ j, j < 24 → V j = nI ((V j).toNatClampNeg) ∧ (V j).toNatClampNeg ≤ 9 := fun j hj => by
  obtain ⟨k, hk, e⟩ := h9 j hj
  rw [e, nI_clamp (by omega)]
  exact ⟨rfl, hk⟩
def ePk (V : Nat → Int32) (b : Nat) : Int64 := lN (pkN (fun j => (V j).toNatClampNeg) b 12)
theorem ePk_iff {V V' : Nat → Int32} (h9 : ∀ j, j < 24 → ∃ k, k ≤ 9 ∧ V j = nI k) (h9' : ∀ j, j < 24 → ∃ k, k ≤ 9 ∧ V' j = nI k) : (ePk V 0 = ePk V' 0 ∧ ePk V 12 = ePk V' 12) ↔ same24 V V' := by
  have a := nat_of h9
  have a' := nat_of h9'
  have lt : ∀ {U : Nat → Int32}, (∀ j, j < 24 → U j = nI ((U j).toNatClampNeg) ∧ (U j).toNatClampNeg ≤ 9) → ∀ b, b ≤ 12 → pkN (fun j => (U j).toNatClampNeg) b 12 < 2 ^ 63 := fun {U} hU b hb => by
    have e := pkN_lt (q := fun j => (U j).toNatClampNeg) (b := b) (i := 12) (fun j hj => by have := (hU (b + j) (by omega)).2; omega)
    have e3 : (16 : Nat) ^ 12 = 2 ^ 48 := by decide
    omega
  have bd : ∀ b, b ≤ 12 → ∀ j, j < 12 → (fun j => (V j).toNatClampNeg) (b + j) ≤ 15 ∧ (fun j => (V' j).toNatClampNeg) (b + j) ≤ 15 := fun b hb j hj => by
    have := (a (b + j) (by omega)).2
    have := (a' (b + j) (by omega)).2
    exact ⟨by show (V (b + j)).toNatClampNeg ≤ 15; omega, by show (V' (b + j)).toNatClampNeg ≤ 15; omega⟩
  unfold ePk
  rw [fb_lN_inj (lt a 0 (by omega)) (lt a' 0 (by omega)), fb_lN_inj (lt a 12 (by omega)) (lt a' 12 (by omega))]
  constructor
  · rintro ⟨e1, e2⟩ j hj
    rcases Nat.lt_or_ge j 12 with r | r
    · have := pkN_inj (bd 0 (by omega)) e1 j r
      rw [Nat.zero_add] at this
      rw [(a j hj).1, (a' j hj).1]
      exact congrArg nI this
    · have := pkN_inj (bd 12 (by omega)) e2 (j - 12) (by omega)
      rw [show 12 + (j - 12) = j by omega] at this
      rw [(a j hj).1, (a' j hj).1]
      exact congrArg nI this
  · intro h
    exact ⟨pkN_cg (fun j hj => by show (V (0 + j)).toNatClampNeg = (V' (0 + j)).toNatClampNeg; rw [h (0 + j) (by omega)]), pkN_cg (fun j hj => by show (V (12 + j)).toNatClampNeg = (V' (12 + j)).toNatClampNeg; rw [h (12 + j) (by omega)])⟩
/-- the first year like one, among those before -/
theorem yearLike_no {E L : Nat → Int64} {y : Nat} (hy : y < 201) (h : ∀ b, b < y → ¬ (E b = E y ∧ L b = L y)) : fX5_yearLike E L (nI y) = some (-9) := by
  unfold fX5_yearLike
  refine it1_go y (fun i => nI i) _ rfl (fun i hi self => ?_) (fun self => ?_) 100000 (by omega)
  · have ok : okx (nI i) 201 := okx_nI (by omega) (by omega)
    have ok2 : okx (nI y) 201 := okx_nI (by omega) (by omega)
    have g := h i hi
    simp only [X5_yearLike_S2, X5_yearLike_J41, if_neg (nI_ge (a := i) (b := y) hi (by omega)), gd_t ok, gd_t ok2, nI_clamp (show i < 2 ^ 31 by omega), nI_clamp (show y < 2 ^ 31 by omega), lg_cmp_eq, lets_def, Lp1]
    by_cases g1 : E i = E y
    · rw [if_pos g1, if_neg (fun g2 => g ⟨g1, g2⟩)]
    · rw [if_neg g1]
  · simp only [X5_yearLike_S2, if_pos (nI_le (Nat.le_refl y) (show y < 2 ^ 31 by omega))]
theorem yearLike_yes {E L : Nat → Int64} {y b : Nat} (hy : y < 201) (hb : b < y) (h : ∀ i, i < b → ¬ (E i = E y ∧ L i = L y)) (e : E b = E y ∧ L b = L y) : fX5_yearLike E L (nI y) = some (nI b) := by
  unfold fX5_yearLike
  refine it1_go b (fun i => nI i) _ rfl (fun i hi self => ?_) (fun self => ?_) 100000 (by omega)
  · have ok : okx (nI i) 201 := okx_nI (by omega) (by omega)
    have ok2 : okx (nI y) 201 := okx_nI (by omega) (by omega)
    have g := h i hi
    simp only [X5_yearLike_S2, X5_yearLike_J41, if_neg (nI_ge (a := i) (b := y) (by omega) (by omega)), gd_t ok, gd_t ok2, nI_clamp (show i < 2 ^ 31 by omega), nI_clamp (show y < 2 ^ 31 by omega), lg_cmp_eq, lets_def, Lp1]
    by_cases g1 : E i = E y
    · rw [if_pos g1, if_neg (fun g2 => g ⟨g1, g2⟩)]
    · rw [if_neg g1]
  · have ok : okx (nI b) 201 := okx_nI (by omega) (by omega)
    have ok2 : okx (nI y) 201 := okx_nI (by omega) (by omega)
    simp only [X5_yearLike_S2, if_neg (nI_ge (a := b) (b := y) hb (by omega)), gd_t ok, gd_t ok2, nI_clamp (show b < 2 ^ 31 by omega), nI_clamp (show y < 2 ^ 31 by omega), lg_cmp_eq, if_pos e.1, if_pos e.2]
theorem come_yes {m : Nat} {V : Nat → Int32} (h9 : ∀ y, ∀ j, j < 24 → ∃ k, k ≤ 9 ∧ wyV (nI m) V y j = nI k) {Y b : Nat} (hY : Y ≤ 200) (hb : b < Y) (hs : same24 (wyV (nI m) V b) (wyV (nI m) V Y)) (hno : ∀ y, y < Y → ∀ i, i < y → ¬ same24 (wyV (nI m) V i) (wyV (nI m) V y)) {la : Int32} :
    ∀ (d y f : Nat) (fst : Int32) (E L : Nat → Int64) (br : Nat → Int32), y + d = Y → d < f → (∀ i, i < y → E i = ePk (wyV (nI m) V i) 0) → (∀ i, i < y → L i = ePk (wyV (nI m) V i) 12) →
    ∃ c1 c2 c3 c4, it6 (X5_comeRound_S10 la (nI m)) f (nI y) fst (wyV (nI m) V y) E L br = some (1, nI b, nI (Y - b), c1, c2, c3, c4)
  | d, y, f, fst, E, L, br, hd, hf, hE, hL => by
    obtain ⟨f, rfl⟩ : ∃ k, f = k + 1 := ⟨f - 1, by omega⟩
    have ok : okx (nI y) 201 := okx_nI (by omega) (by omega)
    have n0 := nat_of (h9 y)
    have p1 : fX4_packed (wyV (nI m) V y) 0 = some (ePk (wyV (nI m) V y) 0) := packed_eq n0 (a := 0) (by omega)
    have p2 : fX4_packed (wyV (nI m) V y) 3 = some (ePk (wyV (nI m) V y) 12) := packed_eq n0 (a := 3) (by omega)
    have hE' : ∀ i, i ≤ y → vp_updL E y (ePk (wyV (nI m) V y) 0) i = ePk (wyV (nI m) V i) 0 := fun i hi => by
      rcases Nat.lt_or_ge i y with q | q
      · rw [pk_uLn (by omega)]; exact hE i q
      · rw [show i = y by omega, pk_uLs]
    have hL' : ∀ i, i ≤ y → vp_updL L y (ePk (wyV (nI m) V y) 12) i = ePk (wyV (nI m) V i) 12 := fun i hi => by
      rcases Nat.lt_or_ge i y with q | q
      · rw [pk_uLn (by omega)]; exact hL i q
      · rw [show i = y by omega, pk_uLs]
    have iff : ∀ i, i < y → ((vp_updL E y (ePk (wyV (nI m) V y) 0) i = vp_updL E y (ePk (wyV (nI m) V y) 0) y ∧ vp_updL L y (ePk (wyV (nI m) V y) 12) i = vp_updL L y (ePk (wyV (nI m) V y) 12) y) ↔ same24 (wyV (nI m) V i) (wyV (nI m) V y)) := fun i hi => by
      rw [hE' i (by omega), hE' y (by omega), hL' i (by omega), hL' y (by omega)]
      exact ePk_iff (h9 i) (h9 y)
    show ∃ c1 c2 c3 c4, X5_comeRound_S10 la (nI m) (it6 (X5_comeRound_S10 la (nI m)) f) (nI y) fst (wyV (nI m) V y) E L br = some (1, nI b, nI (Y - b), c1, c2, c3, c4)
    simp only [X5_comeRound_S10, if_neg (show ¬ (200 : Int32) < nI y from nI_nlt (a := 200) (b := y) (by omega) (by omega)), p1, p2, some_bind9, gd_t ok, nI_clamp (show y < 2 ^ 31 by omega), lets_def, Lp1]
    match d with
    | 0 =>
      have e : y = Y := by omega
      subst e
      have g := yearLike_yes (E := vp_updL E y (ePk (wyV (nI m) V y) 0)) (L := vp_updL L y (ePk (wyV (nI m) V y) 12)) (by omega) hb (fun i hi h => hno b hb i hi (fun j hj => (((iff i (by omega)).mp h) j hj).trans (hs j hj).symm)) ((iff b hb).mpr hs)
      have n9 : ¬ nI b = -9 := fun e => m9_ne b (by omega) e.symm
      simp only [g, some_bind9, if_neg n9, X5_comeRound_J63, lets_def, pk_sub (show b ≤ y by omega)]
      exact ⟨_, _, _, _, rfl⟩
    | d + 1 =>
      have g := yearLike_no (E := vp_updL E y (ePk (wyV (nI m) V y) 0)) (L := vp_updL L y (ePk (wyV (nI m) V y) 12)) (y := y) (by omega) (fun i hi h => hno y (by omega) i hi ((iff i hi).mp h))
      obtain ⟨br', eg⟩ := goOn_eq (mem := nI m) (V := wyV (nI m) V y) (br := br)
      simp only [g, some_bind9, if_pos, eg]
      exact come_yes h9 hY hb hs hno d (y + 1) f (-9) _ _ br' (by omega) (by omega) (fun i hi => hE' i (by omega)) (fun i hi => hL' i (by omega))
theorem come_no {m : Nat} {V : Nat → Int32} (h9 : ∀ y, ∀ j, j < 24 → ∃ k, k ≤ 9 ∧ wyV (nI m) V y j = nI k) (hno : ∀ y, y ≤ 200 → ∀ i, i < y → ¬ same24 (wyV (nI m) V i) (wyV (nI m) V y)) {la : Int32} :
    ∀ (d y f : Nat) (fst : Int32) (E L : Nat → Int64) (br : Nat → Int32), y + d = 201 → d < f → (∀ i, i < y → E i = ePk (wyV (nI m) V i) 0) → (∀ i, i < y → L i = ePk (wyV (nI m) V i) 12) →
    ∃ c0 c1 c2 c3 c4 c5, it6 (X5_comeRound_S10 la (nI m)) f (nI y) fst (wyV (nI m) V y) E L br = some (0, c0, c5, c1, c2, c3, c4)
  | 0, y, f, fst, E, L, br, hd, hf, hE, hL => by
    obtain ⟨f, rfl⟩ : ∃ k, f = k + 1 := ⟨f - 1, by omega⟩
    have e : y = 201 := by omega
    subst e
    show ∃ c0 c1 c2 c3 c4 c5, X5_comeRound_S10 la (nI m) (it6 (X5_comeRound_S10 la (nI m)) f) (nI 201) fst (wyV (nI m) V 201) E L br = some (0, c0, c5, c1, c2, c3, c4)
    simp only [X5_comeRound_S10, if_pos (show (200 : Int32) < nI 201 by decide)]
    exact ⟨_, _, _, _, _, _, rfl⟩
  | d + 1, y, f, fst, E, L, br, hd, hf, hE, hL => by
    obtain ⟨f, rfl⟩ : ∃ k, f = k + 1 := ⟨f - 1, by omega⟩
    have ok : okx (nI y) 201 := okx_nI (by omega) (by omega)
    have n0 := nat_of (h9 y)
    have p1 : fX4_packed (wyV (nI m) V y) 0 = some (ePk (wyV (nI m) V y) 0) := packed_eq n0 (a := 0) (by omega)
    have p2 : fX4_packed (wyV (nI m) V y) 3 = some (ePk (wyV (nI m) V y) 12) := packed_eq n0 (a := 3) (by omega)
    have hE' : ∀ i, i ≤ y → vp_updL E y (ePk (wyV (nI m) V y) 0) i = ePk (wyV (nI m) V i) 0 := fun i hi => by
      rcases Nat.lt_or_ge i y with q | q
      · rw [pk_uLn (by omega)]; exact hE i q
      · rw [show i = y by omega, pk_uLs]
    have hL' : ∀ i, i ≤ y → vp_updL L y (ePk (wyV (nI m) V y) 12) i = ePk (wyV (nI m) V i) 12 := fun i hi => by
      rcases Nat.lt_or_ge i y with q | q
      · rw [pk_uLn (by omega)]; exact hL i q
      · rw [show i = y by omega, pk_uLs]
    have iff : ∀ i, i < y → ((vp_updL E y (ePk (wyV (nI m) V y) 0) i = vp_updL E y (ePk (wyV (nI m) V y) 0) y ∧ vp_updL L y (ePk (wyV (nI m) V y) 12) i = vp_updL L y (ePk (wyV (nI m) V y) 12) y) ↔ same24 (wyV (nI m) V i) (wyV (nI m) V y)) := fun i hi => by
      rw [hE' i (by omega), hE' y (by omega), hL' i (by omega), hL' y (by omega)]
      exact ePk_iff (h9 i) (h9 y)
    have g := yearLike_no (E := vp_updL E y (ePk (wyV (nI m) V y) 0)) (L := vp_updL L y (ePk (wyV (nI m) V y) 12)) (y := y) (by omega) (fun i hi h => hno y (by omega) i hi ((iff i hi).mp h))
    obtain ⟨br', eg⟩ := goOn_eq (mem := nI m) (V := wyV (nI m) V y) (br := br)
    show ∃ c0 c1 c2 c3 c4 c5, X5_comeRound_S10 la (nI m) (it6 (X5_comeRound_S10 la (nI m)) f) (nI y) fst (wyV (nI m) V y) E L br = some (0, c0, c5, c1, c2, c3, c4)
    simp only [X5_comeRound_S10, if_neg (show ¬ (200 : Int32) < nI y from nI_nlt (a := 200) (b := y) (by omega) (by omega)), p1, p2, some_bind9, gd_t ok, nI_clamp (show y < 2 ^ 31 by omega), lets_def, Lp1, g, if_pos, eg]
    exact come_no h9 hno d (y + 1) f (-9) _ _ br' (by omega) (by omega) (fun i hi => hE' i (by omega)) (fun i hi => hL' i (by omega))
