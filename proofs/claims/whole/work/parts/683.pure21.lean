/-! the class's ways -/
def Wt9 (q : Nat → Nat) (h : Nat) : Nat := fb_sm (fun t => q (4 * h + t)) 4
def avN (q : Nat → Nat) (h T : Nat) : Nat := if Wt9 q h = 0 then 1 else fb_sm (fun s => if T.testBit s = true then 0 else q (4 * h + s)) 4
theorem avoid_eq {q : Nat → Nat} {V : Nat → Int32} (hV : ∀ j, j < 24 → V j = nI (q j)) (h9 : ∀ j, j < 24 → q j ≤ 9) {h T : Nat} (hh : h < 6) (hT : T < 16) : fX0_waysAvoiding V (nI h) (nI T) = some (lN (avN q h T)) := by
  have hq4 : ∀ t, t < 4 → (fun t => V (4 * h + t)) t = nI ((fun t => q (4 * h + t)) t) := fun t ht => hV _ (by omega)
  have hb : fb_sm (fun t => q (4 * h + t)) 4 ≤ 4 * 9 := fb_sm_bound (fun t ht => h9 _ (by omega))
  unfold fX0_waysAvoiding avN Wt9
  rw [together_eq hh, some_bind9, sumI_nI hq4]
  rcases Nat.eq_zero_or_pos (fb_sm (fun t => q (4 * h + t)) 4) with z | hp
  · rw [z, if_pos (show nI 0 = 0 from rfl), if_pos rfl]; rfl
  · rw [if_neg (nI_ne0 hp (by omega)), if_neg (by omega)]
    refine it2_go 4 (fun i => lN (fb_sm (fun s => if T.testBit s = true then 0 else q (4 * h + s)) i)) (fun i => nI i) _ rfl rfl (fun i hi self => ?_) (fun self => ?_) 100000 (by decide)
    · simp only [X0_waysAvoiding_S15, X0_waysAvoiding_J41, if_neg (show ¬ (4 : Int32) ≤ nI i from nI_ge (a := i) (b := 4) hi (by omega)), bit_is0 (show T < 64 by omega) (show i < 6 by omega), of_eq hh hi, hV (4 * h + i) (by omega), some_bind9, nI_l (show q (4 * h + i) < 2 ^ 31 by have := h9 (4 * h + i) (by omega); omega), lN_add, lets_def, Lp1, fb_sm_succ]
      cases hb2 : T.testBit i
      · simp
      · simp
    · simp only [X0_waysAvoiding_S15, if_pos (show (4 : Int32) ≤ nI 4 by decide)]
theorem fillL_succ (f g : Nat → Int64) (i : Nat) : vp_updL (fa_fill f g i) i (f i) = fa_fill f g (i + 1) := by
  funext j
  by_cases e : j = i
  · subst e; rw [pk_uLs, fa_fill_in (by omega)]
  · rw [pk_uLn e]
    unfold fa_fill
    exact if_iff9 (by omega)
theorem L16 (h T : Nat) : nI h * (16 : Int32) + nI T = nI (16 * h + T) := by
  have e : nI h * nI 16 = nI (h * 16) := pk_mul h 16
  rw [Nat.mul_comm] at e
  rw [show nI h * (16 : Int32) = nI (16 * h) from e, nI_add]
theorem L16' (h : Nat) : nI h * (16 : Int32) = nI (16 * h) := by
  have e : nI h * nI 16 = nI (h * 16) := pk_mul h 16
  rw [Nat.mul_comm] at e
  exact e
theorem prepare_eq {q : Nat → Nat} {V : Nat → Int32} (hV : ∀ j, j < 24 → V j = nI (q j)) (h9 : ∀ j, j < 24 → q j ≤ 9) {av rows : Nat → Int64} : fX0_prepare av rows V = some (fa_fill (fun j => lN (avN q (j / 16) (j % 16))) av 96, fa_fill (fun _ => 1) rows 16) := by
  unfold fX0_prepare
  refine it2_go 16 (fun i => nI i) (fun i => fa_fill (fun _ => 1) rows i) _ rfl (fa_fill_0 _ _).symm (fun i hi self => ?_) (fun self => ?_) 100000 (by decide)
  · have ok : okx (nI i) 112 := okx_nI (by omega) (by omega)
    simp only [X0_prepare_S2, if_neg (show ¬ (16 : Int32) ≤ nI i from nI_ge (a := i) (b := 16) hi (by omega)), gd_t ok, nI_clamp (show i < 2 ^ 31 by omega), lets_def, Lp1]
    rw [← fillL_succ]
  · simp only [X0_prepare_S2, X0_prepare_J21, if_pos (show (16 : Int32) ≤ nI 16 by decide)]
    refine it2_go 6 (fun h => nI h) (fun h => fa_fill (fun j => lN (avN q (j / 16) (j % 16))) av (16 * h)) _ rfl (fa_fill_0 _ _).symm (fun h hh self2 => ?_) (fun self2 => ?_) 100000 (by decide)
    · simp only [X0_prepare_S23, if_neg (show ¬ (6 : Int32) ≤ nI h from nI_ge (a := h) (b := 6) hh (by omega))]
      refine it2_go 16 (fun T => nI T) (fun T => fa_fill (fun j => lN (avN q (j / 16) (j % 16))) av (16 * h + T)) _ rfl rfl (fun T hT self3 => ?_) (fun self3 => ?_) 100000 (by decide)
      · have ok : okx (nI (16 * h + T)) 96 := okx_nI (by omega) (by omega)
        simp only [X0_prepare_S31, if_neg (show ¬ (16 : Int32) ≤ nI T from nI_ge (a := T) (b := 16) hT (by omega)), avoid_eq hV h9 hh hT, some_bind9, L16, gd_t ok, nI_clamp (show 16 * h + T < 2 ^ 31 by omega), lets_def, Lp1]
        rw [← Nat.add_assoc, ← fillL_succ, show (16 * h + T) / 16 = h by omega, show (16 * h + T) % 16 = T by omega]
      · simp only [X0_prepare_S31, X0_prepare_J60, if_pos (show (16 : Int32) ≤ nI 16 by decide), lets_def, Lp1]
        rfl
    · simp only [X0_prepare_S23, if_pos (show (6 : Int32) ≤ nI 6 by decide)]
def facD (q : Nat → Nat) (h x T : Nat) : Nat := if x = 9 then avN q h T else if T.testBit x = true then 0 else avN q h 0
theorem decide_eq {q : Nat → Nat} {av rows : Nat → Int64} {told : Nat → Int32} (hav : ∀ j, j < 96 → av j = lN (avN q (j / 16) (j % 16))) {h x : Nat} (hh : h < 6) (hx : x = 9 ∨ x < 4) :
    ∃ rows', fX0_decide av rows told (nI h) (nI x) = some (rows', upd told h (nI x)) ∧ (∀ T, T < 16 → rows' (16 * (h + 1) + T) = rows (16 * h + T) * lN (facD q h x T)) ∧ (∀ j, j < 16 * (h + 1) → rows' j = rows j) := by
  have ok6 : okx (nI h) 6 := okx_nI hh (by omega)
  refine ⟨fun j => if 16 * (h + 1) ≤ j ∧ j < 16 * (h + 1) + 16 then rows (j - 16) * lN (facD q h x (j % 16)) else rows j, ?_, fun T hT => ?_, fun j hj => if_neg (by omega)⟩
  · simp only [fX0_decide, gd_t ok6, nI_clamp (show h < 2 ^ 31 by omega), lets_def]
    refine it2_go 16 (fun T => nI T) (fun T => (fun j => if 16 * (h + 1) ≤ j ∧ j < 16 * (h + 1) + T then rows (j - 16) * lN (facD q h x (j % 16)) else rows j)) _ rfl ?_ (fun T hT self => ?_) (fun self => ?_) 100000 (by decide)
    · funext j; rw [if_neg (by omega)]
    · have ok : okx (nI (16 * h + T)) 96 := okx_nI (by omega) (by omega)
      have ok2 : okx (nI (16 * h + T)) 112 := okx_nI (by omega) (by omega)
      have ok3 : okx (nI (16 * (h + 1) + T)) 112 := okx_nI (by omega) (by omega)
      have ok4 : okx (nI (16 * h)) 96 := okx_nI (by omega) (by omega)
      have ea : av (16 * h + T) = lN (avN q h T) := by rw [hav _ (by omega), show (16 * h + T) / 16 = h by omega, show (16 * h + T) % 16 = T by omega]
      have ea0 : av (16 * h) = lN (avN q h 0) := by rw [hav _ (by omega), show (16 * h) / 16 = h by omega, show (16 * h) % 16 = 0 by omega]
      have st : ∀ v : Int64, v = rows (16 * h + T) * lN (facD q h x T) → vp_updL (fun j => if 16 * (h + 1) ≤ j ∧ j < 16 * (h + 1) + T then rows (j - 16) * lN (facD q h x (j % 16)) else rows j) (16 * (h + 1) + T) v = (fun j => if 16 * (h + 1) ≤ j ∧ j < 16 * (h + 1) + (T + 1) then rows (j - 16) * lN (facD q h x (j % 16)) else rows j) := fun v hv => by
        funext j
        by_cases e : j = 16 * (h + 1) + T
        · subst e
          rw [pk_uLs, if_pos (by omega), show (16 * (h + 1) + T) % 16 = T by omega, show 16 * (h + 1) + T - 16 = 16 * h + T by omega]
          exact hv
        · rw [pk_uLn e]
          exact if_iff9 (by omega)
      have er : (if 16 * (h + 1) ≤ 16 * h + T ∧ 16 * h + T < 16 * (h + 1) + T then rows (16 * h + T - 16) * lN (facD q h x ((16 * h + T) % 16)) else rows (16 * h + T)) = rows (16 * h + T) := if_neg (by omega)
      rcases hx with rfl | hx
      · simp only [X0_decide_S9, X0_decide_J58, if_neg (show ¬ (16 : Int32) ≤ nI T from nI_ge (a := T) (b := 16) hT (by omega)), L16, gd_t ok, nI_clamp (show 16 * h + T < 2 ^ 31 by omega), lets_def, if_pos (show nI 9 = 9 from rfl), gd_t ok2, Lp1, gd_t ok3, nI_clamp (show 16 * (h + 1) + T < 2 ^ 31 by omega), er, ea]
        rw [st]
        unfold facD
        rw [if_pos rfl]
      · have n9 : ¬ nI x = 9 := nI_ne (a := x) (b := 9) (by omega) (by omega) (by omega)
        simp only [X0_decide_S9, X0_decide_J58, X0_decide_J56, if_neg (show ¬ (16 : Int32) ≤ nI T from nI_ge (a := T) (b := 16) hT (by omega)), L16', nI_add, gd_t ok, gd_t ok4, nI_clamp (show 16 * h + T < 2 ^ 31 by omega), nI_clamp (show 16 * h < 2 ^ 31 by omega), lets_def, if_neg n9, gd_t ok2, Lp1, gd_t ok3, nI_clamp (show 16 * (h + 1) + T < 2 ^ 31 by omega), er, ea0, bit_is (show T < 64 by omega) (show x < 6 by omega)]
        by_cases hb : T.testBit x = true
        · rw [if_pos hb, st]
          unfold facD
          rw [if_neg (by omega), if_pos hb]
          rfl
        · rw [if_neg hb, st]
          unfold facD
          rw [if_neg (by omega), if_neg hb]
    · simp only [X0_decide_S9, if_pos (show (16 : Int32) ≤ nI 16 by decide)]
  · show (if 16 * (h + 1) ≤ 16 * (h + 1) + T ∧ 16 * (h + 1) + T < 16 * (h + 1) + 16 then rows (16 * (h + 1) + T - 16) * lN (facD q h x ((16 * (h + 1) + T) % 16)) else rows (16 * (h + 1) + T)) = _
    rw [if_pos (by omega), show (16 * (h + 1) + T) % 16 = T by omega, show 16 * (h + 1) + T - 16 = 16 * h + T by omega]
/-- a row of told houses, and its factors so far -/
def cPr (q : Nat → Nat) (r : Nat → Nat) : Nat → Nat → Nat
  | 0, _ => 1
  | k + 1, T => cPr q r k T * facD q k (r k) T
def RowsOk (q r : Nat → Nat) (h : Nat) (rows : Nat → Int64) : Prop := ∀ k, k ≤ h → ∀ T, T < 16 → rows (16 * k + T) = lN (cPr q r k T)
def updN (r : Nat → Nat) (h x : Nat) : Nat → Nat := fun k => if k = h then x else r k
theorem cPr_cg {q r r' : Nat → Nat} : ∀ {k : Nat}, (∀ i, i < k → r i = r' i) → ∀ T, cPr q r k T = cPr q r' k T
  | 0, _, _ => rfl
  | k + 1, h, T => by rw [cPr, cPr, cPr_cg (fun i hi => h i (by omega)) T, h k (by omega)]
theorem decide_ok {q r : Nat → Nat} {av rows : Nat → Int64} {told : Nat → Int32} (hav : ∀ j, j < 96 → av j = lN (avN q (j / 16) (j % 16))) {h x : Nat} (hh : h < 6) (hx : x = 9 ∨ x < 4) (hR : RowsOk q r h rows) (hT : ∀ k, k < h → told k = nI (r k)) :
    ∃ rows' told', fX0_decide av rows told (nI h) (nI x) = some (rows', told') ∧ RowsOk q (updN r h x) (h + 1) rows' ∧ (∀ k, k < h + 1 → told' k = nI (updN r h x k)) := by
  obtain ⟨rows', e1, e2, e3⟩ := decide_eq (rows := rows) (told := told) hav hh hx
  have hc : ∀ k, k ≤ h → ∀ T, cPr q (updN r h x) k T = cPr q r k T := fun k hk T => cPr_cg (fun i hi => if_neg (by omega)) T
  refine ⟨rows', upd told h (nI x), e1, fun k hk T hT2 => ?_, fun k hk => ?_⟩
  · rcases Nat.lt_or_ge h k with g | g
    · have e : k = h + 1 := by omega
      subst e
      rw [e2 T hT2, hR h (Nat.le_refl h) T hT2, lN_mul, cPr, hc h (Nat.le_refl h) T]
      have : updN r h x h = x := if_pos rfl
      rw [this]
    · rw [e3 _ (by omega), hR k g T hT2, hc k g T]
  · by_cases e : k = h
    · subst e
      rw [pk_us]
      have : updN r k x k = x := if_pos rfl
      rw [this]
    · rw [pk_un e, hT k (by omega)]
      have : updN r h x k = r k := if_neg e
      rw [this]
theorem lN_int (a : Nat) : lN a = Int64.ofInt (a : Int) := by
  show Int64.ofNat a = _
  exact (Int64.ofInt_eq_ofNat).symm
theorem bitc : ∀ T, T < 16 → fJ6_bitCount_0f7a4 (nI T) = some (nI (pcN T)) := by decide +kernel
theorem rem2 : ∀ T, T < 16 → ((nI (pcN T) - nI (pcN T) / (2 : Int32) * (2 : Int32)) = 0 ↔ pcN T % 2 = 0) := by decide +kernel
theorem toAll_eq {rows : Nat → Int64} {p : Nat → Nat} (hp : ∀ T, T < 16 → rows (96 + T) = lN (p T)) : fX0_waysToAll rows = some (Int64.ofInt (fb_si (fun T => sg9 T * ((p T : Nat) : Int)) 16)) := by
  unfold fX0_waysToAll
  refine it2_go 16 (fun i => Int64.ofInt (fb_si (fun T => sg9 T * ((p T : Nat) : Int)) i)) (fun i => nI i) _ rfl rfl (fun i hi self => ?_) (fun self => ?_) 100000 (by decide)
  · have ok : okx (nI (96 + i)) 112 := okx_nI (by omega) (by omega)
    have e96 : (96 : Int32) + nI i = nI (96 + i) := nI_add 96 i
    simp only [X0_waysToAll_S4, X0_waysToAll_J39, if_neg (show ¬ (16 : Int32) ≤ nI i from nI_ge (a := i) (b := 16) hi (by omega)), e96, gd_t ok, nI_clamp (show 96 + i < 2 ^ 31 by omega), bitc i hi, some_bind9, rem2 i hi, lets_def, Lp1, hp i hi, fb_si_succ]
    unfold sg9
    by_cases e : pcN i % 2 = 0
    · simp only [if_pos e, Int.one_mul, Int64.ofInt_add, lN_int]
    · simp only [if_neg e, Int64.ofInt_add, lN_int, Int.neg_mul, Int.one_mul, Int64.ofInt_neg]
  · simp only [X0_waysToAll_S4, if_pos (show (16 : Int32) ≤ nI 16 by decide)]
/-! the row's weights -/
def idl9 (q r : Nat → Nat) (h : Nat) : Bool := decide (r h = 9 ∧ Wt9 q h = 0)
def cw9 (q r : Nat → Nat) (h s : Nat) : Nat := if r h = 9 then q (4 * h + s) else if r h = s then Wt9 q h else 0
def valid9 (q r : Nat → Nat) (h : Nat) : Prop := r h = 9 ∨ (r h < 4 ∧ 0 < q (4 * h + r h))
theorem fac_eq {q r : Nat → Nat} {k T : Nat} (hT : T < 16) (hv : valid9 q r k) : facD q k (r k) T = facI (idl9 q r) (cw9 q r) k T := by
  unfold facD facI
  rcases hv with e | ⟨e, hp⟩
  · rw [if_pos e]
    unfold avN
    by_cases z : Wt9 q k = 0
    · rw [if_pos z, if_pos (by simp [idl9, e, z])]
    · rw [if_neg z, if_neg (by simp [idl9, z])]
      exact fb_sm_cong (fun s _ => by simp only [cw9, if_pos e])
  · have n9 : ¬ r k = 9 := by omega
    have hw : 0 < Wt9 q k := Nat.lt_of_lt_of_le hp (le_sm e)
    have ea : avN q k 0 = Wt9 q k := by
      unfold avN
      rw [if_neg (by omega)]
      exact fb_sm_cong (fun s _ => by simp)
    have hid : idl9 q r k = false := by simp [idl9, n9]
    rw [if_neg n9, hid, if_neg (show ¬ false = true by decide), ea]
    have hc : ∀ s, cw9 q r k s = if r k = s then Wt9 q k else 0 := fun s => by simp only [cw9, if_neg n9]
    simp only [hc, sm4]
    rcases (show r k = 0 ∨ r k = 1 ∨ r k = 2 ∨ r k = 3 by omega) with g | g | g | g <;> rw [g] <;> simp
theorem cPr_Pd {q r : Nat → Nat} {T : Nat} (hT : T < 16) : ∀ (d k : Nat), (∀ i, k ≤ i → i < k + d → valid9 q r i) → cPr q r (k + d) T = cPr q r k T * Pd9 (idl9 q r) (cw9 q r) d k T
  | 0, k, _ => by rw [Pd9, Nat.mul_one]; rfl
  | d + 1, k, hv => by
    have e := cPr_Pd hT d (k + 1) (fun i h1 h2 => hv i (by omega) (by omega))
    rw [show k + (d + 1) = k + 1 + d by omega, e, cPr, Pd9, fac_eq hT (hv k (Nat.le_refl k) (by omega)), Nat.mul_assoc]
theorem sum_all {q r : Nat → Nat} (hv : ∀ i, i < 6 → valid9 q r i) : ∀ d, d ≤ 6 → cPr q r d 0 = aH q d
  | 0, _ => rfl
  | d + 1, hd => by
    have e := sum_all hv d (by omega)
    rw [cPr, aH, e]
    have g := hv d (by omega)
    show aH q d * facD q d (r d) 0 = if Wt9 q d = 0 then aH q d else aH q d * Wt9 q d
    unfold facD
    have ea : avN q d 0 = if Wt9 q d = 0 then 1 else Wt9 q d := by
      unfold avN
      by_cases z : Wt9 q d = 0
      · rw [if_pos z, if_pos z]
      · rw [if_neg z, if_neg z]
        exact fb_sm_cong (fun s _ => by simp)
    have ef : (if r d = 9 then avN q d 0 else if Nat.testBit 0 (r d) = true then 0 else avN q d 0) = avN q d 0 := by simp
    rw [ef, ea]
    by_cases z : Wt9 q d = 0
    · rw [if_pos z, if_pos z, Nat.mul_one]
    · rw [if_neg z, if_neg z]
/-- what the class counts, for a row -/
theorem row_ways {q r : Nat → Nat} {rows : Nat → Int64} (hR : RowsOk q r 6 rows) (hv : ∀ i, i < 6 → valid9 q r i) : fX0_waysToAll rows = some (lN (vV (idl9 q r) (cw9 q r) 6 0 0)) ∧ fX0_waysInAll rows = some (lN (aH q 6)) ∧ vV (idl9 q r) (cw9 q r) 6 0 0 ≤ aH q 6 := by
  have eP : ∀ T, T < 16 → cPr q r 6 T = Pd9 (idl9 q r) (cw9 q r) 6 0 T := fun T hT => by
    have := cPr_Pd hT 6 0 (fun i _ h2 => hv i (by omega))
    rw [Nat.zero_add] at this
    rw [this, cPr, Nat.one_mul]
  have hx : (((vV (idl9 q r) (cw9 q r) 6 0 0 : Nat)) : Int) = fb_si (fun T => sg9 T * ((cPr q r 6 T : Nat) : Int)) 16 := by
    rw [inc_exc 6 0 0 (by omega)]
    refine fb_si_cong (fun T hT => ?_)
    rw [eP T hT]
    simp [ind9]
  refine ⟨?_, ?_, ?_⟩
  · rw [toAll_eq (p := fun T => cPr q r 6 T) (fun T hT => hR 6 (Nat.le_refl 6) T hT), ← hx, ← lN_int]
  · unfold fX0_waysInAll
    have : (96 : Int32).toNatClampNeg = 96 := rfl
    rw [this, ← sum_all hv 6 (Nat.le_refl 6), ← hR 6 (Nat.le_refl 6) 0 (by omega)]
  · have := vV_le (id9 := idl9 q r) (w := cw9 q r) 6 0 0
    rw [← eP 0 (by omega), sum_all hv 6 (Nat.le_refl 6)] at this
    exact this
