/-! village: what both make of a text that is well, and of one that is not -/
theorem empty4_eq {w : Nat → Int32} : fX4_empty w = some (fillI w 0 24) := by
  unfold fX4_empty
  refine it2_go 24 (fun i => nI i) (fun i => fillI w 0 i) _ rfl fill_0.symm (fun i hi self => ?_) (fun self => ?_) 100000 (by decide)
  · have ok : okx (nI i) 24 := okx_nI hi (by omega)
    simp only [X4_empty_S2, if_neg (show ¬ (24 : Int32) ≤ nI i from nI_ge (a := i) (b := 24) hi (by omega)), gd_t ok, nI_clamp (show i < 2 ^ 31 by omega), lets_def, Lp1, fill_step]
  · simp only [X4_empty_S2, if_pos (show (24 : Int32) ≤ nI 24 by decide)]
theorem empty3_eq {w e b : Nat → Int32} : fX3_empty w e b = some (0, 0, 0, 1, fillI w 0 24, fillI e 0 6, fillI b 0 6) := by
  unfold fX3_empty
  rw [empty4_eq, some_bind9]
  refine it3_go 6 (fun i => nI i) (fun i => fillI e 0 i) (fun i => fillI b 0 i) _ rfl fill_0.symm fill_0.symm (fun i hi self => ?_) (fun self => ?_) 100000 (by decide)
  · have ok : okx (nI i) 6 := okx_nI hi (by omega)
    simp only [X3_empty_S9, if_neg (show ¬ (6 : Int32) ≤ nI i from nI_ge (a := i) (b := 6) hi (by omega)), gd_t ok, nI_clamp (show i < 2 ^ 31 by omega), lets_def, Lp1, fill_step]
  · simp only [X3_empty_S9, X3_empty_J35, if_pos (show (6 : Int32) ≤ nI 6 by decide)]
/-- the front of a row filled up from a place on -/
def shD (f : Nat → Int32) (k i : Nat) : Nat → Int32 := fun j => if j < i then f (k + j) else f j
theorem sh_0 {f : Nat → Int32} {k : Nat} : shD f k 0 = f := by
  funext j; simp only [shD, if_neg (Nat.not_lt_zero j)]
theorem sh_at {f : Nat → Int32} {k i : Nat} : shD f k i (k + i) = f (k + i) := by
  simp only [shD, if_neg (show ¬ k + i < i by omega)]
theorem sh_in {f : Nat → Int32} {k i j : Nat} (h : j < i) : shD f k i j = f (k + j) := by simp only [shD, if_pos h]
theorem sh_step {f : Nat → Int32} {k i : Nat} : upd (shD f k i) i (shD f k i (k + i)) = shD f k (i + 1) := by
  rw [sh_at]
  funext j
  by_cases e : j = i
  · subst e; rw [pk_us]; simp only [shD, if_pos (Nat.lt_succ_self j)]
  · rw [pk_un e]
    simp only [shD]
    by_cases h : j < i
    · rw [if_pos h, if_pos (by omega)]
    · rw [if_neg h, if_neg (by omega)]
def lwV (L : Nat → Int32) (j : Nat) : Int32 := if L (3 + j) = -9 then (if j = 2 then 1 else 0) else L (3 + j)
def lwF (L : Nat → Int32) (i : Nat) : Nat → Int32 := fun j => if j < i then lwV L j else L j
theorem lw_0 {L : Nat → Int32} : lwF L 0 = L := by
  funext j; simp only [lwF, if_neg (Nat.not_lt_zero j)]
theorem lw_at {L : Nat → Int32} {i : Nat} : lwF L i (3 + i) = L (3 + i) := by
  simp only [lwF, if_neg (show ¬ 3 + i < i by omega)]
theorem lw_in {L : Nat → Int32} {i j : Nat} (h : j < i) : lwF L i j = lwV L j := by simp only [lwF, if_pos h]
theorem lw_step {L : Nat → Int32} {i : Nat} {v : Int32} (hv : v = lwV L i) : upd (lwF L i) i v = lwF L (i + 1) := by
  rw [hv]
  funext j
  by_cases e : j = i
  · subst e; rw [pk_us]; simp only [lwF, if_pos (Nat.lt_succ_self j)]
  · rw [pk_un e]
    simp only [lwF]
    by_cases h : j < i
    · rw [if_pos h, if_pos (by omega)]
    · rw [if_neg h, if_neg (by omega)]
def bgS (n : Nat) (W S : Nat → Int32) (i : Nat) : Nat → Int32 := fun j => if j < i then (if j < 4 * n then W j else 0) else S j
theorem bg_step {n i : Nat} {W S : Nat → Int32} {v : Int32} (hv : v = if i < 4 * n then W i else 0) : upd (bgS n W S i) i v = bgS n W S (i + 1) := by
  rw [hv]
  funext j
  by_cases e : j = i
  · subst e; rw [pk_us]; simp only [bgS, if_pos (Nat.lt_succ_self j)]
  · rw [pk_un e]
    simp only [bgS]
    by_cases h : j < i
    · rw [if_pos h, if_pos (show j < i + 1 by omega)]
    · rw [if_neg h, if_neg (show ¬ j < i + 1 by omega)]
theorem begins_eq {n : Nat} (hn : n ≤ 6) {W S : Nat → Int32} : fX7_begins (nI n) W S = some (clrS (upd (bgS n W S 24) 65 0) 41) := by
  unfold fX7_begins
  refine it2_go 24 (fun i => nI i) (fun i => bgS n W S i) _ rfl ?_ (fun i hi self => ?_) (fun self => ?_) 100000 (by decide)
  · funext j; simp only [bgS, if_neg (Nat.not_lt_zero j)]
  · have ok : okx (nI i) 48 := okx_nI (by omega) (by omega)
    have ok2 : okx (nI i) 67 := okx_nI (by omega) (by omega)
    rcases Nat.lt_or_ge i (4 * n) with g | g
    · simp only [X7_begins_S2, X7_begins_J33, if_neg (show ¬ (24 : Int32) ≤ nI i from nI_ge (a := i) (b := 24) hi (by omega)), L4m, if_neg (show ¬ nI (4 * n) ≤ nI i from nI_ge g (by omega)), gd_t ok, gd_t ok2, nI_clamp (show i < 2 ^ 31 by omega), lets_def, Lp1, bg_step (W := W) (S := S) (show W i = if i < 4 * n then W i else 0 by rw [if_pos g])]
    · simp only [X7_begins_S2, X7_begins_J33, if_neg (show ¬ (24 : Int32) ≤ nI i from nI_ge (a := i) (b := 24) hi (by omega)), L4m, if_pos (show nI (4 * n) ≤ nI i from nI_le g (by omega)), gd_t ok2, nI_clamp (show i < 2 ^ 31 by omega), lets_def, Lp1, bg_step (W := W) (S := S) (show (0 : Int32) = if i < 4 * n then W i else 0 by rw [if_neg (by omega)])]
  · simp only [X7_begins_S2, X7_begins_J40, if_pos (show (24 : Int32) ≤ nI 24 by decide), lets_def, clears_eq, some_bind9]
    rfl
theorem nar0 : vp_nar .boolean 0 = 0 := by decide
theorem m_done {n t H : Nat} (hH : H ≤ 6) {houses a b c d : Int32} {s ik W E B L : Nat → Int32} : X7_village_J163 (nI t) houses s ik (nI n) a b c d (-1) (nI H) W E B L = some (nI n, 0, 0, a, b, c, d, -1, nI H, nI H, shD W 24 24, shD E 6 6, shD B 6 6, lwF L 3, clrS (upd (bgS H (shD W 24 24) s 24) 65 0) 41, upd (upd ik 0 0) 1 0) := by
  have c0 : (0 : Int32).toNatClampNeg = 0 := rfl
  have c1 : (1 : Int32).toNatClampNeg = 1 := rfl
  have e3 : ∀ w e f, X7_village_J259 s ik (nI n) a b c d (-1) (nI H) L w e f = some (nI n, 0, 0, a, b, c, d, -1, nI H, nI H, w, e, f, lwF L 3, clrS (upd (bgS H w s 24) 65 0) 41, upd (upd ik 0 0) 1 0) := fun w e f => by
    unfold X7_village_J259
    refine it2_go 3 (fun i => nI i) (fun i => lwF L i) _ rfl lw_0.symm (fun i hi self => ?_) (fun self => ?_) 100000 (by decide)
    · have ok : okx (nI (3 + i)) 6 := okx_nI (by omega) (by omega)
      have ok2 : okx (nI i) 6 := okx_nI (by omega) (by omega)
      have c2 : nI i = 2 ↔ i = 2 := nI_eq (a := i) (b := 2) (by omega) (by omega)
      simp only [X7_village_S261, X7_village_J305, if_neg (show ¬ (3 : Int32) ≤ nI i from nI_ge (a := i) (b := 3) hi (by omega)), L3, gd_t ok, gd_t ok2, nI_clamp (show i < 2 ^ 31 by omega), nI_clamp (show 3 + i < 2 ^ 31 by omega), lw_at, c2, lets_def, Lp1]
      by_cases y : L (3 + i) = -9
      · by_cases z : i = 2
        · rw [if_pos y, if_pos z, lw_step (by unfold lwV; rw [if_pos y, if_pos z])]
        · rw [if_pos y, if_neg z, lw_step (by unfold lwV; rw [if_pos y, if_neg z])]
      · rw [if_neg y, lw_step (by unfold lwV; rw [if_neg y])]
    · simp only [X7_village_S261, X7_village_J312, if_pos (show (3 : Int32) ≤ nI 3 by decide), c0, c1, nar0, lets_def, begins_eq hH, some_bind9]
  have e2 : ∀ w, X7_village_J215 s ik (nI n) a b c d (-1) (nI H) E B L w = some (nI n, 0, 0, a, b, c, d, -1, nI H, nI H, w, shD E 6 6, shD B 6 6, lwF L 3, clrS (upd (bgS H w s 24) 65 0) 41, upd (upd ik 0 0) 1 0) := fun w => by
    unfold X7_village_J215
    refine it3_go 6 (fun i => nI i) (fun i => shD E 6 i) (fun i => shD B 6 i) _ rfl sh_0.symm sh_0.symm (fun i hi self => ?_) (fun self => ?_) 100000 (by decide)
    · have ok : okx (nI (6 + i)) 12 := okx_nI (by omega) (by omega)
      have ok2 : okx (nI i) 12 := okx_nI (by omega) (by omega)
      simp only [X7_village_S217, if_neg (show ¬ (6 : Int32) ≤ nI i from nI_ge (a := i) (b := 6) hi (by omega)), L6, gd_t ok, gd_t ok2, nI_clamp (show i < 2 ^ 31 by omega), nI_clamp (show 6 + i < 2 ^ 31 by omega), sh_step, lets_def, Lp1]
    · simp only [X7_village_S217, if_pos (show (6 : Int32) ≤ nI 6 by decide), e3]
  unfold X7_village_J163
  rw [well_m, some_bind9, if_neg one_ne]
  refine it2_go 24 (fun i => nI i) (fun i => shD W 24 i) _ rfl sh_0.symm (fun i hi self => ?_) (fun self => ?_) 100000 (by decide)
  · have ok : okx (nI (24 + i)) 48 := okx_nI (by omega) (by omega)
    have ok2 : okx (nI i) 48 := okx_nI (by omega) (by omega)
    simp only [X7_village_S188, if_neg (show ¬ (24 : Int32) ≤ nI i from nI_ge (a := i) (b := 24) hi (by omega)), L24, gd_t ok, gd_t ok2, nI_clamp (show i < 2 ^ 31 by omega), nI_clamp (show 24 + i < 2 ^ 31 by omega), sh_step, lets_def, Lp1]
  · simp only [X7_village_S188, if_pos (show (24 : Int32) ≤ nI 24 by decide), e2]
def l9F (L : Nat → Int32) (i : Nat) : Nat → Int32 := fun j => if 3 ≤ j ∧ j < 3 + i then -9 else L j
theorem m_first {t : Nat} {value houses : Int32} {tx W E B L s ik : Nat → Int32} : fX7_village (nI t) value houses tx W E B L s ik = X7_village_J44 (nI t) value houses tx W E B s ik (l9F L 3) := by
  unfold fX7_village
  refine it2_go 3 (fun i => nI (3 + i)) (fun i => l9F L i) _ rfl ?_ (fun i hi self => ?_) (fun self => ?_) 100000 (by decide)
  · funext j; simp only [l9F, if_neg (show ¬ (3 ≤ j ∧ j < 3 + 0) by omega)]
  · have ok : okx (nI (3 + i)) 6 := okx_nI (by omega) (by omega)
    have st : upd (l9F L i) (3 + i) (-9) = l9F L (i + 1) := by
      funext j
      by_cases e : j = 3 + i
      · subst e; rw [pk_us]; simp only [l9F, if_pos (show 3 ≤ 3 + i ∧ 3 + i < 3 + (i + 1) by omega)]
      · rw [pk_un e]
        simp only [l9F]
        by_cases h : 3 ≤ j ∧ j < 3 + i
        · rw [if_pos h, if_pos (show 3 ≤ j ∧ j < 3 + (i + 1) by omega)]
        · rw [if_neg h, if_neg (show ¬ (3 ≤ j ∧ j < 3 + (i + 1)) by omega)]
    have e1 : nI (3 + i) + 1 = nI (3 + (i + 1)) := Lp1 (3 + i)
    simp only [X7_village_S24, if_neg (show ¬ (6 : Int32) ≤ nI (3 + i) from nI_ge (a := 3 + i) (b := 6) (by omega) (by omega)), gd_t ok, nI_clamp (show 3 + i < 2 ^ 31 by omega), lets_def, e1, st]
  · simp only [X7_village_S24, if_pos (show (6 : Int32) ≤ nI (3 + 3) by decide)]
theorem neg10 {g : Nat} (hg : g ≤ 300) : ¬ (0 : Int32) ≤ -10 - nI g := by
  have e1 : (-10 : Int32).toInt = -10 := by decide
  have e2 : (nI g).toInt = (g : Int) := nI_toInt (by omega)
  have e3 := fb_subI (x := -10) (y := nI g) (by rw [e1, e2]; omega) (by rw [e1, e2]; omega)
  rw [Int32.le_iff_toInt_le, e3, e1, e2]
  show ¬ (0 : Int) ≤ _
  omega
theorem begin1_eq {w b l p h z : Nat → Int32} : fX1_begin w b l p h z = some (0, 0, va_cpy z w 0 0 24, fillI b (-9) 6, fillI l 0 4, fillI p 0 24, fillI h 0 6) := by
  simp only [fX1_begin, fX4_copyFrom, clearTable_eq, lets_def, some_bind9]
theorem t9_ex {t : Nat} {tx tb : Nat → Int32} (ht : t ≤ 300) (h : ∀ i, i < t → ∃ b, b < 256 ∧ tx i = nI b ∧ tb i = (nI b).toInt8.toInt32) : ∃ b, T9 t b tx tb := by
  have ex : ∀ i, ∃ b : Nat, i < t → (b < 256 ∧ tx i = nI b ∧ tb i = (nI b).toInt8.toInt32) := fun i => by
    by_cases hi : i < t
    · obtain ⟨b, e⟩ := h i hi
      exact ⟨b, fun _ => e⟩
    · exact ⟨0, fun z => absurd z hi⟩
  obtain ⟨b, hb⟩ := Classical.axiomOfChoice ex
  exact ⟨b, ht, hb⟩
theorem rl_val {o k hi j : Nat} {x d : Int32} {L : Nat → Int32} (hd : d = if j = 2 then 1 else 0) (hd9 : ∃ v, v ≤ hi ∧ d = nI v) (hhi : hi < 100) (h : Rul9 o k x (L (3 + j)) d hi) : x = lwV L j ∧ ∃ v, v ≤ hi ∧ lwV L j = nI v := by
  unfold lwV
  rcases h with ⟨h1, h2, h3⟩ | ⟨h1, h2, v, h3, h4⟩
  · rw [if_pos h2, h3, ← hd]
    exact ⟨rfl, hd9⟩
  · rw [if_neg (by rw [h4]; exact m9n (by omega)), h2, h4]
    exact ⟨rfl, v, h3, rfl⟩
theorem nI0 : nI 0 = 0 := rfl
theorem vl_M {t : Nat} {AT PL KK : Nat → Nat} {value houses val : Int32} {tx W E B L s ik : Nat → Int32} (e0 : fX7_advances (nI t) (nI 0) value tx = some (nI (AT 0), tkM (KK 0), nI (PL 0), val)) : fX7_village (nI t) value houses tx W E B L s ik = it11 (X7_village_S48 (nI t) houses tx s ik) 100000 (nI 0) (nI (AT 0)) (tkM (KK 0)) (nI (PL 0)) val (-1) (nI 0) W E B (l9F L 3) := by
  rw [m_first]
  unfold X7_village_J44
  rw [nI0] at e0
  rw [e0, some_bind9, nI0]
theorem vl_X {t : Nat} {pl tk nu ta : Int32} {by9 wc ea ba nb : Nat → Int32} : fX2_read (nI t) pl tk nu ta by9 wc ea ba nb = it17 (X2_read_S26 (nI t) by9) 100000 (nI 0) (nI 0) (nI 0) pl tk nu 0 ta (nI 0) (nI 0) 0 0 1 (fillI wc 0 24) (fillI ea 0 6) (fillI ba 0 6) nb := by
  unfold fX2_read
  rw [empty3_eq, some_bind9, nI0]
theorem fx_tr {r res : Option (Int32 × Int32 × Int32 × Int32 × Int32 × Int32 × Int32 × Int32 × Int32 × Int32 × Int32 × Int32 × (Nat → Int32) × (Nat → Int32) × (Nat → Int32) × (Nat → Int32))} (h : r = res) {g : Nat} (hf : FaultX res g) : FaultX r g := by rw [h]; exact hf
theorem fm_tr {t : Nat} {r res : Option (Int32 × Int32 × Int32 × Int32 × Int32 × Int32 × Int32 × Int32 × Int32 × Int32 × (Nat → Int32) × (Nat → Int32) × (Nat → Int32) × (Nat → Int32) × (Nat → Int32) × (Nat → Int32))} (h : r = res) {g : Nat} {houses : Int32} {s ik E B L : Nat → Int32} (hf : MFault t res g houses s ik E B L) : MFault t r g houses s ik E B L := by rw [h]; exact hf
theorem ex_tr {r res : Option (Int32 × Int32 × Int32 × Int32 × Int32 × Int32 × Int32 × Int32 × Int32 × Int32 × Int32 × Int32 × (Nat → Int32) × (Nat → Int32) × (Nat → Int32) × (Nat → Int32))} (h : r = res) {n H : Nat} {la pr me : Int32} {wc ea ba : Nat → Int32} (hf : EndsX res n H la pr me wc ea ba) : EndsX r n H la pr me wc ea ba := by rw [h]; exact hf
theorem em_tr {t : Nat} {r res : Option (Int32 × Int32 × Int32 × Int32 × Int32 × Int32 × Int32 × Int32 × Int32 × Int32 × (Nat → Int32) × (Nat → Int32) × (Nat → Int32) × (Nat → Int32) × (Nat → Int32) × (Nat → Int32))} (h : r = res) {n H : Nat} {houses : Int32} {s ik W E B L : Nat → Int32} (hf : EndsM t res n H houses s ik W E B L) (hH : H ≤ 6) : ∃ a b c d, r = some (nI n, 0, 0, a, b, c, d, -1, nI H, nI H, shD W 24 24, shD E 6 6, shD B 6 6, lwF L 3, clrS (upd (bgS H (shD W 24 24) s 24) 65 0) 41, upd (upd ik 0 0) 1 0) := by
  obtain ⟨a, b, c, d, e⟩ := hf
  exact ⟨a, b, c, d, h.trans (e.trans (m_done hH))⟩
theorem sim_village : SimOp_village Alike9 := by
  unfold SimOp_village
  intro z_text_length z_text_bytes z_village_houses z_village_law z_village_pride z_village_memory z_village_eats z_village_barred z_now_eaten z_now_year z_now_lot z_now_weights_cells z_now_brought z_now_left z_now_spoons z_now_health z_firstImage_eaten z_firstImage_year z_firstImage_lot z_firstImage_weights_cells z_firstImage_brought z_firstImage_left z_firstImage_spoons z_firstImage_health z_secondImage_eaten z_secondImage_year z_secondImage_lot z_secondImage_weights_cells z_secondImage_brought z_secondImage_left z_secondImage_spoons z_secondImage_health z_keptImages z_asked zb_trace zb_text zb_typed zb_eats zb_barred zb_laws zb_houses zb_s zb_kept zb_isKept z_text_place z_text_token z_text_number z_text_taken z_text_draft_weights_cells z_text_draft_eats z_text_draft_barred z_text_numbers z_village_weights_cells zb_value zb_weight hs9
  obtain ⟨n, hn, hT, hV, hN, hK, hA⟩ := hs9
  obtain ⟨t, ht, rfl, rfl, hb⟩ := hT
  obtain ⟨b, h9⟩ := t9_ex ht hb
  obtain ⟨AT, PL, KK, VV, hTk⟩ := toks_ex h9
  obtain ⟨val, hval, eadv⟩ := m_adv hTk (Nat.zero_le t) zb_value
  have hD : DR 0 0 0 0 1 (fillI z_text_draft_weights_cells 0 24) (fillI z_text_draft_eats 0 6) (fillI z_text_draft_barred 0 6) zb_weight zb_eats zb_barred (l9F zb_laws 3) := by
    refine ⟨by omega, by omega, fun i hi => absurd hi (by omega), fun i _ hi => fill_in hi, fun i hi => absurd hi (by omega), fun i _ hi => fill_in hi, fun i hi => absurd hi (by omega), fun i _ hi => fill_in hi, Or.inl ⟨by decide, rfl, rfl⟩, Or.inl ⟨by decide, rfl, rfl⟩, Or.inl ⟨by decide, rfl, rfl⟩⟩
  have eM : fX7_village (nI t) zb_value zb_houses zb_text zb_weight zb_eats zb_barred zb_laws zb_s zb_isKept = it11 (X7_village_S48 (nI t) zb_houses zb_text zb_s zb_isKept) 100000 (nI 0) (nI (AT 0)) (tkM (KK 0)) (nI (PL 0)) val (-1) (nI 0) zb_weight zb_eats zb_barred (l9F zb_laws 3) := vl_M eadv
  have eX : fX2_read (nI t) z_text_place z_text_token z_text_number z_text_taken z_text_bytes z_text_draft_weights_cells z_text_draft_eats z_text_draft_barred z_text_numbers = it17 (X2_read_S26 (nI t) z_text_bytes) 100000 (nI 0) (nI 0) (nI 0) z_text_place z_text_token z_text_number 0 z_text_taken (nI 0) (nI 0) 0 0 1 (fillI z_text_draft_weights_cells 0 24) (fillI z_text_draft_eats 0 6) (fillI z_text_draft_barred 0 6) z_text_numbers := vl_X
  have low9 : ∀ i, i < 3 → l9F zb_laws 3 i = zb_laws i := fun i hi => by
    simp only [l9F, if_neg (show ¬ (3 ≤ i ∧ i < 3 + 3) by omega)]
  rcases reads9 hTk ht (houses := zb_houses) (s := zb_s) (ik := zb_isKept) (E0 := zb_eats) (B0 := zb_barred) (L0 := zb_laws) 300 0 0 0 0 0 100000 100000 z_text_place z_text_token z_text_number z_text_taken 0 0 1 val _ _ _ z_text_numbers _ _ _ _ (by omega) (by omega) (by omega) (by omega) (by omega) (by omega) hD hval (fun i _ => rfl) (fun i _ => rfl) low9 with ⟨g, hg, fX, fM⟩ | ⟨n', H', o', la', pr', me', wc', ea', ba', W', E', B', L', hn', hD', eXe, eMe⟩
  · obtain ⟨a1, a2, a3, a4, a5, a6, a7, a8, a9, c1, c2, c3, c4, c5, c6, e1⟩ := fx_tr eX fX
    obtain ⟨a, b', c, d, h, W', E', B', L', e2, l1, l2, l3⟩ := fm_tr eM fM
    obtain ⟨v9, hv9⟩ : ∃ v, v = -10 - nI g := ⟨_, rfl⟩
    have nv9 : ¬ (0 : Int32) ≤ v9 := by rw [hv9]; exact neg10 hg
    rw [← hv9] at e1 e2
    clear hv9
    have e3 : fX6_village z_keptImages (nI t) z_text_place z_text_token z_text_number z_text_taken z_text_bytes z_text_draft_weights_cells z_text_draft_eats z_text_draft_barred z_text_numbers z_village_houses z_village_law z_village_pride z_village_memory z_village_weights_cells z_village_eats z_village_barred z_now_eaten z_now_year z_now_weights_cells z_now_brought z_now_left z_now_spoons z_now_health = some (v9, z_keptImages, nI t, a1, a2, a3, a4, a5, a6, a7, a8, a9, c1, c2, c3, c4, c5, c6, z_village_houses, z_village_law, z_village_pride, z_village_memory, z_village_weights_cells, z_village_eats, z_village_barred, z_now_eaten, z_now_year, z_now_weights_cells, z_now_brought, z_now_left, z_now_spoons, z_now_health) := by
      simp only [fX6_village, e1, some_bind9, if_neg nv9]
    refine ⟨_, _, e3, e2, rfl, al_of n hn ⟨t, ht, rfl, rfl, hb⟩ ?_ hN hK hA⟩
    obtain ⟨v1, v2, ⟨v3, v3'⟩, ⟨v4, v4'⟩, ⟨v5, v5'⟩, v6, v7, v8, v9⟩ := hV
    refine ⟨v1, v2, ⟨?_, ?_⟩, ⟨?_, ?_⟩, ⟨?_, ?_⟩, fun i hi => ?_, v7, fun i hi => ?_, v9⟩
    · show z_village_law = L' 0
      rw [l3 0 (by omega)]; exact v3
    · show ∃ k, k ≤ 2 ∧ L' 0 = nI k
      rw [l3 0 (by omega)]; exact v3'
    · show z_village_pride = L' 1
      rw [l3 1 (by omega)]; exact v4
    · show ∃ k, k ≤ 9 ∧ L' 1 = nI k
      rw [l3 1 (by omega)]; exact v4'
    · show z_village_memory = L' 2
      rw [l3 2 (by omega)]; exact v5
    · show ∃ k, k ≤ 9 ∧ L' 2 = nI k
      rw [l3 2 (by omega)]; exact v5'
    · show z_village_eats i = E' i ∧ ∃ k, 1 ≤ k ∧ k ≤ 9 ∧ E' i = nI k
      rw [l1 i (by omega)]; exact v6 i hi
    · show z_village_barred i = B' i ∧ ∃ k, k < 16 ∧ B' i = nI k
      rw [l2 i (by omega)]; exact v8 i hi
  · obtain ⟨a1, a2, a3, a4, a5, a6, a7, nb', e1⟩ := ex_tr eX eXe
    obtain ⟨a, b', c, d, e2⟩ := em_tr eM eMe hD'.1
    obtain ⟨d1, d2, d3, d4, d5, d6, d7, d8, r6, r7, r8⟩ := hD'
    have e3 : fX6_village z_keptImages (nI t) z_text_place z_text_token z_text_number z_text_taken z_text_bytes z_text_draft_weights_cells z_text_draft_eats z_text_draft_barred z_text_numbers z_village_houses z_village_law z_village_pride z_village_memory z_village_weights_cells z_village_eats z_village_barred z_now_eaten z_now_year z_now_weights_cells z_now_brought z_now_left z_now_spoons z_now_health = some (nI n', 0, 0, a1, a2, a3, a4, a5, a6, a7, nI H', la', pr', me', wc', ea', ba', nb', nI H', la', pr', me', va_cpy wc' z_village_weights_cells 0 0 24, va_cpy ea' z_village_eats 0 0 6, va_cpy ba' z_village_barred 0 0 6, 0, 0, va_cpy (va_cpy wc' z_village_weights_cells 0 0 24) z_now_weights_cells 0 0 24, fillI z_now_brought (-9) 6, fillI z_now_left 0 4, fillI z_now_spoons 0 24, fillI z_now_health 0 6) := by
      simp only [fX6_village, e1, some_bind9, if_pos (show (0 : Int32) ≤ nI n' from nI_pos' (by omega)), fX3_copyFrom, fX4_copyFrom, begin1_eq, lets_def]
    obtain ⟨q1, q1'⟩ := rl_val (L := L') (j := 0) rfl ⟨0, by omega, rfl⟩ (by omega) r6
    obtain ⟨q2, q2'⟩ := rl_val (L := L') (j := 1) rfl ⟨0, by omega, rfl⟩ (by omega) r7
    obtain ⟨q3, q3'⟩ := rl_val (L := L') (j := 2) rfl ⟨1, by omega, rfl⟩ (by omega) r8
    have S24 : ∀ i, i < 24 → clrS (upd (bgS H' (shD W' 24 24) zb_s 24) 65 0) 41 i = if i < 4 * H' then W' (24 + i) else 0 := fun i hi => by
      rw [clr_out (Or.inl hi), pk_un (by omega)]
      simp only [bgS, if_pos hi, sh_in hi]
    have Swc : ∀ i, i < 24 → wc' i = if i < 4 * H' then W' (24 + i) else 0 := fun i hi => by
      rcases Nat.lt_or_ge i (4 * H') with g | g
      · rw [if_pos g]; exact (d3 i g).1
      · rw [if_neg (by omega)]; exact d4 i g hi
    obtain ⟨w1, w2, w3, w4, w5, w6, w7, w8, w9, y1, y2, y3, y4, y5⟩ := hN
    refine ⟨_, _, e3, e2, rfl, al_of H' d1 ⟨0, by omega, rfl, rfl, fun i hi => absurd hi (by omega)⟩ ⟨rfl, rfl, ⟨?_, ?_⟩, ⟨?_, ?_⟩, ⟨?_, ?_⟩, fun i hi => ?_, fun i h1 h2 => ?_, fun i hi => ?_, fun i h1 h2 => ?_⟩ (now_year d1 (fun i hi => ?_) (fun i hi => ?_) (fun i h1 hi => ?_) (fun i h1 h2 => ?_) (fun i hi => fill_in hi) (fun i hi => fill_in hi) (fun i hi => fill_in hi) (fun i hi => fill_in hi) ?_ ?_) ⟨0, 0, by omega, by omega, rfl, rfl, rfl, fun h => absurd h (by omega), fun h => absurd h (by omega)⟩ hA⟩
    · show la' = lwF L' 3 0
      rw [lw_in (by omega)]; exact q1
    · show ∃ k, k ≤ 2 ∧ lwF L' 3 0 = nI k
      rw [lw_in (by omega)]; exact q1'
    · show pr' = lwF L' 3 1
      rw [lw_in (by omega)]; exact q2
    · show ∃ k, k ≤ 9 ∧ lwF L' 3 1 = nI k
      rw [lw_in (by omega)]; exact q2'
    · show me' = lwF L' 3 2
      rw [lw_in (by omega)]; exact q3
    · show ∃ k, k ≤ 9 ∧ lwF L' 3 2 = nI k
      rw [lw_in (by omega)]; exact q3'
    · show va_cpy ea' z_village_eats 0 0 6 i = shD E' 6 6 i ∧ ∃ k, 1 ≤ k ∧ k ≤ 9 ∧ shD E' 6 6 i = nI k
      rw [cpy0_in (by omega), sh_in (by omega), ← (d5 i hi).1]
      exact ⟨rfl, (d5 i hi).2⟩
    · show va_cpy ea' z_village_eats 0 0 6 i = 0
      rw [cpy0_in h2]; exact d6 i h1 h2
    · show va_cpy ba' z_village_barred 0 0 6 i = shD B' 6 6 i ∧ ∃ k, k < 16 ∧ shD B' 6 6 i = nI k
      rw [cpy0_in (by omega), sh_in (by omega), ← (d7 i hi).1]
      exact ⟨rfl, (d7 i hi).2⟩
    · show va_cpy ba' z_village_barred 0 0 6 i = 0
      rw [cpy0_in h2]; exact d8 i h1 h2
    · show va_cpy (va_cpy wc' z_village_weights_cells 0 0 24) z_now_weights_cells 0 0 24 i = clrS (upd (bgS H' (shD W' 24 24) zb_s 24) 65 0) 41 i
      rw [cpy0_in hi, cpy0_in hi, S24 i hi]; exact Swc i hi
    · show ∃ k, k ≤ 9 ∧ clrS (upd (bgS H' (shD W' 24 24) zb_s 24) 65 0) 41 i = nI k
      rw [S24 i hi, ← Swc i hi]
      rcases Nat.lt_or_ge i (4 * H') with g | g
      · exact (d3 i g).2
      · rw [d4 i g hi]; exact ⟨0, by omega, rfl⟩
    · show clrS (upd (bgS H' (shD W' 24 24) zb_s 24) 65 0) 41 i = 0
      rw [S24 i hi, if_neg (by omega)]
    · show clrS (upd (bgS H' (shD W' 24 24) zb_s 24) 65 0) 41 i = _
      exact clr_in h1 h2
    · show z_now_lot = clrS (upd (bgS H' (shD W' 24 24) zb_s 24) 65 0) 41 66
      rw [clr_out (Or.inr (by omega)), pk_un (by omega)]
      exact y5
    · show (0 : Int32) = clrS (upd (bgS H' (shD W' 24 24) zb_s 24) 65 0) 41 65
      rw [clr_out (Or.inr (by omega)), pk_us]
