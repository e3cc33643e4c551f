/-! the reference reads the text -/
def Vok (KK VV : Nat → Nat) (q : Nat) (val : Int32) : Prop := (KK q = 2 → val = nI (VV q)) ∧ (4 ≤ KK q → val = nI (KK q - 4))
def BadR (res : Option (Int32 × Int32 × Int32 × Int32 × Int32 × Int32 × (Nat → Int32) × (Nat → Int32) × (Nat → Int32) × (Nat → Int32))) (g : Nat) (E B L : Nat → Int32) : Prop := ∃ a b c d h W' E' B' L', res = some (a, b, c, d, nI g, h, W', E', B', L') ∧ (∀ i, i < 6 → E' i = E i) ∧ (∀ i, i < 6 → B' i = B i) ∧ (∀ i, i < 3 → L' i = L i)
def GoodR (AT PL KK VV : Nat → Nat) (res : Option (Int32 × Int32 × Int32 × Int32 × Int32 × Int32 × (Nat → Int32) × (Nat → Int32) × (Nat → Int32) × (Nat → Int32))) (q h : Nat) (W E B L : Nat → Int32) : Prop := ∃ val, Vok KK VV q val ∧ res = some (nI (AT q), tkM (KK q), nI (PL q), val, -1, nI h, W, E, B, L)
def nOK (AT KK VV : Nat → Nat) (it H p i : Nat) : Prop := KK (ps9 AT p i) = 2 ∧ okV it H i (VV (ps9 AT p i))
def fillF (AT VV : Nat → Nat) (H p : Nat) (W : Nat → Int32) (k : Nat) : Nat → (Nat → Int32)
  | 0 => W
  | e + 1 => fillF AT VV H p (upd W (24 + 4 * H + k) (nI (VV (ps9 AT p k)))) (k + 1) e
theorem L6 (h : Nat) : (6 : Int32) + nI h = nI (6 + h) := nI_add 6 h
theorem L3 (h : Nat) : (3 : Int32) + nI h = nI (3 + h) := nI_add 3 h
theorem well_m : fX7_isWell (-1) = some 1 := by decide
theorem well_g {g : Nat} (hg : g < 2 ^ 31) : fX7_isWell (nI g) = some 0 := by
  unfold fX7_isWell
  rw [if_pos (nI_pos' hg)]
theorem tk2 : ∀ k, k < 9 → (tkM k = 2 ↔ k = 2) ∧ (tkM k = 3 ↔ k = 3) ∧ (tkM k = 0 ↔ k = 0) ∧ (tkM k = 1 ↔ 4 ≤ k) := by decide +kernel
section
variable {t : Nat} {tx tb : Nat → Int32} {AT PL KK VV : Nat → Nat}
theorem kk8 {q : Nat} (hT : Toks9 t tx tb AT PL KK VV) (hq : q ≤ t) : KK q < 9 := by
  have := (hT q hq).2.2.2.2.2.1
  omega
theorem pl_le {q : Nat} (hT : Toks9 t tx tb AT PL KK VV) (hq : q ≤ t) : PL q ≤ t := by
  obtain ⟨t1, t2, t3, -⟩ := hT q hq
  omega
theorem m_adv {q : Nat} (hT : Toks9 t tx tb AT PL KK VV) (hq : q ≤ t) (val : Int32) : ∃ val', Vok KK VV q val' ∧ fX7_advances (nI t) (nI q) val tx = some (nI (AT q), tkM (KK q), nI (PL q), val') := by
  obtain ⟨t1, t2, t3, t4, t5, t6, t7, t8, t9⟩ := hT q hq
  obtain ⟨v, e1, e2, e3⟩ := t9 val
  exact ⟨v, ⟨e2, e3⟩, e1⟩
theorem m_take {q : Nat} (hT : Toks9 t tx tb AT PL KK VV) (hq : q ≤ t) (hk : KK q ≠ 0) (val : Int32) {x : Int32} (hx : ¬ x = 0) : ∃ val', Vok KK VV (AT q) val' ∧ fX7_takes (nI t) (nI (AT q)) (tkM (KK q)) (nI (PL q)) val (-1) tx x = some (val, nI (AT (AT q)), tkM (KK (AT q)), nI (PL (AT q)), val', -1) := by
  obtain ⟨g1, g2⟩ := at_gt hT hq hk
  obtain ⟨v, h1, e⟩ := m_adv hT g2 val
  refine ⟨v, h1, ?_⟩
  simp only [fX7_takes, well_m, some_bind9, if_neg one_ne, if_neg hx, e]
theorem m_take0 {a b c d : Int32} : fX7_takes (nI t) a b c d (-1) tx 0 = some (0, a, b, c, d, c) := by
  simp only [fX7_takes, well_m, some_bind9, if_neg one_ne, if_true]
theorem m_takeB {a b c d x : Int32} {g : Nat} (hg : g < 2 ^ 31) : fX7_takes (nI t) a b c d (nI g) tx x = some (0, a, b, c, d, nI g) := by
  simp only [fX7_takes, well_g hg, some_bind9, if_true]
theorem m_num {q : Nat} (hT : Toks9 t tx tb AT PL KK VV) (hq : q ≤ t) {val lo hi : Int32} {ok : Prop} (hv : Vok KK VV q val) (hh : KK q = 2 → VV q ≤ 99 → (ok ↔ (¬ nI (VV q) < lo ∧ ¬ hi < nI (VV q)))) :
    (KK q = 2 ∧ ok → ∃ val', Vok KK VV (AT q) val' ∧ fX7_number (nI t) (nI (AT q)) (tkM (KK q)) (nI (PL q)) val (-1) tx lo hi = some (nI (VV q), nI (AT (AT q)), tkM (KK (AT q)), nI (PL (AT q)), val', -1)) ∧
    (¬ (KK q = 2 ∧ ok) → fX7_number (nI t) (nI (AT q)) (tkM (KK q)) (nI (PL q)) val (-1) tx lo hi = some (0, nI (AT q), tkM (KK q), nI (PL q), val, nI (PL q))) := by
  have tk := tk2 (KK q) (kk8 hT hq)
  have v99 : KK q = 2 → VV q ≤ 99 := (hT q hq).2.2.2.2.2.2.1
  constructor
  · rintro ⟨h2, ho⟩
    obtain ⟨w1, w2⟩ := (hh h2 (v99 h2)).mp ho
    have ev := hv.1 h2
    subst ev
    obtain ⟨v, h1, e⟩ := m_take hT hq (show KK q ≠ 0 by omega) (nI (VV q)) one_ne
    refine ⟨v, h1, ?_⟩
    simp only [fX7_number, if_pos (tk.1.mpr h2), X7_number_J26, in_t w1 w2, some_bind9, if_neg one_ne, e]
  · intro h
    by_cases h2 : KK q = 2
    · have ev := hv.1 h2
      subst ev
      have e0 : fX7_in (nI (VV q)) lo hi = some 0 := by
        by_cases w1 : nI (VV q) < lo
        · exact in_f1 w1
        · by_cases w2 : hi < nI (VV q)
          · exact in_f2 w2
          · exact absurd ⟨h2, (hh h2 (v99 h2)).mpr ⟨w1, w2⟩⟩ h
      simp only [fX7_number, if_pos (tk.1.mpr h2), e0, some_bind9, if_true, X7_number_J25, X7_number_J26, m_take0]
    · simp only [fX7_number, if_neg (fun z => h2 (tk.1.mp z)), X7_number_J25, X7_number_J26, m_take0, some_bind9]
theorem m_numB {a b c d lo hi : Int32} {g : Nat} (hg : g < 2 ^ 31) : fX7_number (nI t) a b c d (nI g) tx lo hi = some (0, a, b, c, d, nI g) := by
  have h26 : ∀ x, X7_number_J26 (nI t) a b c d (nI g) tx x = some (0, a, b, c, d, nI g) := fun x => by simp only [X7_number_J26, m_takeB hg, some_bind9]
  have h25 : X7_number_J25 (nI t) a b c d (nI g) tx = some (0, a, b, c, d, nI g) := h26 0
  by_cases h : b = 2
  · obtain ⟨r, er⟩ : ∃ r, fX7_in d lo hi = some r := by
      unfold fX7_in
      by_cases w1 : d < lo
      · exact ⟨0, if_pos w1⟩
      · by_cases w2 : hi < d
        · exact ⟨0, by rw [if_neg w1, if_pos w2]⟩
        · exact ⟨1, by rw [if_neg w1, if_neg w2]⟩
    simp only [fX7_number, if_pos h, er, some_bind9, h26, h25, ite_self]
  · simp only [fX7_number, if_neg h, h25]
theorem ps_le {p m : Nat} (hT : Toks9 t tx tb AT PL KK VV) (hp : p ≤ t) (h : ∀ i, i < m → KK (ps9 AT p i) = 2) : ∀ i, i ≤ m → ps9 AT p i ≤ t ∧ p + i ≤ ps9 AT p i
  | 0, _ => ⟨hp, Nat.le_refl _⟩
  | i + 1, hi => by
    obtain ⟨a, b⟩ := ps_le hT hp h i (by omega)
    obtain ⟨c, d⟩ := at_gt hT a (show KK (ps9 AT p i) ≠ 0 by rw [h i (by omega)]; decide)
    rw [ps_add]
    exact ⟨d, by omega⟩
theorem m_houseB {H : Nat} (hH : H < 6) {E B L : Nat → Int32} {a b c d : Int32} {g : Nat} (hg : g < 2 ^ 31) : ∀ (e k f : Nat) (W : Nat → Int32), k + e = 4 → e < f → ∃ W', it7 (X7_readsItem_S6 (nI t) (nI H) tx E B L) f (nI k) a b c d (nI g) W = some (a, b, c, d, nI g, nI (H + 1), W', upd E (6 + H) 0, upd B (6 + H) 0, L)
  | 0, k, f, W, hk, hf => by
    obtain ⟨f, rfl⟩ : ∃ m, f = m + 1 := ⟨f - 1, by omega⟩
    have e4 : k = 4 := by omega
    subst e4
    refine ⟨W, ?_⟩
    show X7_readsItem_S6 (nI t) (nI H) tx E B L _ (nI 4) a b c d (nI g) W = _
    have ok : okx (nI (6 + H)) 12 := okx_nI (by omega) (by omega)
    simp only [X7_readsItem_S6, X7_readsItem_J40, if_pos (show (4 : Int32) ≤ nI 4 by decide), m_numB hg, some_bind9, L6, gd_t ok, nI_clamp (show 6 + H < 2 ^ 31 by omega), lets_def, Lp1]
  | e + 1, k, f, W, hk, hf => by
    obtain ⟨f, rfl⟩ : ∃ m, f = m + 1 := ⟨f - 1, by omega⟩
    have ok : okx (nI (24 + 4 * H + k)) 48 := okx_nI (by omega) (by omega)
    obtain ⟨W', e'⟩ := m_houseB hH (E := E) (B := B) (L := L) (a := a) (b := b) (c := c) (d := d) hg e (k + 1) f (upd W (24 + 4 * H + k) 0) (by omega) (by omega)
    refine ⟨W', ?_⟩
    show X7_readsItem_S6 (nI t) (nI H) tx E B L _ (nI k) a b c d (nI g) W = _
    simp only [X7_readsItem_S6, if_neg (show ¬ (4 : Int32) ≤ nI k from nI_ge (a := k) (b := 4) (by omega) (by omega)), m_numB hg, some_bind9, L4m, L24, nI_add, gd_t ok, nI_clamp (show 24 + 4 * H + k < 2 ^ 31 by omega), lets_def, Lp1]
    exact e'
theorem rng9 {v : Nat} (hv : v ≤ 99) (lo hi : Nat) (hl : lo ≤ 99) (hh : hi ≤ 99) : (¬ nI v < nI lo ∧ ¬ nI hi < nI v) ↔ (lo ≤ v ∧ v ≤ hi) := by
  rw [nI_ltI (by omega) (by omega), nI_ltI (by omega) (by omega)]
  omega
theorem m_house {p H m : Nat} (hT : Toks9 t tx tb AT PL KK VV) (ht : t ≤ 300) (hH : H < 6) {E B L : Nat → Int32} (hm5 : m ≤ 5) (hm : ∀ i, i < m → nOK AT KK VV 4 H p i) (hm' : m < 5 → ¬ nOK AT KK VV 4 H p m) (hp : p ≤ t) : ∀ (e k f : Nat) (W : Nat → Int32) (val : Int32), k + e = 4 → e < f → k ≤ m → Vok KK VV (ps9 AT p k) val →
    (m < 5 → BadR (it7 (X7_readsItem_S6 (nI t) (nI H) tx E B L) f (nI k) (nI (AT (ps9 AT p k))) (tkM (KK (ps9 AT p k))) (nI (PL (ps9 AT p k))) val (-1) W) (PL (ps9 AT p m)) E B L) ∧
    (m = 5 → GoodR AT PL KK VV (it7 (X7_readsItem_S6 (nI t) (nI H) tx E B L) f (nI k) (nI (AT (ps9 AT p k))) (tkM (KK (ps9 AT p k))) (nI (PL (ps9 AT p k))) val (-1) W) (ps9 AT p 5) (H + 1) (fillF AT VV H p W k e) (upd E (6 + H) (nI (VV (ps9 AT p 4)))) (upd B (6 + H) 0) L)
  | 0, k, f, W, val, hk, hf, hkm, hv => by
    obtain ⟨f, rfl⟩ : ∃ m, f = m + 1 := ⟨f - 1, by omega⟩
    have e4 : k = 4 := by omega
    subst e4
    have q4 := (ps_le hT hp (fun i hi => (hm i hi).1) 4 hkm).1
    have plq := pl_le hT q4
    have ok : okx (nI (6 + H)) 12 := okx_nI (by omega) (by omega)
    have step : ∀ r, fX7_number (nI t) (nI (AT (ps9 AT p 4))) (tkM (KK (ps9 AT p 4))) (nI (PL (ps9 AT p 4))) val (-1) tx 1 9 = some r → it7 (X7_readsItem_S6 (nI t) (nI H) tx E B L) (f + 1) (nI 4) (nI (AT (ps9 AT p 4))) (tkM (KK (ps9 AT p 4))) (nI (PL (ps9 AT p 4))) val (-1) W = some (r.2.1, r.2.2.1, r.2.2.2.1, r.2.2.2.2.1, r.2.2.2.2.2, nI (H + 1), W, upd E (6 + H) r.1, upd B (6 + H) 0, L) := fun r er => by
      show X7_readsItem_S6 (nI t) (nI H) tx E B L _ (nI 4) (nI (AT (ps9 AT p 4))) (tkM (KK (ps9 AT p 4))) (nI (PL (ps9 AT p 4))) val (-1) W = _
      simp only [X7_readsItem_S6, X7_readsItem_J40, if_pos (show (4 : Int32) ≤ nI 4 by decide), er, some_bind9, L6, gd_t ok, nI_clamp (show 6 + H < 2 ^ 31 by omega), lets_def, Lp1]
    have okv : okV 4 H 4 (VV (ps9 AT p 4)) ↔ (1 ≤ VV (ps9 AT p 4) ∧ VV (ps9 AT p 4) ≤ 9) := by
      unfold okV
      rw [if_pos rfl, if_pos rfl]
    obtain ⟨n1, n2⟩ := m_num hT q4 (lo := 1) (hi := 9) (ok := okV 4 H 4 (VV (ps9 AT p 4))) hv (fun _ h9 => okv.trans (rng9 h9 1 9 (by omega) (by omega)).symm)
    constructor
    · intro h
      have em : m = 4 := by omega
      subst em
      refine ⟨_, _, _, _, _, _, _, _, _, step _ (n2 (hm' h)), fun i hi => pk_un (by omega), fun i hi => pk_un (by omega), fun i hi => rfl⟩
    · intro h
      obtain ⟨v', h1, e1⟩ := n1 (hm 4 (by omega))
      exact ⟨v', h1, step _ e1⟩
  | e + 1, k, f, W, val, hk, hf, hkm, hv => by
    obtain ⟨f, rfl⟩ : ∃ m, f = m + 1 := ⟨f - 1, by omega⟩
    have qk := (ps_le hT hp (fun i hi => (hm i hi).1) k hkm).1
    have plq := pl_le hT qk
    have ok : okx (nI (24 + 4 * H + k)) 48 := okx_nI (by omega) (by omega)
    have okv : okV 4 H k (VV (ps9 AT p k)) ↔ VV (ps9 AT p k) ≤ 9 := by
      unfold okV
      rw [if_pos rfl, if_neg (by omega)]
    have step : ∀ r, fX7_number (nI t) (nI (AT (ps9 AT p k))) (tkM (KK (ps9 AT p k))) (nI (PL (ps9 AT p k))) val (-1) tx 0 9 = some r → it7 (X7_readsItem_S6 (nI t) (nI H) tx E B L) (f + 1) (nI k) (nI (AT (ps9 AT p k))) (tkM (KK (ps9 AT p k))) (nI (PL (ps9 AT p k))) val (-1) W = it7 (X7_readsItem_S6 (nI t) (nI H) tx E B L) f (nI (k + 1)) r.2.1 r.2.2.1 r.2.2.2.1 r.2.2.2.2.1 r.2.2.2.2.2 (upd W (24 + 4 * H + k) r.1) := fun r er => by
      show X7_readsItem_S6 (nI t) (nI H) tx E B L _ (nI k) (nI (AT (ps9 AT p k))) (tkM (KK (ps9 AT p k))) (nI (PL (ps9 AT p k))) val (-1) W = _
      simp only [X7_readsItem_S6, if_neg (show ¬ (4 : Int32) ≤ nI k from nI_ge (a := k) (b := 4) (by omega) (by omega)), er, some_bind9, L4m, L24, nI_add, gd_t ok, nI_clamp (show 24 + 4 * H + k < 2 ^ 31 by omega), lets_def, Lp1]
    obtain ⟨n1, n2⟩ := m_num hT qk (lo := 0) (hi := 9) (ok := okV 4 H k (VV (ps9 AT p k))) hv (fun _ h9 => okv.trans ((rng9 h9 0 9 (by omega) (by omega)).trans (by omega)).symm)
    rcases Nat.lt_or_ge k m with g | g
    · obtain ⟨v', h1, e1⟩ := n1 (hm k g)
      rw [step _ e1]
      have ih := m_house hT ht hH (E := E) (B := B) (L := L) hm5 hm hm' hp e (k + 1) f (upd W (24 + 4 * H + k) (nI (VV (ps9 AT p k)))) v' (by omega) (by omega) (by omega) (by rw [ps_add]; exact h1)
      rw [ps_add] at ih
      exact ih
    · have em : m = k := by omega
      subst em
      constructor
      · intro h
        obtain ⟨W', e'⟩ := m_houseB (t := t) (tx := tx) hH (E := E) (B := B) (L := L) (a := nI (AT (ps9 AT p m))) (b := tkM (KK (ps9 AT p m))) (c := nI (PL (ps9 AT p m))) (d := val) (g := PL (ps9 AT p m)) (by omega) e (m + 1) f (upd W (24 + 4 * H + m) 0) (by omega) (by omega)
        refine ⟨_, _, _, _, _, _, _, _, _, (step _ (n2 (hm' h))).trans e', fun i hi => pk_un (by omega), fun i hi => pk_un (by omega), fun i hi => rfl⟩
      · intro h
        omega
end
