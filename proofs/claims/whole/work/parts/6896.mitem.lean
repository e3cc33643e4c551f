/-! the reference's item -/
def MFault (t : Nat) (res : Option (Int32 × Int32 × Int32 × Int32 × Int32 × Int32 × Int32 × Int32 × Int32 × Int32 × (Nat → Int32) × (Nat → Int32) × (Nat → Int32) × (Nat → Int32) × (Nat → Int32) × (Nat → Int32))) (g : Nat) (houses : Int32) (s ik E B L : Nat → Int32) : Prop := ∃ a b c d h W' E' B' L', res = some (-10 - nI g, 0, nI t, a, b, c, d, nI g, houses, h, W', E', B', L', s, ik) ∧ (∀ i, i < 6 → E' i = E i) ∧ (∀ i, i < 6 → B' i = B i) ∧ (∀ i, i < 3 → L' i = L i)
def mayM (k H : Nat) (L : Nat → Int32) : Prop := (k = 4 ∧ H < 6) ∨ k = 5 ∨ (6 ≤ k ∧ L (k - 3) = -9)
section
variable {t : Nat} {tx tb : Nat → Int32} {AT PL KK VV : Nat → Nat}
theorem m_exit {g : Nat} (hg : g < 2 ^ 31) (f : Nat) {houses n a b c d h : Int32} {s ik W E B L : Nat → Int32} : it11 (X7_village_S48 (nI t) houses tx s ik) (f + 1) n a b c d (nI g) h W E B L = some (-10 - nI g, 0, nI t, a, b, c, d, nI g, houses, h, W, E, B, L, s, ik) := by
  show X7_village_S48 (nI t) houses tx s ik _ n a b c d (nI g) h W E B L = _
  simp only [X7_village_S48, X7_village_J163, well_g hg, some_bind9, if_true]
theorem m_139B {g : Nat} (hg : g < 2 ^ 31) {n a b c d h : Int32} {W E B L : Nat → Int32} {self : Int32 → Int32 → Int32 → Int32 → Int32 → Int32 → Int32 → (Nat → Int32) → (Nat → Int32) → (Nat → Int32) → (Nat → Int32) → Option (Int32 × Int32 × Int32 × Int32 × Int32 × Int32 × Int32 × Int32 × Int32 × Int32 × (Nat → Int32) × (Nat → Int32) × (Nat → Int32) × (Nat → Int32) × (Nat → Int32) × (Nat → Int32))} : X7_village_J139 (nI t) tx n self a b c d (nI g) h W E B L = self (n + 1) a b c d (nI g) h W E B L := by
  have e : ∀ x, X7_village_J153 (nI t) tx n self a b c d (nI g) h W E B L x = self (n + 1) a b c d (nI g) h W E B L := fun x => by
    simp only [X7_village_J153, m_takeB hg, some_bind9, lets_def]
  simp only [X7_village_J139, e, ite_self]
theorem m_139 {q : Nat} (hT : Toks9 t tx tb AT PL KK VV) (hq : q ≤ t) {n val h : Int32} {W E B L : Nat → Int32} {self : Int32 → Int32 → Int32 → Int32 → Int32 → Int32 → Int32 → (Nat → Int32) → (Nat → Int32) → (Nat → Int32) → (Nat → Int32) → Option (Int32 × Int32 × Int32 × Int32 × Int32 × Int32 × Int32 × Int32 × Int32 × Int32 × (Nat → Int32) × (Nat → Int32) × (Nat → Int32) × (Nat → Int32) × (Nat → Int32) × (Nat → Int32))} :
    (KK q = 3 → ∃ val', Vok KK VV (AT q) val' ∧ X7_village_J139 (nI t) tx n self (nI (AT q)) (tkM (KK q)) (nI (PL q)) val (-1) h W E B L = self (n + 1) (nI (AT (AT q))) (tkM (KK (AT q))) (nI (PL (AT q))) val' (-1) h W E B L) ∧
    (¬ KK q = 3 → X7_village_J139 (nI t) tx n self (nI (AT q)) (tkM (KK q)) (nI (PL q)) val (-1) h W E B L = self (n + 1) (nI (AT q)) (tkM (KK q)) (nI (PL q)) val (nI (PL q)) h W E B L) := by
  obtain ⟨k2, k3, k0, k1⟩ := tk2 (KK q) (kk8 hT hq)
  constructor
  · intro hk
    obtain ⟨v, h1, e⟩ := m_take hT hq (show KK q ≠ 0 by rw [hk]; decide) val one_ne
    refine ⟨v, h1, ?_⟩
    simp only [X7_village_J139, X7_village_J153, if_pos (k3.mpr hk), e, some_bind9, lets_def]
  · intro hk
    simp only [X7_village_J139, X7_village_J153, if_neg (fun z => hk (k3.mp z)), m_take0, some_bind9, lets_def]
theorem m_begin {p H : Nat} (hT : Toks9 t tx tb AT PL KK VV) (ht : t ≤ 300) (hp : p ≤ t) (h0 : KK p ≠ 0) (hH : H ≤ 6) {houses n val : Int32} {s ik W E B L : Nat → Int32} (hv : Vok KK VV p val) {self : Int32 → Int32 → Int32 → Int32 → Int32 → Int32 → Int32 → (Nat → Int32) → (Nat → Int32) → (Nat → Int32) → (Nat → Int32) → Option (Int32 × Int32 × Int32 × Int32 × Int32 × Int32 × Int32 × Int32 × Int32 × Int32 × (Nat → Int32) × (Nat → Int32) × (Nat → Int32) × (Nat → Int32) × (Nat → Int32) × (Nat → Int32))} :
    (mayM (KK p) H L → X7_village_S48 (nI t) houses tx s ik self n (nI (AT p)) (tkM (KK p)) (nI (PL p)) val (-1) (nI H) W E B L = X7_village_J120 (nI t) tx n (nI (AT p)) (tkM (KK p)) (nI (PL p)) val (-1) (nI H) W E B L self 1) ∧
    (¬ mayM (KK p) H L → X7_village_S48 (nI t) houses tx s ik self n (nI (AT p)) (tkM (KK p)) (nI (PL p)) val (-1) (nI H) W E B L = self (n + 1) (nI (AT p)) (tkM (KK p)) (nI (PL p)) val (nI (PL p)) (nI H) W E B L) := by
  have k9 := kk8 hT hp
  have plq := pl_le hT hp
  obtain ⟨k2, k3, k0, k1⟩ := tk2 (KK p) k9
  have t0 : ¬ tkM (KK p) = 0 := fun z => h0 (k0.mp z)
  have e119 : X7_village_J119 (nI t) tx n (nI (AT p)) (tkM (KK p)) (nI (PL p)) val (-1) (nI H) W E B L self = self (n + 1) (nI (AT p)) (tkM (KK p)) (nI (PL p)) val (nI (PL p)) (nI H) W E B L := by
    simp only [X7_village_J119, X7_village_J120, m_take0, some_bind9, well_g (show PL p < 2 ^ 31 by omega), if_true, m_139B (show PL p < 2 ^ 31 by omega)]
  by_cases h4 : 4 ≤ KK p
  · have ev := hv.2 h4
    have t1 := k1.mpr h4
    rcases (show KK p = 4 ∨ KK p = 5 ∨ 6 ≤ KK p by omega) with hk | hk | hk
    · have v0 : val = 0 := by rw [ev, hk]; rfl
      have c6 : (6 : Int32) ≤ nI H ↔ 6 ≤ H := nI_leI (a := 6) (b := H) (by omega) (by omega)
      by_cases y : H < 6
      · refine ⟨fun _ => ?_, fun h => absurd (Or.inl ⟨hk, y⟩) h⟩
        simp only [X7_village_S48, well_m, some_bind9, if_neg one_ne, if_neg t0, if_pos t1, if_pos v0, if_neg (show ¬ (6 : Int32) ≤ nI H from fun z => absurd (c6.mp z) (by omega)), X7_village_J115]
      · refine ⟨fun h => by unfold mayM at h; omega, fun _ => ?_⟩
        simp only [X7_village_S48, well_m, some_bind9, if_neg one_ne, if_neg t0, if_pos t1, if_pos v0, if_pos (c6.mpr (by omega)), e119]
    · have v0 : ¬ val = 0 := by rw [ev, hk]; decide
      have v1 : val = 1 := by rw [ev, hk]; rfl
      refine ⟨fun _ => ?_, fun h => absurd (Or.inr (Or.inl hk)) h⟩
      simp only [X7_village_S48, well_m, some_bind9, if_neg one_ne, if_neg t0, if_pos t1, if_neg v0, if_pos v1, X7_village_J115]
    · have v0 : ¬ val = 0 := by rw [ev]; exact nI_ne0 (by omega) (by omega)
      have v1 : ¬ val = 1 := by rw [ev]; exact nI_ne (a := KK p - 4) (b := 1) (by omega) (by omega) (by omega)
      have ei : ((3 : Int32) + val) - 2 = nI (KK p - 3) := by
        have e := pk_sub (a := 3 + (KK p - 4)) (b := 2) (by omega)
        rw [show 3 + (KK p - 4) - 2 = KK p - 3 by omega] at e
        rw [ev, L3]
        exact e
      have ok : okx (nI (KK p - 3)) 6 := okx_nI (by omega) (by omega)
      by_cases y : L (KK p - 3) = -9
      · refine ⟨fun _ => ?_, fun h => absurd (Or.inr (Or.inr ⟨hk, y⟩)) h⟩
        simp only [X7_village_S48, well_m, some_bind9, if_neg one_ne, if_neg t0, if_pos t1, if_neg v0, if_neg v1, ei, gd_t ok, nI_clamp (show KK p - 3 < 2 ^ 31 by omega), if_pos y, X7_village_J115]
      · refine ⟨fun h => ?_, fun _ => ?_⟩
        · rcases h with h | h | h
          · omega
          · omega
          · exact absurd h.2 y
        · simp only [X7_village_S48, well_m, some_bind9, if_neg one_ne, if_neg t0, if_pos t1, if_neg v0, if_neg v1, ei, gd_t ok, nI_clamp (show KK p - 3 < 2 ^ 31 by omega), if_neg y, e119]
  · have t1 : ¬ tkM (KK p) = 1 := fun z => h4 (k1.mp z)
    refine ⟨fun h => by unfold mayM at h; omega, fun _ => ?_⟩
    simp only [X7_village_S48, well_m, some_bind9, if_neg one_ne, if_neg t0, if_neg t1, e119]
/-- the reference's item, from its word on -/
theorem m_item {p H m : Nat} (hT : Toks9 t tx tb AT PL KK VV) (ht : t ≤ 300) (hp : p ≤ t) (h4 : 4 ≤ KK p) (hH : H ≤ 6) (h6 : KK p = 4 → H < 6) {n val : Int32} {W E B L : Nat → Int32} (hv : Vok KK VV p val) (hm1 : m ≤ Mn (KK p)) (hm : ∀ i, i < m → nOK AT KK VV (KK p) H (AT p) i) (hm' : m < Mn (KK p) → ¬ nOK AT KK VV (KK p) H (AT p) m) {self : Int32 → Int32 → Int32 → Int32 → Int32 → Int32 → Int32 → (Nat → Int32) → (Nat → Int32) → (Nat → Int32) → (Nat → Int32) → Option (Int32 × Int32 × Int32 × Int32 × Int32 × Int32 × Int32 × Int32 × Int32 × Int32 × (Nat → Int32) × (Nat → Int32) × (Nat → Int32) × (Nat → Int32) × (Nat → Int32) × (Nat → Int32))} :
    ((m < Mn (KK p) ∨ ¬ KK (ps9 AT (AT p) m) = 3) → ∃ a b c d h W' E' B' L', X7_village_J120 (nI t) tx n (nI (AT p)) (tkM (KK p)) (nI (PL p)) val (-1) (nI H) W E B L self 1 = self (n + 1) a b c d (nI (PL (ps9 AT (AT p) m))) h W' E' B' L' ∧ (∀ i, i < 6 → E' i = E i) ∧ (∀ i, i < 6 → B' i = B i) ∧ (∀ i, i < 3 → L' i = L i)) ∧
    (m = Mn (KK p) → KK (ps9 AT (AT p) m) = 3 → ∃ val', Vok KK VV (AT (ps9 AT (AT p) m)) val' ∧ X7_village_J120 (nI t) tx n (nI (AT p)) (tkM (KK p)) (nI (PL p)) val (-1) (nI H) W E B L self 1 = self (n + 1) (nI (AT (AT (ps9 AT (AT p) m)))) (tkM (KK (AT (ps9 AT (AT p) m)))) (nI (PL (AT (ps9 AT (AT p) m)))) val' (-1) (nI (mH (KK p) H)) (mW AT VV (KK p) H (AT p) W) (mE AT VV (KK p) H (AT p) E) (mB AT VV (KK p) H (AT p) B) (mL AT VV (KK p) (AT p) L)) := by
  have k9 := kk8 hT hp
  obtain ⟨g1, g2⟩ := at_gt hT hp (show KK p ≠ 0 by omega)
  have ev := hv.2 h4
  obtain ⟨v1, w1, e1⟩ := m_take hT hp (show KK p ≠ 0 by omega) val one_ne
  obtain ⟨r1, r2⟩ := m_read hT ht h4 (by omega) hH h6 (W := W) (E := E) (B := B) (L := L) hm1 hm hm' g2 w1
  have q := (ps_le hT g2 (fun i hi => (hm i hi).1) m (Nat.le_refl m)).1
  have plq := pl_le hT q
  have step : X7_village_J120 (nI t) tx n (nI (AT p)) (tkM (KK p)) (nI (PL p)) val (-1) (nI H) W E B L self 1 = (fX7_readsItem (nI t) (nI (AT (AT p))) (tkM (KK (AT p))) (nI (PL (AT p))) v1 (-1) (nI H) tx W E B L (nI (KK p - 4))).bind (fun r_136 => X7_village_J139 (nI t) tx n self r_136.1 r_136.2.1 r_136.2.2.1 r_136.2.2.2.1 r_136.2.2.2.2.1 r_136.2.2.2.2.2.1 r_136.2.2.2.2.2.2.1 r_136.2.2.2.2.2.2.2.1 r_136.2.2.2.2.2.2.2.2.1 r_136.2.2.2.2.2.2.2.2.2) := by
    simp only [X7_village_J120, e1, some_bind9, well_m, if_neg one_ne]
    rw [ev]
  have low : ∀ {i : Nat}, i < 6 → mE AT VV (KK p) H (AT p) E i = E i ∧ mB AT VV (KK p) H (AT p) B i = B i := fun {i} hi => by
    unfold mE mB
    constructor
    · by_cases z : KK p = 4
      · rw [if_pos z]; exact pk_un (by omega)
      · rw [if_neg z]
    · by_cases z : KK p = 4
      · rw [if_pos z]; exact pk_un (by omega)
      · rw [if_neg z]
        by_cases y : KK p = 5
        · rw [if_pos y]; exact pk_un (by omega)
        · rw [if_neg y]
  have lowL : ∀ {i : Nat}, i < 3 → mL AT VV (KK p) (AT p) L i = L i := fun {i} hi => by
    unfold mL
    by_cases z : 6 ≤ KK p
    · rw [if_pos z]; exact pk_un (by omega)
    · rw [if_neg z]
  rw [step]
  constructor
  · intro h
    by_cases hlt : m < Mn (KK p)
    · obtain ⟨a, b, c, d, h', W', E', B', L', e2, l1, l2, l3⟩ := r1 hlt
      refine ⟨a, b, c, d, h', W', E', B', L', ?_, l1, l2, l3⟩
      rw [e2, some_bind9]
      exact m_139B (by omega)
    · have hm2 : m = Mn (KK p) := by omega
      obtain ⟨v2, w2, e2⟩ := r2 hm2
      have hk : ¬ KK (ps9 AT (AT p) m) = 3 := by
        rcases h with h | h
        · exact absurd h hlt
        · exact h
      rw [← hm2] at e2
      refine ⟨nI (AT (ps9 AT (AT p) m)), tkM (KK (ps9 AT (AT p) m)), nI (PL (ps9 AT (AT p) m)), v2, nI (mH (KK p) H), mW AT VV (KK p) H (AT p) W, mE AT VV (KK p) H (AT p) E, mB AT VV (KK p) H (AT p) B, mL AT VV (KK p) (AT p) L, ?_, fun i hi => (low hi).1, fun i hi => (low hi).2, fun i hi => lowL hi⟩
      rw [e2, some_bind9]
      exact (m_139 hT q).2 hk
  · intro hm2 hk
    obtain ⟨v2, w2, e2⟩ := r2 hm2
    rw [← hm2] at e2
    obtain ⟨v3, w3, e3⟩ := (m_139 hT q (n := n) (val := v2) (h := nI (mH (KK p) H)) (W := mW AT VV (KK p) H (AT p) W) (E := mE AT VV (KK p) H (AT p) E) (B := mB AT VV (KK p) H (AT p) B) (L := mL AT VV (KK p) (AT p) L) (self := self)).1 hk
    refine ⟨v3, w3, ?_⟩
    rw [e2, some_bind9]
    exact e3
end
