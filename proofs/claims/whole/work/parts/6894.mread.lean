/-! the reference reads an item -/
def mH (it H : Nat) : Nat := if it = 4 then H + 1 else H
def mW (AT VV : Nat → Nat) (it H p : Nat) (W : Nat → Int32) : Nat → Int32 := if it = 4 then fillF AT VV H p W 0 4 else W
def mE (AT VV : Nat → Nat) (it H p : Nat) (E : Nat → Int32) : Nat → Int32 := if it = 4 then upd E (6 + H) (nI (VV (ps9 AT p 4))) else E
def mB (AT VV : Nat → Nat) (it H p : Nat) (B : Nat → Int32) : Nat → Int32 := if it = 4 then upd B (6 + H) 0 else if it = 5 then upd B (6 + VV (ps9 AT p 0)) (B (6 + VV (ps9 AT p 0)) ||| ((1 : Int32) <<< (nI (VV (ps9 AT p 1)) &&& 31))) else B
def mL (AT VV : Nat → Nat) (it p : Nat) (L : Nat → Int32) : Nat → Int32 := if 6 ≤ it then upd L (it - 3) (nI (VV (ps9 AT p 0))) else L
section
variable {t : Nat} {tx tb : Nat → Int32} {AT PL KK VV : Nat → Nat}
theorem m_bar {p H m : Nat} (hT : Toks9 t tx tb AT PL KK VV) (ht : t ≤ 300) (hH : H ≤ 6) {W E B L : Nat → Int32} {val : Int32} (hm2 : m ≤ 2) (hm : ∀ i, i < m → nOK AT KK VV 5 H p i) (hm' : m < 2 → ¬ nOK AT KK VV 5 H p m) (hp : p ≤ t) (hv : Vok KK VV p val) :
    (m < 2 → BadR (fX7_readsItem (nI t) (nI (AT p)) (tkM (KK p)) (nI (PL p)) val (-1) (nI H) tx W E B L 1) (PL (ps9 AT p m)) E B L) ∧
    (m = 2 → GoodR AT PL KK VV (fX7_readsItem (nI t) (nI (AT p)) (tkM (KK p)) (nI (PL p)) val (-1) (nI H) tx W E B L 1) (ps9 AT p 2) H W E (upd B (6 + VV (ps9 AT p 0)) (B (6 + VV (ps9 AT p 0)) ||| ((1 : Int32) <<< (nI (VV (ps9 AT p 1)) &&& 31)))) L) := by
  have okv0 : okV 5 H 0 (VV p) ↔ VV p < H := by
    unfold okV
    rw [if_neg (by omega), if_pos rfl, if_pos rfl]
  have hh0 : KK p = 2 → VV p ≤ 99 → (okV 5 H 0 (VV p) ↔ (¬ nI (VV p) < (0 : Int32) ∧ ¬ (nI H - 1) < nI (VV p))) := fun _ h9 => by
    rw [okv0, Int32.lt_iff_toInt_lt (x := nI H - 1), sub1_toInt (by omega), nI_toInt (by omega)]
    have := nI_pos (n := VV p) (by omega)
    constructor
    · intro h; exact ⟨this, by omega⟩
    · rintro ⟨-, h⟩; omega
  obtain ⟨n1, n2⟩ := m_num hT hp (lo := 0) (hi := nI H - 1) (ok := okV 5 H 0 (VV p)) hv hh0
  have c60 : ((6 : Int32) + 0).toNatClampNeg = 6 := by decide
  have ok60 : okx ((6 : Int32) + 0) 12 := by decide
  have plp := pl_le hT hp
  by_cases g : 0 < m
  · obtain ⟨v', h1, e1⟩ := n1 (hm 0 g)
    have q1 : ps9 AT p 1 ≤ t := (ps_le hT hp (fun i hi => (hm i hi).1) 1 g).1
    have q1' : AT p ≤ t := q1
    have okv1 : okV 5 H 1 (VV (AT p)) ↔ VV (AT p) ≤ 3 := by
      unfold okV
      rw [if_neg (by omega), if_pos rfl, if_neg (by omega)]
    obtain ⟨k1, k2⟩ := m_num hT q1' (lo := 0) (hi := 3) (ok := okV 5 H 1 (VV (AT p))) h1 (fun _ h9 => okv1.trans ((rng9 h9 0 3 (by omega) (by omega)).trans (by omega)).symm)
    have v0 : VV p < H := okv0.mp (hm 0 g).2
    have ok : okx (nI (6 + VV p)) 12 := okx_nI (by omega) (by omega)
    have plq := pl_le hT q1'
    constructor
    · intro h
      have em : m = 1 := by omega
      subst em
      refine ⟨nI (AT (AT p)), tkM (KK (AT p)), nI (PL (AT p)), v', nI H, W, E, upd B (6 + VV p) (B (6 + VV p) ||| 0), L, ?_, fun i hi => rfl, fun i hi => pk_un (by omega), fun i hi => rfl⟩
      simp only [fX7_readsItem, X7_readsItem_J133, if_neg one_ne, if_true, e1, k2 (hm' h), some_bind9, L6, gd_t ok, nI_clamp (show 6 + VV p < 2 ^ 31 by omega), well_g (show PL (AT p) < 2 ^ 31 by omega), lets_def]
      rfl
    · intro h
      obtain ⟨v2, h2, e2⟩ := k1 (hm 1 (by omega))
      refine ⟨v2, h2, ?_⟩
      simp only [fX7_readsItem, X7_readsItem_J133, if_neg one_ne, if_true, e1, e2, some_bind9, L6, gd_t ok, nI_clamp (show 6 + VV p < 2 ^ 31 by omega), well_m, lets_def]
      rfl
  · have em : m = 0 := by omega
    subst em
    constructor
    · intro h
      refine ⟨nI (AT p), tkM (KK p), nI (PL p), val, nI H, W, E, upd B 6 (B 6 ||| 0), L, ?_, fun i hi => rfl, fun i hi => pk_un (by omega), fun i hi => rfl⟩
      simp only [fX7_readsItem, X7_readsItem_J133, if_neg one_ne, if_true, n2 (hm' h), m_numB (show PL p < 2 ^ 31 by omega), some_bind9, gd_t ok60, c60, well_g (show PL p < 2 ^ 31 by omega), lets_def]
      rfl
    · intro h
      omega
theorem m_rule {p H m it hi : Nat} (hT : Toks9 t tx tb AT PL KK VV) (ht : t ≤ 300) (h6 : 6 ≤ it) (h8 : it ≤ 8) (hhi : hi ≤ 9) (hokv : ∀ v, okV it H 0 v ↔ v ≤ hi) {W E B L : Nat → Int32} {val : Int32} (hm1 : m ≤ 1) (hm : ∀ i, i < m → nOK AT KK VV it H p i) (hm' : m < 1 → ¬ nOK AT KK VV it H p m) (hp : p ≤ t) (hv : Vok KK VV p val) :
    (m < 1 → BadR (X7_readsItem_J160 (nI t) (nI (AT p)) (tkM (KK p)) (nI (PL p)) val (-1) (nI H) tx W E B L (nI (it - 4)) (nI hi)) (PL (ps9 AT p m)) E B L) ∧
    (m = 1 → GoodR AT PL KK VV (X7_readsItem_J160 (nI t) (nI (AT p)) (tkM (KK p)) (nI (PL p)) val (-1) (nI H) tx W E B L (nI (it - 4)) (nI hi)) (ps9 AT p 1) H W E B (upd L (it - 3) (nI (VV (ps9 AT p 0))))) := by
  obtain ⟨n1, n2⟩ := m_num hT hp (lo := 0) (hi := nI hi) (ok := okV it H 0 (VV p)) hv (fun _ h9 => (hokv _).trans ((rng9 h9 0 hi (by omega) (by omega)).trans (by omega)).symm)
  have ei : ((3 : Int32) + nI (it - 4)) - 2 = nI (it - 3) := by
    have e := pk_sub (a := 3 + (it - 4)) (b := 2) (by omega)
    rw [show 3 + (it - 4) - 2 = it - 3 by omega] at e
    rw [L3]
    exact e
  have ok : okx (nI (it - 3)) 6 := okx_nI (by omega) (by omega)
  constructor
  · intro h
    have em : m = 0 := by omega
    subst em
    refine ⟨nI (AT p), tkM (KK p), nI (PL p), val, nI H, W, E, B, upd L (it - 3) 0, ?_, fun i hi => rfl, fun i hi => rfl, fun i hi => pk_un (by omega)⟩
    simp only [X7_readsItem_J160, n2 (hm' h), some_bind9, ei, gd_t ok, nI_clamp (show it - 3 < 2 ^ 31 by omega), lets_def]
    rfl
  · intro h
    obtain ⟨v2, h2, e2⟩ := n1 (hm 0 (by omega))
    refine ⟨v2, h2, ?_⟩
    simp only [X7_readsItem_J160, e2, some_bind9, ei, gd_t ok, nI_clamp (show it - 3 < 2 ^ 31 by omega), lets_def]
    rfl
theorem m_read {p H m it : Nat} (hT : Toks9 t tx tb AT PL KK VV) (ht : t ≤ 300) (h4 : 4 ≤ it) (h8 : it ≤ 8) (hH : H ≤ 6) (h6 : it = 4 → H < 6) {W E B L : Nat → Int32} {val : Int32} (hm1 : m ≤ Mn it) (hm : ∀ i, i < m → nOK AT KK VV it H p i) (hm' : m < Mn it → ¬ nOK AT KK VV it H p m) (hp : p ≤ t) (hv : Vok KK VV p val) :
    (m < Mn it → BadR (fX7_readsItem (nI t) (nI (AT p)) (tkM (KK p)) (nI (PL p)) val (-1) (nI H) tx W E B L (nI (it - 4))) (PL (ps9 AT p m)) E B L) ∧
    (m = Mn it → GoodR AT PL KK VV (fX7_readsItem (nI t) (nI (AT p)) (tkM (KK p)) (nI (PL p)) val (-1) (nI H) tx W E B L (nI (it - 4))) (ps9 AT p (Mn it)) (mH it H) (mW AT VV it H p W) (mE AT VV it H p E) (mB AT VV it H p B) (mL AT VV it p L)) := by
  rcases (show it = 4 ∨ it = 5 ∨ it = 6 ∨ it = 7 ∨ it = 8 by omega) with rfl | rfl | rfl | rfl | rfl
  · have e : fX7_readsItem (nI t) (nI (AT p)) (tkM (KK p)) (nI (PL p)) val (-1) (nI H) tx W E B L (nI (4 - 4)) = it7 (X7_readsItem_S6 (nI t) (nI H) tx E B L) 100000 (nI 0) (nI (AT (ps9 AT p 0))) (tkM (KK (ps9 AT p 0))) (nI (PL (ps9 AT p 0))) val (-1) W := by
      simp only [fX7_readsItem, if_pos (show nI (4 - 4) = 0 from rfl)]
      rfl
    rw [e]
    exact m_house hT ht (h6 rfl) hm1 hm hm' hp 4 0 100000 W val (by omega) (by omega) (by omega) hv
  · exact m_bar hT ht hH hm1 hm hm' hp hv
  · have e : fX7_readsItem (nI t) (nI (AT p)) (tkM (KK p)) (nI (PL p)) val (-1) (nI H) tx W E B L (nI (6 - 4)) = X7_readsItem_J160 (nI t) (nI (AT p)) (tkM (KK p)) (nI (PL p)) val (-1) (nI H) tx W E B L (nI (6 - 4)) (nI 2) := by
      simp only [fX7_readsItem, if_neg (show ¬ nI (6 - 4) = 0 by decide), if_neg (show ¬ nI (6 - 4) = 1 by decide), if_pos (show nI (6 - 4) = 2 from rfl)]
      rfl
    rw [e]
    exact m_rule hT ht (by omega) (by omega) (by omega) (fun v => by unfold okV; rw [if_neg (by omega), if_neg (by omega), if_pos rfl]) hm1 hm hm' hp hv
  · have e : fX7_readsItem (nI t) (nI (AT p)) (tkM (KK p)) (nI (PL p)) val (-1) (nI H) tx W E B L (nI (7 - 4)) = X7_readsItem_J160 (nI t) (nI (AT p)) (tkM (KK p)) (nI (PL p)) val (-1) (nI H) tx W E B L (nI (7 - 4)) (nI 9) := by
      simp only [fX7_readsItem, if_neg (show ¬ nI (7 - 4) = 0 by decide), if_neg (show ¬ nI (7 - 4) = 1 by decide), if_neg (show ¬ nI (7 - 4) = 2 by decide)]
      rfl
    rw [e]
    exact m_rule hT ht (by omega) (by omega) (by omega) (fun v => by unfold okV; rw [if_neg (by omega), if_neg (by omega), if_neg (by omega)]) hm1 hm hm' hp hv
  · have e : fX7_readsItem (nI t) (nI (AT p)) (tkM (KK p)) (nI (PL p)) val (-1) (nI H) tx W E B L (nI (8 - 4)) = X7_readsItem_J160 (nI t) (nI (AT p)) (tkM (KK p)) (nI (PL p)) val (-1) (nI H) tx W E B L (nI (8 - 4)) (nI 9) := by
      simp only [fX7_readsItem, if_neg (show ¬ nI (8 - 4) = 0 by decide), if_neg (show ¬ nI (8 - 4) = 1 by decide), if_neg (show ¬ nI (8 - 4) = 2 by decide)]
      rfl
    rw [e]
    exact m_rule hT ht (by omega) (by omega) (by omega) (fun v => by unfold okV; rw [if_neg (by omega), if_neg (by omega), if_neg (by omega)]) hm1 hm hm' hp hv
end
