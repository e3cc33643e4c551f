/-! both read the text alike -/
theorem it11_s {A0 A1 A2 A3 A4 A5 A6 A7 A8 A9 A10 R : Type} (f : (A0 → A1 → A2 → A3 → A4 → A5 → A6 → A7 → A8 → A9 → A10 → Option R) → A0 → A1 → A2 → A3 → A4 → A5 → A6 → A7 → A8 → A9 → A10 → Option R) (n : Nat) (a0 : A0) (a1 : A1) (a2 : A2) (a3 : A3) (a4 : A4) (a5 : A5) (a6 : A6) (a7 : A7) (a8 : A8) (a9 : A9) (a10 : A10) : it11 f (n + 1) a0 a1 a2 a3 a4 a5 a6 a7 a8 a9 a10 = f (it11 f n) a0 a1 a2 a3 a4 a5 a6 a7 a8 a9 a10 := rfl
theorem it17_s {A0 A1 A2 A3 A4 A5 A6 A7 A8 A9 A10 A11 A12 A13 A14 A15 A16 R : Type} (f : (A0 → A1 → A2 → A3 → A4 → A5 → A6 → A7 → A8 → A9 → A10 → A11 → A12 → A13 → A14 → A15 → A16 → Option R) → A0 → A1 → A2 → A3 → A4 → A5 → A6 → A7 → A8 → A9 → A10 → A11 → A12 → A13 → A14 → A15 → A16 → Option R) (n : Nat) (a0 : A0) (a1 : A1) (a2 : A2) (a3 : A3) (a4 : A4) (a5 : A5) (a6 : A6) (a7 : A7) (a8 : A8) (a9 : A9) (a10 : A10) (a11 : A11) (a12 : A12) (a13 : A13) (a14 : A14) (a15 : A15) (a16 : A16) : it17 f (n + 1) a0 a1 a2 a3 a4 a5 a6 a7 a8 a9 a10 a11 a12 a13 a14 a15 a16 = f (it17 f n) a0 a1 a2 a3 a4 a5 a6 a7 a8 a9 a10 a11 a12 a13 a14 a15 a16 := rfl
section
variable {t : Nat} {tx tb : Nat → Int32} {AT PL KK VV : Nat → Nat}
theorem reads_step {p r n H o fX fM : Nat} (hT : Toks9 t tx tb AT PL KK VV) (ht : t ≤ 300) {houses plc tok num taken la pr me val : Int32} {s ik wc ea ba nb W E B L E0 B0 L0 : Nat → Int32} (hp : p ≤ t) (hr : r ≤ p) (hfX : 1000 ≤ fX + p) (hfM : 1000 ≤ fM + p) (hD : DR H o la pr me wc ea ba W E B L) (hv : Vok KK VV p val) (lE : ∀ i, i < 6 → E i = E0 i) (lB : ∀ i, i < 6 → B i = B0 i) (lL : ∀ i, i < 3 → L i = L0 i) (h0 : KK p ≠ 0) :
    (∃ g, g ≤ 300 ∧ FaultX (it17 (X2_read_S26 (nI t) tb) fX (nI n) (nI r) (nI p) plc tok num 0 taken (nI o) (nI H) la pr me wc ea ba nb) g ∧ MFault t (it11 (X7_village_S48 (nI t) houses tx s ik) fM (nI n) (nI (AT p)) (tkM (KK p)) (nI (PL p)) val (-1) (nI H) W E B L) g houses s ik E0 B0 L0) ∨
    (∃ p' r' H' o' fX' fM' plc' tok' num' taken' la' pr' me' val' wc' ea' ba' nb' W' E' B' L', p < p' ∧ p' ≤ t ∧ r' ≤ p' ∧ 1000 ≤ fX' + p' ∧ 1000 ≤ fM' + p' ∧ DR H' o' la' pr' me' wc' ea' ba' W' E' B' L' ∧ Vok KK VV p' val' ∧ (∀ i, i < 6 → E' i = E0 i) ∧ (∀ i, i < 6 → B' i = B0 i) ∧ (∀ i, i < 3 → L' i = L0 i) ∧
      it17 (X2_read_S26 (nI t) tb) fX (nI n) (nI r) (nI p) plc tok num 0 taken (nI o) (nI H) la pr me wc ea ba nb = it17 (X2_read_S26 (nI t) tb) fX' (nI (n + 1)) (nI r') (nI p') plc' tok' num' 0 taken' (nI o') (nI H') la' pr' me' wc' ea' ba' nb' ∧
      it11 (X7_village_S48 (nI t) houses tx s ik) fM (nI n) (nI (AT p)) (tkM (KK p)) (nI (PL p)) val (-1) (nI H) W E B L = it11 (X7_village_S48 (nI t) houses tx s ik) fM' (nI (n + 1)) (nI (AT p')) (tkM (KK p')) (nI (PL p')) val' (-1) (nI H') W' E' B' L') := by
  obtain ⟨fX, rfl⟩ : ∃ k, fX = k + 1 := ⟨fX - 1, by omega⟩
  obtain ⟨fM, rfl⟩ : ∃ k, fM = k + 2 := ⟨fM - 2, by omega⟩
  have k9 := kk8 hT hp
  have hH : H ≤ 6 := hD.1
  have ho : o < 512 := hD.2.1
  have plp := pl_le hT hp
  obtain ⟨g1, g2⟩ := at_gt hT hp h0
  obtain ⟨b1, b2⟩ := c_begin hT ht hp hr h0 hH ho (items := nI n) (plc := plc) (tok := tok) (num := num) (taken := taken) (la := la) (pr := pr) (me := me) (wc := wc) (ea := ea) (ba := ba) (nb := nb) (self := it17 (X2_read_S26 (nI t) tb) fX)
  obtain ⟨c1, c2⟩ := m_begin hT ht hp h0 hH (houses := houses) (n := nI n) (s := s) (ik := ik) (W := W) (E := E) (B := B) (L := L) hv (self := it11 (X7_village_S48 (nI t) houses tx s ik) (fM + 1))
  have mi := may_iff (k := KK p) (by omega) hD
  by_cases hmay : may9 (KK p) H o
  · have h4 : 4 ≤ KK p := by unfold may9 at hmay; omega
    have h6 : KK p = 4 → H < 6 := fun e => by unfold may9 at hmay; omega
    obtain ⟨plc1, tok1, num1, x1⟩ := b1 hmay
    have y1 := c1 (mi.mpr hmay)
    obtain ⟨m, hm1, hm, hm'⟩ := first_ex (P := nOK AT KK VV (KK p) H (AT p)) (Mn (KK p))
    obtain ⟨u1, u2, u3⟩ := Mn_eq (KK p) k9 h4
    have q := ps_le hT g2 (fun i hi => (hm i hi).1) m (Nat.le_refl m)
    have plq := pl_le hT q.1
    obtain ⟨i1, i2, i3⟩ := c_item hT ht h4 (by omega) hH h6 hm1 hm hm' g2 (show r + 1 ≤ AT p by omega) (show Mn (KK p) < fX by omega) (items := nI n) (plc := plc1) (tok := tok1) (num := num1) (once := nI (o ||| 2 ^ KK p)) (la := la) (pr := pr) (me := me) (wc := wc) (ea := ea) (ba := ba) (nb := nb)
    obtain ⟨j1, j2⟩ := m_item hT ht hp h4 hH h6 (n := nI n) (W := W) (E := E) (B := B) (L := L) hv hm1 hm hm' (self := it11 (X7_village_S48 (nI t) houses tx s ik) (fM + 1))
    have X : it17 (X2_read_S26 (nI t) tb) (fX + 1) (nI n) (nI r) (nI p) plc tok num 0 taken (nI o) (nI H) la pr me wc ea ba nb = it17 (X2_read_S26 (nI t) tb) fX (nI n) (nI (r + 1)) (nI (AT p)) plc1 tok1 num1 (nI (KK p)) 0 (nI (o ||| 2 ^ KK p)) (nI H) la pr me wc ea ba nb := x1
    have Y : it11 (X7_village_S48 (nI t) houses tx s ik) (fM + 2) (nI n) (nI (AT p)) (tkM (KK p)) (nI (PL p)) val (-1) (nI H) W E B L = X7_village_J120 (nI t) tx (nI n) (nI (AT p)) (tkM (KK p)) (nI (PL p)) val (-1) (nI H) W E B L (it11 (X7_village_S48 (nI t) houses tx s ik) (fM + 1)) 1 := y1
    rw [X, Y]
    by_cases hbad : m < Mn (KK p) ∨ ¬ KK (ps9 AT (AT p) m) = 3
    · left
      refine ⟨PL (ps9 AT (AT p) m), by omega, ?_, ?_⟩
      · by_cases hlt : m < Mn (KK p)
        · exact i1 hlt
        · exact i2 (by omega) (by rcases hbad with z | z; exact absurd z hlt; exact z)
      · obtain ⟨a, b, c, d, h, W', E', B', L', e1, l1, l2, l3⟩ := j1 hbad
        rw [e1]
        exact ⟨a, b, c, d, h, W', E', B', L', m_exit (by omega) fM, fun i hi => (l1 i hi).trans (lE i hi), fun i hi => (l2 i hi).trans (lB i hi), fun i hi => (l3 i hi).trans (lL i hi)⟩
    · right
      have hm2 : m = Mn (KK p) := by
        have : ¬ m < Mn (KK p) := fun z => hbad (Or.inl z)
        omega
      have hk : KK (ps9 AT (AT p) m) = 3 := Classical.byContradiction fun z => hbad (Or.inr z)
      obtain ⟨plc2, tok2, num2, r2, nb', w1, w2, w3⟩ := i3 hm2 hk
      obtain ⟨val2, z1, z2⟩ := j2 hm2 hk
      have ga := at_gt hT q.1 (show KK (ps9 AT (AT p) m) ≠ 0 by rw [hk]; decide)
      obtain ⟨s1, s2⟩ := dr_step (AT := AT) (KK := KK) (VV := VV) (p := AT p) (nb := nb) h4 (by omega) h6 hD (fun i hi => hm i (by omega)) w2
      have low : ∀ i, i < 6 → mE AT VV (KK p) H (AT p) E i = E i ∧ mB AT VV (KK p) H (AT p) B i = B i := fun i hi => by
        unfold mE mB
        constructor
        · by_cases z : KK p = 4
          · rw [if_pos z]; exact pk_un (by omega)
          · rw [if_neg z]
        · by_cases z : KK p = 4
          · rw [if_pos z]; exact pk_un (by omega)
          · rw [if_neg z]
            by_cases y : KK p = 5
            · rw [if_pos y]; exact pk_un (by omega)
            · rw [if_neg y]
      have lowL : ∀ i, i < 3 → mL AT VV (KK p) (AT p) L i = L i := fun i hi => by
        unfold mL
        by_cases z : 6 ≤ KK p
        · rw [if_pos z]; exact pk_un (by omega)
        · rw [if_neg z]
      refine ⟨AT (ps9 AT (AT p) m), r2, mH (KK p) H, o ||| 2 ^ KK p, fX - m - 1, fM + 1, plc2, tok2, num2, nI (Mn (KK p)), _, _, _, val2, _, _, _, nb', _, _, _, _, by omega, by omega, w1, by omega, by omega, s2, z1, fun i hi => ((low i hi).1).trans (lE i hi), fun i hi => ((low i hi).2).trans (lB i hi), fun i hi => (lowL i hi).trans (lL i hi), ?_, ?_⟩
      · rw [w3, s1, Lp1]
      · rw [z2, Lp1]
  · left
    refine ⟨PL p, by omega, b2 hmay, ?_⟩
    have y1 := c2 (fun z => hmay (mi.mp z))
    have Y : it11 (X7_village_S48 (nI t) houses tx s ik) (fM + 2) (nI n) (nI (AT p)) (tkM (KK p)) (nI (PL p)) val (-1) (nI H) W E B L = it11 (X7_village_S48 (nI t) houses tx s ik) (fM + 1) (nI n + 1) (nI (AT p)) (tkM (KK p)) (nI (PL p)) val (nI (PL p)) (nI H) W E B L := y1
    rw [Y]
    exact ⟨_, _, _, _, _, _, _, _, _, m_exit (by omega) fM, lE, lB, lL⟩
def EndsX (res : Option (Int32 × Int32 × Int32 × Int32 × Int32 × Int32 × Int32 × Int32 × Int32 × Int32 × Int32 × Int32 × (Nat → Int32) × (Nat → Int32) × (Nat → Int32) × (Nat → Int32))) (n H : Nat) (la pr me : Int32) (wc ea ba : Nat → Int32) : Prop := ∃ a1 a2 a3 a4 a5 a6 a7 nb, res = some (nI n, a1, a2, a3, a4, a5, a6, a7, nI H, la, pr, me, wc, ea, ba, nb)
def EndsM (t : Nat) (res : Option (Int32 × Int32 × Int32 × Int32 × Int32 × Int32 × Int32 × Int32 × Int32 × Int32 × (Nat → Int32) × (Nat → Int32) × (Nat → Int32) × (Nat → Int32) × (Nat → Int32) × (Nat → Int32))) (n H : Nat) (houses : Int32) (s ik W E B L : Nat → Int32) : Prop := ∃ a b c d, res = X7_village_J163 (nI t) houses s ik (nI n) a b c d (-1) (nI H) W E B L
theorem m_over {p H n fM : Nat} (hT : Toks9 t tx tb AT PL KK VV) (hp : p ≤ t) (h0 : KK p = 0) {houses val : Int32} {s ik W E B L : Nat → Int32} : it11 (X7_village_S48 (nI t) houses tx s ik) (fM + 1) (nI n) (nI (AT p)) (tkM (KK p)) (nI (PL p)) val (-1) (nI H) W E B L = X7_village_J163 (nI t) houses s ik (nI n) (nI (AT p)) (tkM (KK p)) (nI (PL p)) val (-1) (nI H) W E B L := by
  rw [it11_s]
  unfold X7_village_S48
  rw [well_m, some_bind9, if_neg one_ne, if_pos ((tk2 (KK p) (kk8 hT hp)).2.2.1.mpr h0)]
theorem reads9 (hT : Toks9 t tx tb AT PL KK VV) (ht : t ≤ 300) {houses : Int32} {s ik E0 B0 L0 : Nat → Int32} : ∀ (e p r n H o fX fM : Nat) (plc tok num taken la pr me val : Int32) (wc ea ba nb W E B L : Nat → Int32), t - p ≤ e → p ≤ t → r ≤ p → n ≤ p → 1000 ≤ fX + p → 1000 ≤ fM + p → DR H o la pr me wc ea ba W E B L → Vok KK VV p val → (∀ i, i < 6 → E i = E0 i) → (∀ i, i < 6 → B i = B0 i) → (∀ i, i < 3 → L i = L0 i) →
    (∃ g, g ≤ 300 ∧ FaultX (it17 (X2_read_S26 (nI t) tb) fX (nI n) (nI r) (nI p) plc tok num 0 taken (nI o) (nI H) la pr me wc ea ba nb) g ∧ MFault t (it11 (X7_village_S48 (nI t) houses tx s ik) fM (nI n) (nI (AT p)) (tkM (KK p)) (nI (PL p)) val (-1) (nI H) W E B L) g houses s ik E0 B0 L0) ∨
    (∃ n' H' o' la' pr' me' wc' ea' ba' W' E' B' L', n' ≤ 300 ∧ DR H' o' la' pr' me' wc' ea' ba' W' E' B' L' ∧
      EndsX (it17 (X2_read_S26 (nI t) tb) fX (nI n) (nI r) (nI p) plc tok num 0 taken (nI o) (nI H) la pr me wc ea ba nb) n' H' la' pr' me' wc' ea' ba' ∧
      EndsM t (it11 (X7_village_S48 (nI t) houses tx s ik) fM (nI n) (nI (AT p)) (tkM (KK p)) (nI (PL p)) val (-1) (nI H) W E B L) n' H' houses s ik W' E' B' L') := by
  intro e
  induction e with
  | zero =>
    intro p r n H o fX fM plc tok num taken la pr me val wc ea ba nb W E B L he hp hr hn hfX hfM hD hv lE lB lL
    have h0 : KK p = 0 := Classical.byContradiction fun z => by
      have := at_gt hT hp z
      omega
    right
    obtain ⟨fX, rfl⟩ : ∃ k, fX = k + 1 := ⟨fX - 1, by omega⟩
    obtain ⟨fM, rfl⟩ : ∃ k, fM = k + 1 := ⟨fM - 1, by omega⟩
    obtain ⟨a1, a2, a3, a4, a5, a6, a7, x1⟩ := c_end hT ht hp hr h0 (items := nI n) (plc := plc) (tok := tok) (num := num) (taken := taken) (once := nI o) (ho := nI H) (la := la) (pr := pr) (me := me) (wc := wc) (ea := ea) (ba := ba) (nb := nb) (self := it17 (X2_read_S26 (nI t) tb) fX)
    refine ⟨n, H, o, la, pr, me, wc, ea, ba, W, E, B, L, by omega, hD, ⟨a1, a2, a3, a4, a5, a6, a7, nb, (it17_s _ _ _ _ _ _ _ _ _ _ _ _ _ _ _ _ _ _ _).trans x1⟩, ⟨nI (AT p), tkM (KK p), nI (PL p), val, m_over hT hp h0⟩⟩
  | succ e ih =>
    intro p r n H o fX fM plc tok num taken la pr me val wc ea ba nb W E B L he hp hr hn hfX hfM hD hv lE lB lL
    by_cases h0 : KK p = 0
    · right
      obtain ⟨fX, rfl⟩ : ∃ k, fX = k + 1 := ⟨fX - 1, by omega⟩
      obtain ⟨fM, rfl⟩ : ∃ k, fM = k + 1 := ⟨fM - 1, by omega⟩
      obtain ⟨a1, a2, a3, a4, a5, a6, a7, x1⟩ := c_end hT ht hp hr h0 (items := nI n) (plc := plc) (tok := tok) (num := num) (taken := taken) (once := nI o) (ho := nI H) (la := la) (pr := pr) (me := me) (wc := wc) (ea := ea) (ba := ba) (nb := nb) (self := it17 (X2_read_S26 (nI t) tb) fX)
      refine ⟨n, H, o, la, pr, me, wc, ea, ba, W, E, B, L, by omega, hD, ⟨a1, a2, a3, a4, a5, a6, a7, nb, (it17_s _ _ _ _ _ _ _ _ _ _ _ _ _ _ _ _ _ _ _).trans x1⟩, ⟨nI (AT p), tkM (KK p), nI (PL p), val, m_over hT hp h0⟩⟩
    · rcases reads_step hT ht (houses := houses) (s := s) (ik := ik) (n := n) (plc := plc) (tok := tok) (num := num) (taken := taken) (nb := nb) hp hr hfX hfM hD hv lE lB lL h0 with h | ⟨p', r', H', o', fX', fM', plc', tok', num', taken', la', pr', me', val', wc', ea', ba', nb', W', E', B', L', q1, q2, q3, q4, q5, q6, q7, q8, q9, q10, q11, q12⟩
      · exact Or.inl h
      · rw [q11, q12]
        exact ih p' r' (n + 1) H' o' fX' fM' plc' tok' num' taken' la' pr' me' val' wc' ea' ba' nb' W' E' B' L' (by omega) q2 q3 (by omega) q4 q5 q6 q7 q8 q9 q10
end
