/-! the drafts of both -/
def Rul9 (o k : Nat) (x l d : Int32) (hi : Nat) : Prop := (o.testBit k = false ∧ l = -9 ∧ x = d) ∨ (o.testBit k = true ∧ x = l ∧ ∃ v, v ≤ hi ∧ l = nI v)
def DR (H o : Nat) (la pr me : Int32) (wc ea ba W E B L : Nat → Int32) : Prop :=
  H ≤ 6 ∧ o < 512 ∧
  (∀ i, i < 4 * H → wc i = W (24 + i) ∧ ∃ k, k ≤ 9 ∧ wc i = nI k) ∧ (∀ i, 4 * H ≤ i → i < 24 → wc i = 0) ∧
  (∀ h, h < H → ea h = E (6 + h) ∧ ∃ k, 1 ≤ k ∧ k ≤ 9 ∧ ea h = nI k) ∧ (∀ h, H ≤ h → h < 6 → ea h = 0) ∧
  (∀ h, h < H → ba h = B (6 + h) ∧ ∃ k, k < 16 ∧ ba h = nI k) ∧ (∀ h, H ≤ h → h < 6 → ba h = 0) ∧
  Rul9 o 6 la (L 3) 0 2 ∧ Rul9 o 7 pr (L 4) 0 9 ∧ Rul9 o 8 me (L 5) 1 9
theorem m9n {v : Nat} (hv : v < 100) : ¬ nI v = -9 := fun e => by
  have e1 : (nI v).toInt = (-9 : Int32).toInt := by rw [e]
  rw [nI_toInt (by omega)] at e1
  have e2 : (-9 : Int32).toInt = -9 := by decide
  omega
theorem RL_iff {o k hi : Nat} {x l d : Int32} (hh : hi < 100) (h : Rul9 o k x l d hi) : l = -9 ↔ o.testBit k = false := by
  rcases h with ⟨h1, h2, h3⟩ | ⟨h1, h2, v, h3, h4⟩
  · exact ⟨fun _ => h1, fun _ => h2⟩
  · rw [h4, h1]
    exact ⟨fun e => absurd e (m9n (by omega)), fun e => absurd e (by decide)⟩
theorem RL_keep {o k j hi : Nat} {x l d : Int32} (hkj : k ≠ j) (h : Rul9 o k x l d hi) : Rul9 (o ||| 2 ^ j) k x l d hi := by
  unfold Rul9
  rw [fb_bit_set, decide_eq_false hkj, Bool.or_false]
  exact h
theorem RL_set {o k v hi : Nat} {d : Int32} (hv : v ≤ hi) : Rul9 (o ||| 2 ^ k) k (nI v) (nI v) d hi := by
  refine Or.inr ⟨?_, rfl, v, hv, rfl⟩
  rw [fb_bit_set, decide_eq_true rfl, Bool.or_true]
theorem up4_out {f : Nat → Int32} {x0 x1 x2 x3 : Int32} {b i : Nat} (h : i < b ∨ b + 4 ≤ i) : upd (upd (upd (upd f b x0) (b + 1) x1) (b + 2) x2) (b + 3) x3 i = f i := by
  rw [pk_un (by omega), pk_un (by omega), pk_un (by omega), pk_un (by omega)]
theorem up4_0 {f : Nat → Int32} {x0 x1 x2 x3 : Int32} {b : Nat} : upd (upd (upd (upd f b x0) (b + 1) x1) (b + 2) x2) (b + 3) x3 b = x0 := by
  rw [pk_un (by omega), pk_un (by omega), pk_un (by omega), pk_us]
theorem up4_1 {f : Nat → Int32} {x0 x1 x2 x3 : Int32} {b : Nat} : upd (upd (upd (upd f b x0) (b + 1) x1) (b + 2) x2) (b + 3) x3 (b + 1) = x1 := by
  rw [pk_un (by omega), pk_un (by omega), pk_us]
theorem up4_2 {f : Nat → Int32} {x0 x1 x2 x3 : Int32} {b : Nat} : upd (upd (upd (upd f b x0) (b + 1) x1) (b + 2) x2) (b + 3) x3 (b + 2) = x2 := by
  rw [pk_un (by omega), pk_us]
theorem up4_3 {f : Nat → Int32} {x0 x1 x2 x3 : Int32} {b : Nat} : upd (upd (upd (upd f b x0) (b + 1) x1) (b + 2) x2) (b + 3) x3 (b + 3) = x3 := pk_us
theorem or16 : ∀ k, k < 16 → ∀ v, v < 4 → (k ||| 2 ^ v) < 16 := by decide +kernel
theorem dr_step {AT KK VV : Nat → Nat} {it H o p : Nat} {la pr me : Int32} {wc ea ba nb nb' W E B L : Nat → Int32} (h4 : 4 ≤ it) (h8 : it ≤ 8) (h6 : it = 4 → H < 6) (hD : DR H o la pr me wc ea ba W E B L) (hm : ∀ i, i < Mn it → nOK AT KK VV it H p i) (hnb : nb' = nbF AT VV nb p 0 (Mn it)) :
    (endD it H la pr me wc ea ba nb').1 = nI (mH it H) ∧ DR (mH it H) (o ||| 2 ^ it) (endD it H la pr me wc ea ba nb').2.1 (endD it H la pr me wc ea ba nb').2.2.1 (endD it H la pr me wc ea ba nb').2.2.2.1 (endD it H la pr me wc ea ba nb').2.2.2.2.1 (endD it H la pr me wc ea ba nb').2.2.2.2.2.1 (endD it H la pr me wc ea ba nb').2.2.2.2.2.2 (mW AT VV it H p W) (mE AT VV it H p E) (mB AT VV it H p B) (mL AT VV it p L) := by
  obtain ⟨d1, d2, d3, d4, d5, d6, d7, d8, r6, r7, r8⟩ := hD
  have o5 : (o ||| 2 ^ it) < 512 := (once_eq o d2 it (by omega)).2.1
  rcases (show it = 4 ∨ it = 5 ∨ it = 6 ∨ it = 7 ∨ it = 8 by omega) with rfl | rfl | rfl | rfl | rfl
  · have hH := h6 rfl
    have n0 : nb' 0 = nI (VV (ps9 AT p 0)) := by rw [hnb]; rfl
    have n1 : nb' 1 = nI (VV (ps9 AT p 1)) := by rw [hnb]; rfl
    have n2 : nb' 2 = nI (VV (ps9 AT p 2)) := by rw [hnb]; rfl
    have n3 : nb' 3 = nI (VV (ps9 AT p 3)) := by rw [hnb]; rfl
    have n4 : nb' 4 = nI (VV (ps9 AT p 4)) := by rw [hnb]; rfl
    have v9 : ∀ i, i < 4 → VV (ps9 AT p i) ≤ 9 := fun i hi => by
      have h := (hm i (show i < 5 by omega)).2
      unfold okV at h
      rw [if_pos rfl, if_neg (by omega)] at h
      exact h
    have v4 : 1 ≤ VV (ps9 AT p 4) ∧ VV (ps9 AT p 4) ≤ 9 := by
      have h := (hm 4 (show 4 < 5 by omega)).2
      unfold okV at h
      rw [if_pos rfl, if_pos rfl] at h
      exact h
    have eD : endD 4 H la pr me wc ea ba nb' = (nI (H + 1), la, pr, me, upd (upd (upd (upd wc (4 * H) (nb' 0)) (4 * H + 1) (nb' 1)) (4 * H + 2) (nb' 2)) (4 * H + 3) (nb' 3), upd ea H (nb' 4), ba) := rfl
    have eW : mW AT VV 4 H p W = upd (upd (upd (upd W (24 + 4 * H) (nI (VV (ps9 AT p 0)))) (24 + 4 * H + 1) (nI (VV (ps9 AT p 1)))) (24 + 4 * H + 2) (nI (VV (ps9 AT p 2)))) (24 + 4 * H + 3) (nI (VV (ps9 AT p 3))) := rfl
    have eE : mE AT VV 4 H p E = upd E (6 + H) (nI (VV (ps9 AT p 4))) := rfl
    have eB : mB AT VV 4 H p B = upd B (6 + H) 0 := rfl
    have eL : mL AT VV 4 p L = L := rfl
    have eH : mH 4 H = H + 1 := rfl
    rw [eD, eW, eE, eB, eL, eH, n0, n1, n2, n3, n4]
    refine ⟨rfl, by omega, o5, fun i hi => ?_, fun i h1 h2 => ?_, fun h hh => ?_, fun h h1 h2 => ?_, fun h hh => ?_, fun h h1 h2 => d8 h (by omega) h2, RL_keep (by decide) r6, RL_keep (by decide) r7, RL_keep (by decide) r8⟩
    · show upd (upd (upd (upd wc (4 * H) _) (4 * H + 1) _) (4 * H + 2) _) (4 * H + 3) _ i = _ ∧ ∃ k, k ≤ 9 ∧ upd (upd (upd (upd wc (4 * H) _) (4 * H + 1) _) (4 * H + 2) _) (4 * H + 3) _ i = nI k
      rcases Nat.lt_or_ge i (4 * H) with g | g
      · rw [up4_out (Or.inl g), up4_out (Or.inl (by omega))]
        exact d3 i g
      · rcases (show i = 4 * H ∨ i = 4 * H + 1 ∨ i = 4 * H + 2 ∨ i = 4 * H + 3 by omega) with rfl | rfl | rfl | rfl
        · rw [up4_0, up4_0]
          exact ⟨rfl, _, v9 0 (by omega), rfl⟩
        · rw [up4_1, show 24 + (4 * H + 1) = 24 + 4 * H + 1 by omega, up4_1]
          exact ⟨rfl, _, v9 1 (by omega), rfl⟩
        · rw [up4_2, show 24 + (4 * H + 2) = 24 + 4 * H + 2 by omega, up4_2]
          exact ⟨rfl, _, v9 2 (by omega), rfl⟩
        · rw [up4_3, show 24 + (4 * H + 3) = 24 + 4 * H + 3 by omega, up4_3]
          exact ⟨rfl, _, v9 3 (by omega), rfl⟩
    · show upd (upd (upd (upd wc (4 * H) _) (4 * H + 1) _) (4 * H + 2) _) (4 * H + 3) _ i = 0
      rw [up4_out (Or.inr (by omega))]
      exact d4 i (by omega) h2
    · show upd ea H _ h = upd E (6 + H) _ (6 + h) ∧ ∃ k, 1 ≤ k ∧ k ≤ 9 ∧ upd ea H _ h = nI k
      by_cases g : h = H
      · subst g
        rw [pk_us, pk_us]
        exact ⟨rfl, _, v4.1, v4.2, rfl⟩
      · rw [pk_un g, pk_un (by omega)]
        exact d5 h (by omega)
    · show upd ea H _ h = 0
      rw [pk_un (by omega)]
      exact d6 h (by omega) h2
    · show ba h = upd B (6 + H) _ (6 + h) ∧ ∃ k, k < 16 ∧ ba h = nI k
      by_cases g : h = H
      · subst g
        rw [pk_us, d8 h (Nat.le_refl h) (by omega)]
        exact ⟨rfl, 0, by omega, rfl⟩
      · rw [pk_un (by omega)]
        exact d7 h (by omega)
  · have n0 : nb' 0 = nI (VV (ps9 AT p 0)) := by rw [hnb]; rfl
    have n1 : nb' 1 = nI (VV (ps9 AT p 1)) := by rw [hnb]; rfl
    have v0 : VV (ps9 AT p 0) < H := by
      have h := (hm 0 (show 0 < 2 by omega)).2
      unfold okV at h
      rw [if_neg (by omega), if_pos rfl, if_pos rfl] at h
      exact h
    have v1 : VV (ps9 AT p 1) ≤ 3 := by
      have h := (hm 1 (show 1 < 2 by omega)).2
      unfold okV at h
      rw [if_neg (by omega), if_pos rfl, if_neg (by omega)] at h
      exact h
    have eD : endD 5 H la pr me wc ea ba nb' = (nI H, la, pr, me, wc, ea, upd ba (nb' 0).toNatClampNeg (ba (nb' 0).toNatClampNeg ||| ((1 : Int32) <<< (nb' 1 &&& 31)))) := rfl
    have eW : mW AT VV 5 H p W = W := rfl
    have eE : mE AT VV 5 H p E = E := rfl
    have eB : mB AT VV 5 H p B = upd B (6 + VV (ps9 AT p 0)) (B (6 + VV (ps9 AT p 0)) ||| ((1 : Int32) <<< (nI (VV (ps9 AT p 1)) &&& 31))) := rfl
    have eL : mL AT VV 5 p L = L := rfl
    have eH : mH 5 H = H := rfl
    rw [eD, eW, eE, eB, eL, eH, n0, n1, nI_clamp (show VV (ps9 AT p 0) < 2 ^ 31 by omega)]
    refine ⟨rfl, d1, o5, d3, d4, d5, d6, fun h hh => ?_, fun h h1 h2 => ?_, RL_keep (by decide) r6, RL_keep (by decide) r7, RL_keep (by decide) r8⟩
    · show upd ba (VV (ps9 AT p 0)) _ h = upd B (6 + VV (ps9 AT p 0)) _ (6 + h) ∧ ∃ k, k < 16 ∧ upd ba (VV (ps9 AT p 0)) _ h = nI k
      by_cases g : h = VV (ps9 AT p 0)
      · rw [g, pk_us, pk_us]
        obtain ⟨b1, k, hk, b2⟩ := d7 (VV (ps9 AT p 0)) v0
        obtain ⟨q1, q2, q3⟩ := once_eq k (by omega) (VV (ps9 AT p 1)) (by omega)
        rw [← b1, b2, q1]
        exact ⟨rfl, _, or16 k hk _ (by omega), rfl⟩
      · rw [pk_un g, pk_un (by omega)]
        exact d7 h hh
    · show upd ba (VV (ps9 AT p 0)) _ h = 0
      rw [pk_un (by omega)]
      exact d8 h h1 h2
  · have n0 : nb' 0 = nI (VV (ps9 AT p 0)) := by rw [hnb]; rfl
    have v0 : VV (ps9 AT p 0) ≤ 2 := by
      have h := (hm 0 (show 0 < 1 by omega)).2
      unfold okV at h
      rw [if_neg (by omega), if_neg (by omega), if_pos rfl] at h
      exact h
    have eD : endD 6 H la pr me wc ea ba nb' = (nI H, nb' 0, pr, me, wc, ea, ba) := rfl
    have eL : mL AT VV 6 p L = upd L 3 (nI (VV (ps9 AT p 0))) := rfl
    rw [eD, eL, n0]
    refine ⟨rfl, d1, o5, d3, d4, d5, d6, d7, d8, ?_, ?_, ?_⟩
    · show Rul9 (o ||| 2 ^ 6) 6 (nI (VV (ps9 AT p 0))) (upd L 3 (nI (VV (ps9 AT p 0))) 3) 0 2
      rw [pk_us]
      exact RL_set v0
    · show Rul9 (o ||| 2 ^ 6) 7 pr (upd L 3 (nI (VV (ps9 AT p 0))) 4) 0 9
      rw [pk_un (by decide)]
      exact RL_keep (by decide) r7
    · show Rul9 (o ||| 2 ^ 6) 8 me (upd L 3 (nI (VV (ps9 AT p 0))) 5) 1 9
      rw [pk_un (by decide)]
      exact RL_keep (by decide) r8
  · have n0 : nb' 0 = nI (VV (ps9 AT p 0)) := by rw [hnb]; rfl
    have v0 : VV (ps9 AT p 0) ≤ 9 := by
      have h := (hm 0 (show 0 < 1 by omega)).2
      unfold okV at h
      rw [if_neg (by omega), if_neg (by omega), if_neg (by omega)] at h
      exact h
    have eD : endD 7 H la pr me wc ea ba nb' = (nI H, la, nb' 0, me, wc, ea, ba) := rfl
    have eL : mL AT VV 7 p L = upd L 4 (nI (VV (ps9 AT p 0))) := rfl
    rw [eD, eL, n0]
    refine ⟨rfl, d1, o5, d3, d4, d5, d6, d7, d8, ?_, ?_, ?_⟩
    · show Rul9 (o ||| 2 ^ 7) 6 la (upd L 4 (nI (VV (ps9 AT p 0))) 3) 0 2
      rw [pk_un (by decide)]
      exact RL_keep (by decide) r6
    · show Rul9 (o ||| 2 ^ 7) 7 (nI (VV (ps9 AT p 0))) (upd L 4 (nI (VV (ps9 AT p 0))) 4) 0 9
      rw [pk_us]
      exact RL_set v0
    · show Rul9 (o ||| 2 ^ 7) 8 me (upd L 4 (nI (VV (ps9 AT p 0))) 5) 1 9
      rw [pk_un (by decide)]
      exact RL_keep (by decide) r8
  · have n0 : nb' 0 = nI (VV (ps9 AT p 0)) := by rw [hnb]; rfl
    have v0 : VV (ps9 AT p 0) ≤ 9 := by
      have h := (hm 0 (show 0 < 1 by omega)).2
      unfold okV at h
      rw [if_neg (by omega), if_neg (by omega), if_neg (by omega)] at h
      exact h
    have eD : endD 8 H la pr me wc ea ba nb' = (nI H, la, pr, nb' 0, wc, ea, ba) := rfl
    have eL : mL AT VV 8 p L = upd L 5 (nI (VV (ps9 AT p 0))) := rfl
    rw [eD, eL, n0]
    refine ⟨rfl, d1, o5, d3, d4, d5, d6, d7, d8, ?_, ?_, ?_⟩
    · show Rul9 (o ||| 2 ^ 8) 6 la (upd L 5 (nI (VV (ps9 AT p 0))) 3) 0 2
      rw [pk_un (by decide)]
      exact RL_keep (by decide) r6
    · show Rul9 (o ||| 2 ^ 8) 7 pr (upd L 5 (nI (VV (ps9 AT p 0))) 4) 0 9
      rw [pk_un (by decide)]
      exact RL_keep (by decide) r7
    · show Rul9 (o ||| 2 ^ 8) 8 (nI (VV (ps9 AT p 0))) (upd L 5 (nI (VV (ps9 AT p 0))) 5) 1 9
      rw [pk_us]
      exact RL_set v0
theorem may_iff {k H o : Nat} {la pr me : Int32} {wc ea ba W E B L : Nat → Int32} (hk : k ≤ 8) (hD : DR H o la pr me wc ea ba W E B L) : mayM k H L ↔ may9 k H o := by
  obtain ⟨d1, d2, d3, d4, d5, d6, d7, d8, r6, r7, r8⟩ := hD
  unfold mayM may9
  by_cases h6 : 6 ≤ k
  · have e : L (k - 3) = -9 ↔ o.testBit k = false := by
      rcases (show k = 6 ∨ k = 7 ∨ k = 8 by omega) with rfl | rfl | rfl
      · exact RL_iff (by omega) r6
      · exact RL_iff (by omega) r7
      · exact RL_iff (by omega) r8
    rw [e]
  · constructor
    · rintro (h | h | h)
      · exact Or.inl h
      · exact Or.inr (Or.inl h)
      · exact absurd h.1 h6
    · rintro (h | h | h)
      · exact Or.inl h
      · exact Or.inr (Or.inl h)
      · exact absurd h.1 h6
theorem first_ex {P : Nat → Prop} : ∀ n, ∃ m, m ≤ n ∧ (∀ i, i < m → P i) ∧ (m < n → ¬ P m)
  | 0 => ⟨0, Nat.le_refl _, fun i hi => absurd hi (by omega), fun h => absurd h (by omega)⟩
  | n + 1 => by
    obtain ⟨m, h1, h2, h3⟩ := first_ex (P := P) n
    by_cases e : m < n
    · exact ⟨m, by omega, h2, fun _ => h3 e⟩
    · by_cases c : P n
      · refine ⟨n + 1, Nat.le_refl _, fun i hi => ?_, fun h => absurd h (by omega)⟩
        rcases Nat.lt_or_ge i m with z | z
        · exact h2 i z
        · rw [show i = n by omega]; exact c
      · exact ⟨n, by omega, fun i hi => h2 i (by omega), fun _ => c⟩
