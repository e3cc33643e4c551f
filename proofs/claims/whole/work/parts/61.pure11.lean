theorem it1_go {A0 R : Type} {f : (A0 → Option R) → A0 → Option R} (N : Nat) (a0 : Nat → A0) (out : Option R) {x0 : A0} (e0 : x0 = a0 0) (hs : ∀ i, i < N → ∀ self, f self (a0 i) = self (a0 (i + 1))) (ho : ∀ self, f self (a0 N) = out) (n : Nat) (hn : N < n) : it1 f n x0 = out := by
  subst e0
  exact it1_run N a0 out hs ho n hn
theorem it3_go {A0 A1 A2 R : Type} {f : (A0 → A1 → A2 → Option R) → A0 → A1 → A2 → Option R} (N : Nat) (a0 : Nat → A0) (a1 : Nat → A1) (a2 : Nat → A2) (out : Option R) {x0 : A0} {x1 : A1} {x2 : A2} (e0 : x0 = a0 0) (e1 : x1 = a1 0) (e2 : x2 = a2 0) (hs : ∀ i, i < N → ∀ self, f self (a0 i) (a1 i) (a2 i) = self (a0 (i + 1)) (a1 (i + 1)) (a2 (i + 1))) (ho : ∀ self, f self (a0 N) (a1 N) (a2 N) = out) (n : Nat) (hn : N < n) : it3 f n x0 x1 x2 = out := by
  subst e0; subst e1; subst e2
  exact it3_run N a0 a1 a2 out hs ho n hn
theorem shr16 (l : Int32) : (l.toUInt32 >>> ((16 : Int32).toUInt32 &&& Int32.toUInt32 31)).toInt32 = (l >>> ((16 : Int32) &&& 31)) &&& 65535 := by
  refine b_ext (fun i hi => ?_)
  have h1 := b_ushr 16 (by omega) l i
  have h2 := b_sshr 16 (by omega) l hi
  rw [b_and, b_65535]
  refine h1.trans ?_
  rw [show (l >>> ((16 : Int32) &&& 31)) = l >>> (nI 16 &&& 31) from rfl, h2]
  by_cases q : i < 16
  · rw [if_pos (by omega)]; simp [q]
  · rw [b_big (by omega)]; simp [q]
theorem sumI_nI {f : Nat → Int32} {q : Nat → Nat} : ∀ {n : Nat}, (∀ i, i < n → f i = nI (q i)) → sumI f n = nI (fb_sm q n)
  | 0, _ => rfl
  | n + 1, h => by
    have e := sumI_nI (f := f) (q := q) (n := n) (fun i hi => h i (by omega))
    rw [sumI, e, h n (by omega), nI_add, fb_sm_succ]
theorem together_eq {w : Nat → Int32} {h : Nat} (hh : h < 6) : fX4_together w (nI h) = some (sumI (fun s => w (4 * h + s)) 4) := by
  unfold fX4_together
  refine it2_run 4 (fun i => sumI (fun s => w (4 * h + s)) i) (fun i => nI i) _ (fun i hi self => ?_) (fun self => ?_) 100000 (by decide)
  · simp only [X4_together_S4, if_neg (show ¬ (4 : Int32) ≤ nI i from nI_ge (a := i) (b := 4) hi (by omega)), of_eq hh hi, some_bind9, lets_def, Lp1, sumI]
  · simp only [X4_together_S4, if_pos (show (4 : Int32) ≤ nI 4 by decide)]
theorem weightsOf_eq {S : Nat → Int32} {h : Nat} (hh : h < 6) : fX7_weightsOf S (nI h) = some (sumI (fun s => S (4 * h + s)) 4) := by
  have ok0 : okx (nI (4 * h)) 67 := okx_nI (by omega) (by omega)
  have ok1 : okx (nI (4 * h + 1)) 67 := okx_nI (by omega) (by omega)
  have ok2 : okx (nI (4 * h + 2)) 67 := okx_nI (by omega) (by omega)
  have ok3 : okx (nI (4 * h + 3)) 67 := okx_nI (by omega) (by omega)
  simp only [fX7_weightsOf, L4m, Lp1, Lp2, Lp3, gd_t ok0, gd_t ok1, gd_t ok2, gd_t ok3, nI_clamp (show 4 * h < 2 ^ 31 by omega), nI_clamp (show 4 * h + 1 < 2 ^ 31 by omega), nI_clamp (show 4 * h + 2 < 2 ^ 31 by omega), nI_clamp (show 4 * h + 3 < 2 ^ 31 by omega), sumI, Int32.zero_add, Nat.add_zero]
theorem pq_find {q : Nat → Nat} {d : Nat} : ∀ {n : Nat}, d < fb_sm q n → ∃ k, k < n ∧ d < fb_sm q (k + 1) ∧ ∀ i, i < k → fb_sm q (i + 1) ≤ d
  | 0, h => absurd h (by simp [fb_sm])
  | n + 1, h => by
    rcases Nat.lt_or_ge d (fb_sm q n) with g | g
    · obtain ⟨k, h1, h2, h3⟩ := pq_find g
      exact ⟨k, by omega, h2, h3⟩
    · refine ⟨n, by omega, h, fun i hi => ?_⟩
      exact Nat.le_trans (by have := fb_sm_mono q (i + 1) (n - (i + 1)); rw [show i + 1 + (n - (i + 1)) = n by omega] at this; exact this) g
theorem drawX_loop {L : Int32} {w : Nat → Int32} {h d k : Nat} (hh : h < 6) {q : Nat → Nat} (hq : ∀ s, s < 4 → w (4 * h + s) = nI (q s)) (hps : ∀ i, i ≤ 4 → fb_sm q i ≤ 36) (hd : d < 100) (hk : k < 4) (h2 : d < fb_sm q (k + 1)) (h3 : ∀ i, i < k → fb_sm q (i + 1) ≤ d) : it2 (X1_drawn_S47 w (nI h) L (nI d)) 100000 0 0 = some (nI k, L) := by
  refine it2_go k (fun i => nI (fb_sm q i)) (fun i => nI i) _ rfl rfl (fun i hi self => ?_) (fun self => ?_) 100000 (by omega)
  · have hle : nI (fb_sm q (i + 1)) ≤ nI d := nI_le (h3 i hi) (by omega)
    simp only [X1_drawn_S47, if_neg (show ¬ (4 : Int32) ≤ nI i from nI_ge (a := i) (b := 4) (by omega) (by omega)), of_eq hh (show i < 4 by omega), hq i (by omega), some_bind9, lets_def, nI_add, ← fb_sm_succ, if_pos hle, Lp1]
  · have hle : ¬ nI (fb_sm q (k + 1)) ≤ nI d := nI_ge h2 (by have := hps (k + 1) (by omega); omega)
    simp only [X1_drawn_S47, if_neg (show ¬ (4 : Int32) ≤ nI k from nI_ge (a := k) (b := 4) (by omega) (by omega)), of_eq hh hk, hq k hk, some_bind9, lets_def, nI_add, ← fb_sm_succ, if_neg hle]
theorem drawM_loop {S : Nat → Int32} {h d k : Nat} (hh : h < 6) {q : Nat → Nat} (hq : ∀ s, s < 4 → S (4 * h + s) = nI (q s)) (hps : ∀ i, i ≤ 4 → fb_sm q i ≤ 36) (hd : d < 100) (hk : k < 4) (h2 : d < fb_sm q (k + 1)) (h3 : ∀ i, i < k → fb_sm q (i + 1) ≤ d) : it2 (X7_drawn_S46 (nI h) S (nI d)) 100000 0 0 = some (nI k, S) := by
  refine it2_go k (fun i => nI (fb_sm q i)) (fun i => nI i) _ rfl rfl (fun i hi self => ?_) (fun self => ?_) 100000 (by omega)
  · have hle : nI (fb_sm q (i + 1)) ≤ nI d := nI_le (h3 i hi) (by omega)
    have ok : okx (nI (4 * h + i)) 67 := okx_nI (by omega) (by omega)
    simp only [X7_drawn_S46, if_neg (show ¬ (4 : Int32) ≤ nI i from nI_ge (a := i) (b := 4) (by omega) (by omega)), nI4', gd_t ok, nI_clamp (show 4 * h + i < 2 ^ 31 by omega), hq i (by omega), lets_def, nI_add, ← fb_sm_succ, if_pos hle, Lp1]
  · have hle : ¬ nI (fb_sm q (k + 1)) ≤ nI d := nI_ge h2 (by have := hps (k + 1) (by omega); omega)
    have ok : okx (nI (4 * h + k)) 67 := okx_nI (by omega) (by omega)
    simp only [X7_drawn_S46, if_neg (show ¬ (4 : Int32) ≤ nI k from nI_ge (a := k) (b := 4) (by omega) (by omega)), nI4', gd_t ok, nI_clamp (show 4 * h + k < 2 ^ 31 by omega), hq k hk, lets_def, nI_add, ← fb_sm_succ, if_neg hle]
theorem drawn_x {L Q : Int32} {m r : Nat} {w : Nat → Int32} {x : Int32} {lo : Int32} (eL : lo * 1103515245 + 12345 = L) (hW : fX4_together w x = some Q) (n0 : ¬ Q = 0) (em : (L >>> ((16 : Int32) &&& 31)) &&& 65535 = nI m) (er : nI m - nI m / Q * Q = nI r) : fX1_drawn lo w x = it2 (X1_drawn_S47 w x L (nI r)) 100000 0 0 := by
  unfold fX1_drawn
  rw [eL, hW, some_bind9, if_neg n0, lets_def, gd_t n0, lets_def, shr16, em, er]
theorem drawn_m {L Q : Int32} {m r : Nat} {S : Nat → Int32} {x : Int32} (eL : S 66 * 1103515245 + 12345 = L) (hW : fX7_weightsOf (upd S 66 L) x = some Q) (n0 : ¬ Q = 0) (em : (L >>> ((16 : Int32) &&& 31)) &&& 65535 = nI m) (er : nI m - nI m / Q * Q = nI r) : fX7_drawn S x = it2 (X7_drawn_S46 x (upd S 66 L) (nI r)) 100000 0 0 := by
  unfold fX7_drawn
  rw [cl66, eL, lets_def, hW, some_bind9, gd_t n0, lets_def, pk_us, em, er]
theorem drawn_both {lo : Int32} {w S : Nat → Int32} {h : Nat} (hh : h < 6) {q : Nat → Nat} (hq : ∀ s, s < 4 → w (4 * h + s) = nI (q s)) (hS : ∀ s, s < 4 → S (4 * h + s) = nI (q s)) (h9 : ∀ s, s < 4 → q s ≤ 9) (hp : 0 < fb_sm q 4) (hl : lo = S 66) :
    ∃ k lo', k < 4 ∧ fX1_drawn lo w (nI h) = some (nI k, lo') ∧ fX7_drawn S (nI h) = some (nI k, upd S 66 lo') := by
  have hb : fb_sm q 4 ≤ 4 * 9 := fb_sm_bound h9
  obtain ⟨L, eL⟩ : ∃ L, S 66 * 1103515245 + 12345 = L := ⟨_, rfl⟩
  obtain ⟨m, hm, em⟩ := nx_mask (L >>> ((16 : Int32) &&& 31))
  have n0 : ¬ nI (fb_sm q 4) = 0 := nI_ne0 hp (by omega)
  have er : nI m - nI m / nI (fb_sm q 4) * nI (fb_sm q 4) = nI (m % fb_sm q 4) := pk_rem (by omega) hp (by omega)
  obtain ⟨k, hk, h2, h3⟩ := pq_find (q := q) (n := 4) (Nat.mod_lt m hp)
  have hmq : m % fb_sm q 4 < 100 := Nat.lt_of_lt_of_le (Nat.mod_lt m hp) (by omega)
  have hps : ∀ i, i ≤ 4 → fb_sm q i ≤ 36 := fun i hi => by
    have := fb_sm_mono q i (4 - i)
    rw [show i + (4 - i) = 4 by omega] at this
    omega
  have e4 : ∀ s, s < 4 → upd S 66 L (4 * h + s) = nI (q s) := fun s hs => by rw [pk_un (by omega)]; exact hS s hs
  subst hl
  refine ⟨k, L, hk, ?_, ?_⟩
  · rw [drawn_x eL (by rw [together_eq hh, sumI_nI hq]) n0 em er]
    exact drawX_loop hh hq hps hmq hk h2 h3
  · rw [drawn_m eL (by rw [weightsOf_eq hh, sumI_nI e4]) n0 em er]
    exact drawM_loop hh e4 hps hmq hk h2 h3
theorem rem4 {a : Nat} (ha : a < 2 ^ 31) : nI a - nI a / (4 : Int32) * (4 : Int32) = nI (a % 4) := pk_rem (d := 4) ha (by omega) (by omega)
theorem q_le0 {q : Nat} (h : q ≤ 9) : nI q ≤ 0 ↔ q = 0 := by
  have := nI_leI (a := q) (b := 0) (by omega) (by omega)
  rw [nI_0] at this
  rw [this]; omega
theorem q_eq0 {q : Nat} (h : q ≤ 9) : nI q = 0 ↔ q = 0 := by
  have := nI_eq (a := q) (b := 0) (by omega) (by omega)
  rw [nI_0] at this
  exact this
theorem sm4 (q : Nat → Nat) : fb_sm q 4 = q 0 + q 1 + q 2 + q 3 := by simp only [fb_sm, Nat.zero_add]
theorem letters_both {w S : Nat → Int32} {h : Nat} (hh : h < 6) {q : Nat → Nat} (hq : ∀ s, s < 4 → w (4 * h + s) = nI (q s)) (hS : ∀ s, s < 4 → S (4 * h + s) = nI (q s)) (h9 : ∀ s, s < 4 → q s ≤ 9) (hp : 0 < fb_sm q 4) :
    ∃ k, k < 4 ∧ fX4_nextFrom w (nI (h % 4)) (nI h) = some (nI k) ∧ fX7_byLetters S (nI h) = some (nI k) := by
  rw [sm4] at hp
  obtain ⟨k, hk, h2, h3⟩ := fb_first (p := fun i => 0 < q ((h % 4 + i) % 4)) (n := 4) (by
    rcases (show 0 < q 0 ∨ 0 < q 1 ∨ 0 < q 2 ∨ 0 < q 3 by omega) with e | e | e | e
    · exact ⟨(4 - h % 4) % 4, by omega, by rw [show (h % 4 + (4 - h % 4) % 4) % 4 = 0 by omega]; exact e⟩
    · exact ⟨(5 - h % 4) % 4, by omega, by rw [show (h % 4 + (5 - h % 4) % 4) % 4 = 1 by omega]; exact e⟩
    · exact ⟨(6 - h % 4) % 4, by omega, by rw [show (h % 4 + (6 - h % 4) % 4) % 4 = 2 by omega]; exact e⟩
    · exact ⟨(7 - h % 4) % 4, by omega, by rw [show (h % 4 + (7 - h % 4) % 4) % 4 = 3 by omega]; exact e⟩)
  refine ⟨(h % 4 + k) % 4, by omega, ?_, ?_⟩
  · unfold fX4_nextFrom
    refine it1_go k (fun i => nI i) _ rfl (fun i hi self => ?_) (fun self => ?_) 100000 (by omega)
    · have hz : q ((h % 4 + i) % 4) = 0 := by have := h3 i hi; omega
      simp only [X4_nextFrom_S2, if_neg (show ¬ (4 : Int32) ≤ nI i from nI_ge (a := i) (b := 4) (by omega) (by omega)), lets_def, nI_add, rem4 (show h % 4 + i < 2 ^ 31 by omega), of_eq hh (show (h % 4 + i) % 4 < 4 by omega), hq _ (show (h % 4 + i) % 4 < 4 by omega), some_bind9, if_pos ((q_le0 (h9 _ (show (h % 4 + i) % 4 < 4 by omega))).mpr hz), Lp1]
    · have hz : ¬ q ((h % 4 + k) % 4) = 0 := by have : 0 < q ((h % 4 + k) % 4) := h2; omega
      simp only [X4_nextFrom_S2, if_neg (show ¬ (4 : Int32) ≤ nI k from nI_ge (a := k) (b := 4) (by omega) (by omega)), lets_def, nI_add, rem4 (show h % 4 + k < 2 ^ 31 by omega), of_eq hh (show (h % 4 + k) % 4 < 4 by omega), hq _ (show (h % 4 + k) % 4 < 4 by omega), some_bind9, if_neg (fun e => hz ((q_le0 (h9 _ (show (h % 4 + k) % 4 < 4 by omega))).mp e))]
  · unfold fX7_byLetters
    rw [rem4 (by omega), lets_def]
    refine it1_go k (fun i => nI ((h % 4 + i) % 4)) _ (by rw [Nat.add_zero, Nat.mod_mod]) (fun i hi self => ?_) (fun self => ?_) 100000 (by omega)
    · have hz : q ((h % 4 + i) % 4) = 0 := by have := h3 i hi; omega
      have ok : okx (nI (4 * h + (h % 4 + i) % 4)) 67 := okx_nI (by omega) (by omega)
      simp only [X7_byLetters_S4, nI4', gd_t ok, nI_clamp (show 4 * h + (h % 4 + i) % 4 < 2 ^ 31 by omega), hS _ (show (h % 4 + i) % 4 < 4 by omega), if_pos ((q_eq0 (h9 _ (show (h % 4 + i) % 4 < 4 by omega))).mpr hz), lets_def, Lp1, rem4 (show (h % 4 + i) % 4 + 1 < 2 ^ 31 by omega)]
      rw [show ((h % 4 + i) % 4 + 1) % 4 = (h % 4 + (i + 1)) % 4 by omega]
    · have hz : ¬ q ((h % 4 + k) % 4) = 0 := by have : 0 < q ((h % 4 + k) % 4) := h2; omega
      have ok : okx (nI (4 * h + (h % 4 + k) % 4)) 67 := okx_nI (by omega) (by omega)
      simp only [X7_byLetters_S4, nI4', gd_t ok, nI_clamp (show 4 * h + (h % 4 + k) % 4 < 2 ^ 31 by omega), hS _ (show (h % 4 + k) % 4 < 4 by omega), if_neg (fun e => hz ((q_eq0 (h9 _ (show (h % 4 + k) % 4 < 4 by omega))).mp e))]
theorem letters_none {w : Nat → Int32} {h : Nat} (hh : h < 6) (hw : ∀ s, s < 4 → w (4 * h + s) = 0) : fX4_nextFrom w (nI (h % 4)) (nI h) = some (-9) := by
  unfold fX4_nextFrom
  refine it1_go 4 (fun i => nI i) _ rfl (fun i hi self => ?_) (fun self => ?_) 100000 (by omega)
  · simp only [X4_nextFrom_S2, if_neg (show ¬ (4 : Int32) ≤ nI i from nI_ge (a := i) (b := 4) (by omega) (by omega)), lets_def, nI_add, rem4 (show h % 4 + i < 2 ^ 31 by omega), of_eq hh (show (h % 4 + i) % 4 < 4 by omega), hw _ (show (h % 4 + i) % 4 < 4 by omega), some_bind9, if_pos (show (0 : Int32) ≤ 0 by decide), Lp1]
  · simp only [X4_nextFrom_S2, if_pos (show (4 : Int32) ≤ nI 4 by decide)]
/-! the board: the least of a key, of several the first -/
def encO : Option Nat → Int32
  | none => -9
  | some k => nI k
def upB (av : Nat → Bool) (ky : Nat → Int) : Nat → Option Nat
  | 0 => none
  | i + 1 => match upB av ky i with
    | none => if av i then some i else none
    | some k => if av i && decide (ky i < ky k) then some i else some k
def dnB (av : Nat → Bool) (ky : Nat → Int) : Nat → Option Nat
  | 0 => none
  | i + 1 => match dnB av ky i with
    | none => if av (3 - i) then some (3 - i) else none
    | some k => if av (3 - i) && decide (ky (3 - i) ≤ ky k) then some (3 - i) else some k
theorem upB_inv {av : Nat → Bool} {ky : Nat → Int} : ∀ i, (upB av ky i = none ∧ ∀ s, s < i → av s = false) ∨ ∃ k, k < i ∧ upB av ky i = some k ∧ av k = true ∧ (∀ s, s < i → av s = true → ky k ≤ ky s) ∧ ∀ s, s < k → av s = true → ky k < ky s
  | 0 => Or.inl ⟨rfl, fun s hs => absurd hs (by omega)⟩
  | i + 1 => by
    rcases upB_inv (av := av) (ky := ky) i with ⟨h1, h2⟩ | ⟨k, hk, h1, h2, h3, h4⟩
    · cases ha : av i with
      | true =>
        right
        refine ⟨i, by omega, by simp [upB, h1, ha], ha, fun s hs h => ?_, fun s hs h => ?_⟩
        · rcases Nat.lt_or_ge s i with g | g
          · rw [h2 s g] at h; exact absurd h (by decide)
          · rw [show s = i by omega]; exact Int.le_refl _
        · rw [h2 s hs] at h; exact absurd h (by decide)
      | false =>
        left
        refine ⟨by simp [upB, h1, ha], fun s hs => ?_⟩
        rcases Nat.lt_or_ge s i with g | g
        · exact h2 s g
        · rw [show s = i by omega]; exact ha
    · right
      by_cases hc : av i = true ∧ ky i < ky k
      · refine ⟨i, by omega, by simp [upB, h1, hc.1, hc.2], hc.1, fun s hs h => ?_, fun s hs h => ?_⟩
        · rcases Nat.lt_or_ge s i with g | g
          · have := h3 s g h; omega
          · rw [show s = i by omega]; exact Int.le_refl _
        · have := h3 s hs h; omega
      · refine ⟨k, by omega, ?_, h2, fun s hs h => ?_, h4⟩
        · simp only [upB, h1]
          rw [if_neg]
          intro e
          simp only [Bool.and_eq_true, decide_eq_true_eq] at e
          exact hc e
        · rcases Nat.lt_or_ge s i with g | g
          · exact h3 s g h
          · rw [show s = i by omega] at h ⊢
            have : ¬ ky i < ky k := fun e => hc ⟨h, e⟩
            omega
theorem dnB_inv {av : Nat → Bool} {ky : Nat → Int} : ∀ i, i ≤ 4 → (dnB av ky i = none ∧ ∀ s, 4 - i ≤ s → s < 4 → av s = false) ∨ ∃ k, 4 - i ≤ k ∧ k < 4 ∧ dnB av ky i = some k ∧ av k = true ∧ (∀ s, 4 - i ≤ s → s < 4 → av s = true → ky k ≤ ky s) ∧ ∀ s, 4 - i ≤ s → s < k → av s = true → ky k < ky s
  | 0, _ => Or.inl ⟨rfl, fun s hs h => absurd hs (by omega)⟩
  | i + 1, hi => by
    rcases dnB_inv (av := av) (ky := ky) i (by omega) with ⟨h1, h2⟩ | ⟨k, hk0, hk, h1, h2, h3, h4⟩
    · cases ha : av (3 - i) with
      | true =>
        right
        refine ⟨3 - i, by omega, by omega, by simp [dnB, h1, ha], ha, fun s g0 hs h => ?_, fun s g0 hs h => ?_⟩
        · rcases Nat.lt_or_ge (3 - i) s with g | g
          · rw [h2 s (by omega) hs] at h; exact absurd h (by decide)
          · rw [show s = 3 - i by omega]; exact Int.le_refl _
        · omega
      | false =>
        left
        refine ⟨by simp [dnB, h1, ha], fun s g0 hs => ?_⟩
        rcases Nat.lt_or_ge (3 - i) s with g | g
        · exact h2 s (by omega) hs
        · rw [show s = 3 - i by omega]; exact ha
    · right
      by_cases hc : av (3 - i) = true ∧ ky (3 - i) ≤ ky k
      · refine ⟨3 - i, by omega, by omega, by simp [dnB, h1, hc.1, hc.2], hc.1, fun s g0 hs h => ?_, fun s g0 hs h => ?_⟩
        · rcases Nat.lt_or_ge (3 - i) s with g | g
          · have := h3 s (by omega) hs h; omega
          · rw [show s = 3 - i by omega]; exact Int.le_refl _
        · omega
      · refine ⟨k, by omega, hk, ?_, h2, fun s g0 hs h => ?_, fun s g0 hs h => ?_⟩
        · simp only [dnB, h1]
          rw [if_neg]
          intro e
          simp only [Bool.and_eq_true, decide_eq_true_eq] at e
          exact hc e
        · rcases Nat.lt_or_ge (3 - i) s with g | g
          · exact h3 s (by omega) hs h
          · rw [show s = 3 - i by omega] at h ⊢
            have : ¬ ky (3 - i) ≤ ky k := fun e => hc ⟨h, e⟩
            omega
        · rcases Nat.lt_or_ge (3 - i) s with g | g
          · exact h4 s (by omega) hs h
          · rw [show s = 3 - i by omega] at h ⊢
            have : ¬ ky (3 - i) ≤ ky k := fun e => hc ⟨h, e⟩
            omega
theorem up_dn (av : Nat → Bool) (ky : Nat → Int) : dnB av ky 4 = upB av ky 4 := by
  rcases upB_inv (av := av) (ky := ky) 4 with ⟨h1, h2⟩ | ⟨k, hk, h1, h2, h3, h4⟩
  · rcases dnB_inv (av := av) (ky := ky) 4 (by omega) with ⟨g1, g2⟩ | ⟨j, -, hj, g1, g2, -⟩
    · rw [h1, g1]
    · rw [h2 j hj] at g2; exact absurd g2 (by decide)
  · rcases dnB_inv (av := av) (ky := ky) 4 (by omega) with ⟨g1, g2⟩ | ⟨j, -, hj, g1, g2, g3, g4⟩
    · rw [g2 k (by omega) hk] at h2; exact absurd h2 (by decide)
    · rcases Nat.lt_trichotomy k j with e | e | e
      · have := g4 k (by omega) e h2
        have := h3 j hj g2
        omega
      · rw [h1, g1, e]
      · have := h4 j e g2
        have := g3 k (by omega) hk h2
        omega
/-- how many of the first m rows are a sort's -/
def cnN (b : Nat → Int32) (x : Int32) : Nat → Nat := fb_sm (fun h => if b h = x then 1 else 0)
theorem cntB_nI {b : Nat → Int32} {x : Int32} {m : Nat} : cntB b x m = nI (cnN b x m) := by
  refine sumI_nI (fun i hi => ?_)
  split <;> rfl
theorem cnN_le {b : Nat → Int32} {x : Int32} {m : Nat} : cnN b x m ≤ m := by
  have := fb_sm_bound (f := fun h => if b h = x then 1 else 0) (c := 1) (n := m) (fun k _ => by split <;> omega)
  rw [Nat.mul_one] at this
  exact this
def bky (b : Nat → Int32) (q : Nat → Nat) (m : Nat) (s : Nat) : Int := 16 * (cnN b (nI s) m : Int) - q s
def bav (q : Nat → Nat) (s : Nat) : Bool := decide (0 < q s)
theorem better_eq {w br : Nat → Int32} {h : Nat} (hh : h < 6) {q : Nat → Nat} (hq : ∀ s, s < 4 → w (4 * h + s) = nI (q s)) (h9 : ∀ s, s < 4 → q s ≤ 9) {s k : Nat} (hs : s < 4) (hk : k < 4) :
    fX1_isBetter w br (nI h) (nI s) (nI k) = some (if bky br q 6 s < bky br q 6 k then 1 else 0) := by
  have c1 := cnN_le (b := br) (x := nI s) (m := 6)
  have c2 := cnN_le (b := br) (x := nI k) (m := 6)
  have g1 := h9 s hs
  have g2 := h9 k hk
  have ed : (nI (cnN br (nI k) 6) - nI (cnN br (nI s) 6)).toInt = (cnN br (nI k) 6 : Int) - cnN br (nI s) 6 := pk_sub_toInt (by omega) (by omega)
  have e0 : (0 : Int32).toInt = 0 := rfl
  simp only [fX1_isBetter, X1_isBetter_J44, bringersOf_eq, some_bind9, lets_def, cntB_nI, of_eq hh hs, of_eq hh hk, hq s hs, hq k hk]
  by_cases hl : bky br q 6 s < bky br q 6 k
  · rw [if_pos hl]
    unfold bky at hl
    by_cases a1 : (0 : Int32) < nI (cnN br (nI k) 6) - nI (cnN br (nI s) 6)
    · rw [if_pos a1]
    · rw [if_neg a1]
      rw [Int32.lt_iff_toInt_lt, ed, e0] at a1
      have a2 : nI (cnN br (nI k) 6) - nI (cnN br (nI s) 6) = 0 := by rw [← Int32.toInt_inj, ed, e0]; omega
      have a3 : ¬ nI (q s) ≤ nI (q k) := by
        rw [nI_leI (by omega) (by omega)]
        rw [← Int32.toInt_inj, ed, e0] at a2
        omega
      rw [if_pos a2, if_neg a3]
  · rw [if_neg hl]
    unfold bky at hl
    have a1 : ¬ (0 : Int32) < nI (cnN br (nI k) 6) - nI (cnN br (nI s) 6) := by rw [Int32.lt_iff_toInt_lt, ed, e0]; omega
    rw [if_neg a1]
    by_cases a2 : nI (cnN br (nI k) 6) - nI (cnN br (nI s) 6) = 0
    · have a3 : nI (q s) ≤ nI (q k) := by
        rw [nI_leI (by omega) (by omega)]
        rw [← Int32.toInt_inj, ed, e0] at a2
        omega
      rw [if_pos a2, if_pos a3]
    · rw [if_neg a2]
theorem seen_eq {w br : Nat → Int32} {h : Nat} (hh : h < 6) {q : Nat → Nat} (hq : ∀ s, s < 4 → w (4 * h + s) = nI (q s)) (h9 : ∀ s, s < 4 → q s ≤ 9) : fX1_seenOnBoard w br (nI h) = some (encO (upB (bav q) (bky br q 6) 4)) := by
  unfold fX1_seenOnBoard
  refine it2_go 4 (fun i => encO (upB (bav q) (bky br q 6) i)) (fun i => nI i) _ rfl rfl (fun i hi self => ?_) (fun self => ?_) 100000 (by decide)
  · simp only [X1_seenOnBoard_S5, X1_seenOnBoard_J40, X1_seenOnBoard_J38, if_neg (show ¬ (4 : Int32) ≤ nI i from nI_ge (a := i) (b := 4) hi (by omega)), of_eq hh hi, hq i hi, some_bind9, lets_def, Lp1]
    rcases upB_inv (av := bav q) (ky := bky br q 6) i with ⟨h1, -⟩ | ⟨k, hk, h1, -⟩
    · by_cases hz : q i = 0
      · have e : upB (bav q) (bky br q 6) (i + 1) = none := by simp [upB, h1, bav, hz]
        rw [if_pos ((q_le0 (h9 i hi)).mpr hz), h1, e]
      · have e : upB (bav q) (bky br q 6) (i + 1) = some i := by simp [upB, h1, bav]; omega
        rw [if_neg (fun g => hz ((q_le0 (h9 i hi)).mp g)), h1, e, if_pos (show encO none = -9 from rfl)]
        rfl
    · have n9 : ¬ encO (some k) = -9 := fun e => m9_ne k (by omega) e.symm
      by_cases hz : q i = 0
      · have e : upB (bav q) (bky br q 6) (i + 1) = some k := by simp [upB, h1, bav, hz]
        rw [if_pos ((q_le0 (h9 i hi)).mpr hz), h1, e]
      · rw [if_neg (fun g => hz ((q_le0 (h9 i hi)).mp g)), h1, if_neg n9]
        have eb := better_eq (br := br) hh hq h9 hi (show k < 4 by omega)
        rw [show encO (some k) = nI k from rfl, eb, some_bind9]
        by_cases hl : bky br q 6 i < bky br q 6 k
        · have e : upB (bav q) (bky br q 6) (i + 1) = some i := by simp [upB, h1, bav, hl]; omega
          rw [if_pos hl, if_neg one_ne, e]
          rfl
        · have e : upB (bav q) (bky br q 6) (i + 1) = some k := by simp [upB, h1, bav, hl]
          rw [if_neg hl, if_pos rfl, e]
          rfl
  · simp only [X1_seenOnBoard_S5, if_pos (show (4 : Int32) ≤ nI 4 by decide)]
theorem board_eq {S : Nat → Int32} {n h : Nat} (hn : n ≤ 6) (hh : h < 6) {q : Nat → Nat} (hS : ∀ s, s < 4 → S (4 * h + s) = nI (q s)) (h9 : ∀ s, s < 4 → q s ≤ 9) : fX7_byBoard (nI n) S (nI h) = some (encO (dnB (bav q) (bky (fun i => S (24 + i)) q n) 4)) := by
  unfold fX7_byBoard
  refine it2_go 4 (fun i => encO (dnB (bav q) (bky (fun i => S (24 + i)) q n) i)) (fun i => if i ≤ 3 then nI (3 - i) else (-1 : Int32)) _ rfl rfl (fun i hi self => ?_) (fun self => ?_) 100000 (by decide)
  · have e5 := x5n hi
    rw [if_pos (show i ≤ 3 by omega)] at e5
    have ok : okx (nI (4 * h + (3 - i))) 67 := okx_nI (by omega) (by omega)
    show X7_byBoard_S5 (nI n) S (nI h) self (encO (dnB (bav q) (bky (fun i => S (24 + i)) q n) i)) (if i ≤ 3 then nI (3 - i) else (-1 : Int32)) = self (encO (dnB (bav q) (bky (fun i => S (24 + i)) q n) (i + 1))) (if i + 1 ≤ 3 then nI (3 - (i + 1)) else -1)
    rw [if_pos (show i ≤ 3 by omega), ← e5]
    simp only [X7_byBoard_S5, X7_byBoard_J90, X7_byBoard_J43, X7_byBoard_J84, X7_byBoard_J88, X7_byBoard_J89, if_neg (show ¬ nI (3 - i) < 0 from nI_pos (by omega)), nI4', gd_t ok, nI_clamp (show 4 * h + (3 - i) < 2 ^ 31 by omega), hS (3 - i) (by omega), lets_def]
    rcases dnB_inv (av := bav q) (ky := bky (fun i => S (24 + i)) q n) i (by omega) with ⟨h1, -⟩ | ⟨k, hk0, hk, h1, -⟩
    · by_cases hz : q (3 - i) = 0
      · have e : dnB (bav q) (bky (fun i => S (24 + i)) q n) (i + 1) = none := by simp [dnB, h1, bav, hz]
        rw [if_pos ((q_le0 (h9 (3 - i) (by omega))).mpr hz), h1, e]
      · have e : dnB (bav q) (bky (fun i => S (24 + i)) q n) (i + 1) = some (3 - i) := by simp [dnB, h1, bav]; omega
        rw [if_neg (fun g => hz ((q_le0 (h9 (3 - i) (by omega))).mp g)), h1, e, if_pos (show encO none = -9 from rfl), if_pos (show encO none = -9 from rfl)]
        rfl
    · have n9 : ¬ encO (some k) = -9 := fun e => m9_ne k (by omega) e.symm
      by_cases hz : q (3 - i) = 0
      · have e : dnB (bav q) (bky (fun i => S (24 + i)) q n) (i + 1) = some k := by simp [dnB, h1, bav, hz]
        rw [if_pos ((q_le0 (h9 (3 - i) (by omega))).mpr hz), h1, e]
      · have ok2 : okx (nI (4 * h + k)) 67 := okx_nI (by omega) (by omega)
        have c1 := cnN_le (b := fun i => S (24 + i)) (x := nI (3 - i)) (m := n)
        have c2 := cnN_le (b := fun i => S (24 + i)) (x := nI k) (m := n)
        have g1 := h9 (3 - i) (by omega)
        have g2 := h9 k hk
        have ed : (nI (cnN (fun i => S (24 + i)) (nI (3 - i)) n) - nI (cnN (fun i => S (24 + i)) (nI k) n)).toInt = (cnN (fun i => S (24 + i)) (nI (3 - i)) n : Int) - cnN (fun i => S (24 + i)) (nI k) n := pk_sub_toInt (by omega) (by omega)
        have e0 : (0 : Int32).toInt = 0 := rfl
        rw [if_neg (fun g => hz ((q_le0 g1).mp g)), h1, if_neg n9]
        simp only [show encO (some k) = nI k from rfl, broughtBy_eq hn, cntB_nI, some_bind9, nI4', gd_t ok, gd_t ok2, nI_clamp (show 4 * h + k < 2 ^ 31 by omega), hS k hk]
        rw [show encO (some k) = nI k from rfl] at n9
        rw [if_neg n9]
        by_cases hl : bky (fun i => S (24 + i)) q n (3 - i) ≤ bky (fun i => S (24 + i)) q n k
        · have e : dnB (bav q) (bky (fun i => S (24 + i)) q n) (i + 1) = some (3 - i) := by simp [dnB, h1, bav, hl]; omega
          rw [e]
          unfold bky at hl
          by_cases a1 : nI (cnN (fun i => S (24 + i)) (nI (3 - i)) n) - nI (cnN (fun i => S (24 + i)) (nI k) n) < 0
          · rw [if_pos a1]; rfl
          · rw [if_neg a1]
            rw [Int32.lt_iff_toInt_lt, ed, e0] at a1
            have a2 : nI (cnN (fun i => S (24 + i)) (nI (3 - i)) n) - nI (cnN (fun i => S (24 + i)) (nI k) n) = 0 := by
              rw [← Int32.toInt_inj, ed, e0]; omega
            have a3 : ¬ nI (q (3 - i)) < nI (q k) := by
              rw [nI_ltI (by omega) (by omega)]
              rw [← Int32.toInt_inj, ed, e0] at a2
              omega
            rw [if_pos a2, if_neg a3]
            rfl
        · have e : dnB (bav q) (bky (fun i => S (24 + i)) q n) (i + 1) = some k := by simp [dnB, h1, bav, hl]
          rw [e]
          unfold bky at hl
          have a1 : ¬ nI (cnN (fun i => S (24 + i)) (nI (3 - i)) n) - nI (cnN (fun i => S (24 + i)) (nI k) n) < 0 := by
            rw [Int32.lt_iff_toInt_lt, ed, e0]; omega
          rw [if_neg a1]
          by_cases a2 : nI (cnN (fun i => S (24 + i)) (nI (3 - i)) n) - nI (cnN (fun i => S (24 + i)) (nI k) n) = 0
          · have a3 : nI (q (3 - i)) < nI (q k) := by
              rw [nI_ltI (by omega) (by omega)]
              rw [← Int32.toInt_inj, ed, e0] at a2
              omega
            rw [if_pos a2, if_pos a3]
            rfl
          · rw [if_neg a2]
            rfl
  · show X7_byBoard_S5 (nI n) S (nI h) self (encO (dnB (bav q) (bky (fun i => S (24 + i)) q n) 4)) (-1) = _
    simp only [X7_byBoard_S5, if_pos (show (-1 : Int32) < 0 by decide)]
